section ZHEAP
theorem zK_lt {c : Nat} (h : zK c ≠ 0) : c < 520 := by
  rcases Nat.lt_or_ge c 520 with q | q
  · exact q
  · refine absurd ?_ h
    unfold zK
    repeat rw [if_neg (by omega)]
/-- a fact of every cell, looked through -/
theorem zK_all {P : Nat → Prop} [DecidablePred P] (h : (List.range 520).all (fun c => decide (P c)) = true) {c : Nat} (hc : zK c ≠ 0) : P c := co_dec h (zK_lt hc)
theorem zV_K {Y : zLy} {c k : Nat} (h : zV Y c = k) (h0 : k ≠ 0) : zK c = k := by
  unfold zV at h
  split at h
  · exact h
  · exact absurd h.symm h0
theorem zV_lo {Y : zLy} {c k : Nat} (h : zK c = k) (hc : c < 410) : zV Y c = k := (if_pos (Or.inl hc)).trans h
theorem zV_1 {Y : zLy} {c k : Nat} (hl : zlv Y = 1) (h : zK c = k) (hc : c < 420) : zV Y c = k := (if_pos (Or.inr (Or.inl ⟨hl, hc⟩))).trans h
theorem zV_2 {Y : zLy} {c k : Nat} (hl : zlv Y = 2) (h : zK c = k) (hc : 420 ≤ c) : zV Y c = k := (if_pos (Or.inr (Or.inr ⟨hl, hc⟩))).trans h
theorem zV_n {Y : zLy} {c : Nat} (h : zV Y c ≠ 0) : zK c ≠ 0 := by
  unfold zV at h
  split at h
  · exact h
  · exact absurd rfl h
theorem zK6_lo {c : Nat} (h : zK c = 6) : c < 410 := zK_all (P := fun c => zK c = 6 → c < 410) (by decide +kernel) (c := c) (by omega) h
theorem zV6 {Y : zLy} {c : Nat} (h : zK c = 6) : zV Y c = 6 := zV_lo h (zK6_lo h)
theorem zwr_ne {Y : zLy} {σ : zSt} {c j : Nat} {v : Int} {c' : Nat} (h : c' ≠ c) (k : Nat) : zce Y (zwr σ c j v) c' k = zce Y σ c' k := by
  have e : ∀ j', (zwr σ c j v).1 c' j' = σ.1 c' j' := fun j' => if_neg (fun q => h q.1)
  have e2 : (zwr σ c j v).2 = σ.2 := rfl
  have e3 : zfs Y (zwr σ c j v) c' k = zfs Y σ c' k := by unfold zfs; simp only [e, e2]
  unfold zce
  simp only [e, e2, e3]
theorem zws_ne {Y : zLy} {σ : zSt} {j r : Nat} {c' : Nat} {k : Nat} (h : k ≠ 30) : zce Y (zws σ j r) c' k = zce Y σ c' k := by
  have e3 : zfs Y (zws σ j r) c' k = zfs Y σ c' k := by
    unfold zfs
    split <;> rfl
  unfold zce
  rw [e3]
  split
  · rfl
  · split
    · rfl
    · split
      · rfl
      · rfl
theorem zi01 : ¬ (i32 0 < 0 ∨ 1 ≤ (i32 0).toNatClampNeg) := by decide +kernel
theorem zH_upd {Y : zLy} {σ σ' : zSt} {s : State} {H H1 : Heap} {c : Nat} (hok : zOK Y s) (hH : zH Y σ H) (hc : zV Y c ≠ 0) (he : va_at Y.2.1 zcl (zad Y c, zce Y σ' c (zV Y c)) H1) (ho : ∀ c', c' ≠ c → zV Y c' ≠ 0 → zce Y σ' c' (zV Y c') = zce Y σ c' (zV Y c')) (oq : ∀ q : Nat, q ≠ zad Y c → H1[q]? = H[q]?) : zH Y σ' H1 := by
  intro c' h'
  by_cases e : c' = c
  · rw [e]; exact he
  · rw [ho c' e h']
    exact (hH c' h').kept (oq _ (fun q => e (hok.2.1 c' c h' hc q)))
theorem zce_o {Y : zLy} {σ : zSt} {c k : Nat} (h : k < 10) : zce Y σ c k = .inr (k - 1, zfs Y σ c k) := by unfold zce; rw [if_pos h]
theorem zce_i {Y : zLy} {σ : zSt} {c k : Nat} (h : 10 ≤ k ∧ k < 20) : zce Y σ c k = .inl (zcA Y 0, zlen k, .inl (fun j => i32 (σ.1 c j))) := by unfold zce; rw [if_neg (by omega), if_pos h.2]
theorem zce_b {Y : zLy} {σ : zSt} {c k : Nat} (h : 20 ≤ k ∧ k < 30) : zce Y σ c k = .inl (zcA Y 1, zlen k, .inl (fun j => i32 (σ.1 c j))) := by unfold zce; rw [if_neg (by omega), if_neg (by omega), if_pos h.2]
theorem zce_q {Y : zLy} {σ : zSt} {c : Nat} : zce Y σ c 30 = .inl (zcA Y 2, 6, .inr (.inr (.inr (.inr (fun j => some (zsd Y (σ.2.1 j))))))) := rfl
theorem zP1 {Y : zLy} {σ : zSt} {H : Heap} {c k : Nat} (hH : zH Y σ H) (hk : zV Y c = k) (h0 : k ≠ 0) : va_P Y.2.1 zcl [(zad Y c, zce Y σ c k)] H := by
  subst hk
  intro j q hq
  match j, hq with
  | 0, hq => cases hq; exact hH c h0
  | j + 1, hq => cases hq
theorem zV_bool (x : Int) (h : x = 0 ∨ x = 1) : vp_nar .boolean (i32 x) = i32 x := by rcases h with rfl | rfl <;> decide +kernel
theorem zN_bool (x : Int) (h : x = 0 ∨ x = 1) : narrow .boolean (.int (i32 x)) = .int (i32 x) := by rcases h with rfl | rfl <;> decide +kernel
variable {ρ : Type} {Y : zLy} {p : Program} {l : Launch} {e : Env} {R : Room} {s : State} {m : MethodId} {args : Array Value} {below : List Frame} {meth : Method} {c : Code} {nl k n : Nat} {kq : ρ → State → Prop} {σ : zSt} {lv lv' : List (Nat × Value)} {rest : List Value} {pc tgt : Nat} {off : Int} {o ot oe : Option ρ} {own : String} {cc : ByteArray} {ret : Option FieldType}
theorem zr_get (cx : zCx Y p s m args meth c own cc nl ret) {pc' : Nat} (hpc : pc + 3 = pc') {c1 : Nat} (kd : Nat) (hk : zV Y c1 = kd) (h0 : kd ≠ 0 ∧ kd < 10) {C : String} {T : u_T} {N : Nat} (hc : zcl[kd - 1]? = some (C, T, N)) (hin : ∀ w ∈ u_ws C T N, w ∈ zG) (j : Nat) (hj : j < N) {index : Nat} (hlink : Cond.fieldLink own index C (T j).2.1 (T j).2.2.1 ∈ zG) (hT : (T j).1 = C) {v : Value} (hv : (zfs Y σ c1 kd)[j]? = some v) (hdg : decode cc pc = .ok (.getfield index, 3)) (kk : zWo Y p l e R s m args below meth c nl k n kq σ lv (v :: rest) pc' (o)) : zWo Y p l e R s m args below meth c nl k n kq σ lv (.ref (zad Y c1) :: rest) pc (o) := by
  obtain ⟨hx, hb, hml, hr0, hlk, hown, hts, hok, hz⟩ := id cx
  subst hpc
  intro r hr H locs ls hH hS hl
  have hP := zP1 hH hk h0.1
  rw [zce_o h0.2] at hP
  exact va_get hx hb hts hin hown hok.1 hP 0 rfl hc j hj (hts _ hlink) (fun x h => hT ▸ h) hv hdg (kk r hr H locs ls hH hS hl)
theorem zput_at {Y : zLy} {σ σ' : zSt} {s : State} {H1 : Heap} {c1 kd j : Nat} {C : String} {T : u_T} {N : Nat} {v : Value} {own : String} (hok : zOK Y s) (hts : ∀ w ∈ zG, w.before args s = true) (hin : ∀ w ∈ u_ws C T N, w ∈ zG) (ty0 : Nat → FieldType) (hty : ∀ k, k < N → parseFieldDescriptor (T k).2.2.1 = some (ty0 k)) (hnm : ∀ a, a < N → ∀ b, b < N → a ≠ b → (T a).2.1 ≠ (T b).2.1) (hc : zcl[kd - 1]? = some (C, T, N)) (hj : j < N) {cell : Cell} (q2 : cell.cls = Y.2.1.1 (kd - 1)) (q3 : cell.vm = .none) (q4 : ∀ i, i < N → cell.slots[Y.2.1.2 (kd - 1) i]? = some (vp_V (zfs Y σ c1 kd) i)) (hl : j < (zfs Y σ c1 kd).length) (hset : zfs Y σ' c1 kd = (zfs Y σ c1 kd).set j v) (e1 : H1[zad Y c1]? = some (cell.setSlot (Y.2.1.2 (kd - 1) j) v)) (h10 : kd < 10) : va_at Y.2.1 zcl (zad Y c1, zce Y σ' c1 kd) H1 := by
  rw [zce_o h10, hset]
  exact ⟨_, hc, t_OB.to (V := updV (vp_V (zfs Y σ c1 kd)) j v) ⟨_, e1, q2, q3, t_set q4 (va_apart (own := own) hts hin ty0 hty hnm hok.1 hc) hj v⟩ (fun i _ => vp_updV_set hl v i)⟩
theorem zr_put (cx : zCx Y p s m args meth c own cc nl ret) {pc' : Nat} (hpc : pc + 3 = pc') {c1 : Nat} (kd : Nat) (hk : zV Y c1 = kd) (h0 : kd ≠ 0 ∧ kd < 10) {C : String} {T : u_T} {N : Nat} (hc : zcl[kd - 1]? = some (C, T, N)) (hin : ∀ w ∈ u_ws C T N, w ∈ zG) (ty0 : Nat → FieldType) (hty : ∀ k, k < N → parseFieldDescriptor (T k).2.2.1 = some (ty0 k)) (hnm : ∀ a, a < N → ∀ b, b < N → a ≠ b → (T a).2.1 ≠ (T b).2.1) (j : Nat) (hj : j < N) {index : Nat} (hlink : Cond.fieldLink own index C (T j).2.1 (T j).2.2.1 ∈ zG) (hT : (T j).1 = C) (hfin : (T j).2.2.2 = false) {x : Int} (hd : parseFieldDescriptor (T j).2.2.1 = some .int) (hl0 : j < (zfs Y σ c1 kd).length) (hset : zfs Y (zwr σ c1 j x) c1 kd = (zfs Y σ c1 kd).set j (.int (i32 x))) (hdg : decode cc pc = .ok (.putfield index, 3)) (kk : zWo Y p l e R s m args below meth c nl k n kq (zwr σ c1 j x) lv (rest) pc' (o)) : zWo Y p l e R s m args below meth c nl k n kq σ lv (.int (i32 x) :: .ref (zad Y c1) :: rest) pc (o) := by
  obtain ⟨hx, hb, hml, hr0, hlk, hown, hts, hok, hz⟩ := id cx
  subst hpc
  intro r hr H locs ls hH hS hl
  have hP := zP1 hH hk h0.1
  rw [zce_o h0.2] at hP
  obtain ⟨r1, h1, cell, q1, q2, q3, q4⟩ := hP 0 _ rfl
  have hr1 : r1 = (C, T, N) := Option.some.inj (h1.symm.trans hc)
  subst hr1
  obtain ⟨hSl, hfc, kC, hkC, hkind⟩ := hok.1.1 (kd - 1) _ hc
  obtain ⟨cf, kf, fi, f, hi, hsl⟩ := hSl j hj
  have hlay := hts _ (hin _ (u_in_lay hj))
  unfold u_lay at hlay
  rw [if_neg (by rw [hfin]; decide)] at hlay
  have hst := (u_facts hfc hkC (u_lays hts hin hj) hi).1
  have h6 := u_store hfc hkC hkind hlay hi hd (v := .int (i32 x)) rfl rfl
  have hi2 : s.fieldFound? C (T j).2.1 (T j).2.2.1 = some (cf, kf, fi, f) := hT ▸ hi
  refine W.putK hx hb (f := f) ⟨hown, hts _ hlink, ⟨_, _, _, hi2⟩, hst⟩ (by rw [q2]; exact h6) q1 q3 (by rw [hsl]; exact k2_hasslot (q4 j hj)) rfl rfl hdg fun H' e1 e2 e3 => ?_
  rw [hsl] at e1 ⊢
  refine kk r hr H' _ ls ?_ (hS.put e2 e3 (hok.2.2 c1 (hk ▸ h0.1))) hl
  refine zH_upd hok hH (hk ▸ h0.1) ?_ (fun c' hc' hk' => zwr_ne hc' _) e3
  rw [hk]
  exact zput_at (own := own) hok hts hin ty0 hty hnm hc hj q2 q3 q4 hl0 hset e1 h0.2
theorem zr_iald (cx : zCx Y p s m args meth c own cc nl ret) {pc' : Nat} (hpc : pc + 1 = pc') {a : Nat} (kd : Nat) (hk : zV Y a = kd) (h0 : 10 ≤ kd ∧ kd < 20) {L : Int} (hL : L = (zlen kd : Int)) {i : Int} (hdg : decode cc pc = .ok (.iaload, 1)) (kk : zWo Y p l e R s m args below meth c nl k n kq σ lv (.int (i32 (σ.1 a i.toNat)) :: rest) pc' (o)) : zWo Y p l e R s m args below meth c nl k n kq σ lv (.int (i32 i) :: .ref (zad Y a) :: rest) pc ((zck (0 ≤ i ∧ i < L) o)) := by
  obtain ⟨hx, hb, hml, hr0, hlk, hown, hts, hok, hz⟩ := id cx
  subst hpc
  intro r hr H locs ls hH hS hl
  obtain ⟨h, hr⟩ := zck_some hr
  rw [hL] at h
  obtain ⟨hi, ht⟩ := i32_in h (zlen_lt kd)
  have hP := zP1 hH hk (by omega)
  rw [zce_i h0] at hP
  have h2 := kk r hr H locs ls hH hS hl
  rw [← ht] at h2
  exact va_iald hx hb hok.1 hP 0 0 rfl rfl hi hdg h2
theorem zr_bald (cx : zCx Y p s m args meth c own cc nl ret) {pc' : Nat} (hpc : pc + 1 = pc') {a : Nat} (kd : Nat) (hk : zV Y a = kd) (h0 : 20 ≤ kd ∧ kd < 30) {L : Int} (hL : L = (zlen kd : Int)) {i : Int} (hdg : decode cc pc = .ok (.baload, 1)) (kk : zWo Y p l e R s m args below meth c nl k n kq σ lv (.int (i32 (σ.1 a i.toNat)) :: rest) pc' (o)) : zWo Y p l e R s m args below meth c nl k n kq σ lv (.int (i32 i) :: .ref (zad Y a) :: rest) pc ((zck (0 ≤ i ∧ i < L) o)) := by
  obtain ⟨hx, hb, hml, hr0, hlk, hown, hts, hok, hz⟩ := id cx
  subst hpc
  intro r hr H locs ls hH hS hl
  obtain ⟨h, hr⟩ := zck_some hr
  rw [hL] at h
  obtain ⟨hi, ht⟩ := i32_in h (zlen_lt kd)
  have hP := zP1 hH hk (by omega)
  rw [zce_b h0] at hP
  have h2 := kk r hr H locs ls hH hS hl
  rw [← ht] at h2
  exact va_zald hx hb hok.1 hP 0 1 rfl rfl hi hdg h2
theorem zr_iast (cx : zCx Y p s m args meth c own cc nl ret) {pc' : Nat} (hpc : pc + 1 = pc') {a : Nat} (kd : Nat) (hk : zV Y a = kd) (h0 : 10 ≤ kd ∧ kd < 20) {L : Int} (hL : L = (zlen kd : Int)) {i x : Int} (hdg : decode cc pc = .ok (.iastore, 1)) (kk : zWo Y p l e R s m args below meth c nl k n kq (zwr σ a i.toNat x) lv (rest) pc' (o)) : zWo Y p l e R s m args below meth c nl k n kq σ lv (.int (i32 x) :: .int (i32 i) :: .ref (zad Y a) :: rest) pc ((zck (0 ≤ i ∧ i < L) o)) := by
  obtain ⟨hx, hb, hml, hr0, hlk, hown, hts, hok, hz⟩ := id cx
  subst hpc
  intro r hr H locs ls hH hS hl
  obtain ⟨h, hr⟩ := zck_some hr
  skip
  rw [hL] at h
  obtain ⟨hi, ht⟩ := i32_in h (zlen_lt kd)
  have hP := zP1 hH hk (by omega)
  rw [zce_i h0] at hP
  refine W.iast hx hb (hP 0 _ rfl) ((hok.1.2 0 _ rfl).1 (zlen kd) (fun j => .int (i32 (σ.1 a j)))) (fun q => by cases q) (by show ¬ (i32 i < 0 ∨ (arrV _ _ _).slots.size ≤ _); rw [arrV_size]; exact hi) rfl rfl hdg fun H1 e z oq => ?_
  refine kk r hr H1 _ ls ?_ (hS.put z oq (hok.2.2 a (by omega))) hl
  refine zH_upd hok hH (by omega) ?_ (fun c' hc' hk' => zwr_ne hc' _) oq
  rw [hk, zce_i h0]
  show H1[zad Y a]? = some (vp_cell _ _)
  rw [e]
  rw [vp_cell_i, vp_cell_i, arrV_store]
  congr 2
  funext q
  rw [ht]
  by_cases hq : q = i.toNat
  · simp [updV, hq, zwr]
  · simp [updV, hq, zwr]
theorem zr_bast (cx : zCx Y p s m args meth c own cc nl ret) {pc' : Nat} (hpc : pc + 1 = pc') {a : Nat} (kd : Nat) (hk : zV Y a = kd) (h0 : 20 ≤ kd ∧ kd < 30) {L : Int} (hL : L = (zlen kd : Int)) {i x : Int} (hdg : decode cc pc = .ok (.bastore, 1)) (kk : zWo Y p l e R s m args below meth c nl k n kq (zwr σ a i.toNat x) lv (rest) pc' (o)) : zWo Y p l e R s m args below meth c nl k n kq σ lv (.int (i32 x) :: .int (i32 i) :: .ref (zad Y a) :: rest) pc ((zck (0 ≤ i ∧ i < L) (zck (x = 0 ∨ x = 1) o))) := by
  obtain ⟨hx, hb, hml, hr0, hlk, hown, hts, hok, hz⟩ := id cx
  subst hpc
  intro r hr H locs ls hH hS hl
  obtain ⟨h, hr⟩ := zck_some hr
  obtain ⟨hbx, hr⟩ := zck_some hr
  rw [hL] at h
  obtain ⟨hi, ht⟩ := i32_in h (zlen_lt kd)
  have hP := zP1 hH hk (by omega)
  rw [zce_b h0] at hP
  refine W.zast hx hb (hP 0 _ rfl) ((hok.1.2 1 _ rfl).1 (zlen kd) (fun j => .int (i32 (σ.1 a j)))) (fun q => by cases q) (by show ¬ (i32 i < 0 ∨ (arrV _ _ _).slots.size ≤ _); rw [arrV_size]; exact hi) rfl rfl hdg fun H1 e z oq => ?_
  refine kk r hr H1 _ ls ?_ (hS.put z oq (hok.2.2 a (by omega))) hl
  refine zH_upd hok hH (by omega) ?_ (fun c' hc' hk' => zwr_ne hc' _) oq
  rw [hk, zce_b h0]
  show H1[zad Y a]? = some (vp_cell _ _)
  rw [e, zN_bool x hbx]
  rw [vp_cell_i, vp_cell_i, arrV_store]
  congr 2
  funext q
  rw [ht]
  by_cases hq : q = i.toNat
  · simp [updV, hq, zwr]
  · simp [updV, hq, zwr]
theorem zr_aald (cx : zCx Y p s m args meth c own cc nl ret) {pc' : Nat} (hpc : pc + 1 = pc') {a : Nat} (hk : zV Y a = 30) {i : Int} (hdg : decode cc pc = .ok (.aaload, 1)) (kk : zV Y (σ.2.1 i.toNat) = 6 → zWo Y p l e R s m args below meth c nl k n kq σ lv (.ref (zad Y (σ.2.1 i.toNat)) :: rest) pc' (o)) : zWo Y p l e R s m args below meth c nl k n kq σ lv (.int (i32 i) :: .ref (zad Y a) :: rest) pc ((zck (0 ≤ i ∧ i < 6) (zck (zK (σ.2.1 i.toNat) = 6) o))) := by
  obtain ⟨hx, hb, hml, hr0, hlk, hown, hts, hok, hz⟩ := id cx
  subst hpc
  intro r hr H locs ls hH hS hl
  obtain ⟨h, hr⟩ := zck_some hr
  obtain ⟨h6, hr⟩ := zck_some hr
  obtain ⟨hi, ht⟩ := i32_in (N := 6) h (by decide)
  have hP := zP1 hH hk (by decide)
  rw [zce_q] at hP
  have h2 := kk (zV6 h6) r hr H locs ls hH hS hl
  rw [← zsd_eq (zK6_lo h6)] at h2
  rw [← ht] at h2
  exact va_aldq hx hb hok.1 hP 0 2 rfl rfl hi hdg h2
theorem zr_aast (cx : zCx Y p s m args meth c own cc nl ret) {pc' : Nat} (hpc : pc + 1 = pc') {a : Nat} (hk : zV Y a = 30) (h30 : ∀ c', zV Y c' = 30 → c' = a) {i : Int} {q1 : Nat} (hq : zV Y q1 = 6) (hdg : decode cc pc = .ok (.aastore, 1)) (kk : zWo Y p l e R s m args below meth c nl k n kq (zws σ i.toNat q1) lv (rest) pc' (o)) : zWo Y p l e R s m args below meth c nl k n kq σ lv (.ref (zad Y q1) :: .int (i32 i) :: .ref (zad Y a) :: rest) pc ((zck (0 ≤ i ∧ i < 6) o)) := by
  obtain ⟨hx, hb, hml, hr0, hlk, hown, hts, hok, hz⟩ := id cx
  subst hpc
  intro r hr H locs ls hH hS hl
  have hz9 : zsd Y q1 = zad Y q1 := zsd_eq (zK6_lo (zV_K hq (by decide)))
  obtain ⟨h, hr⟩ := zck_some hr
  obtain ⟨hi, ht⟩ := i32_in (N := 6) h (by decide)
  have hP := zP1 hH hk (by decide)
  rw [zce_q] at hP
  have hQ := zP1 hH hq (by decide)
  rw [zce_o (by decide)] at hQ
  obtain ⟨r', hr', cellV, g1, g2, g3, -⟩ := hQ 0 _ rfl
  have hcls := (hok.1.1 5 (RX5, TX5, 8) rfl).2
  obtain ⟨kA, comp, k1, k2, k3, -⟩ := (hok.1.2 2 _ rfl).2
  have hcomp : comp = Y.2.1.1 5 := Option.some.inj (k3.symm.trans hcls.1)
  subst hcomp
  have hcl2 := hcls
  obtain ⟨-, kC, hkC, -⟩ := hcl2
  have hin6 : ¬ i32 i < 0 ∧ (i32 i).toNatClampNeg < 6 := ⟨fun q => hi (Or.inl q), Nat.not_le.mp fun q => hi (Or.inr q)⟩
  refine W.aast hx hb (hP 0 _ rfl) (fun q h => by cases h) (fun h => by cases h) k1 k2 rfl hkC ⟨hin6.1, by show _ < (arrV _ _ _).slots.size; rw [arrV_size]; exact hin6.2⟩ g1 (fun q h => by rw [g3] at h; cases h) (by rw [g2]; exact hkC) (by rw [g2]; exact va_assign hcls) rfl rfl hdg fun H1 e z oq => ?_
  refine kk r hr H1 _ ls ?_ (hS.put z oq (hok.2.2 a (by omega))) hl
  refine zH_upd hok hH (by omega) ?_ (fun c' hc' hk' => zws_ne (fun q => hc' (h30 c' q))) oq
  rw [hk, zce_q]
  show H1[zad Y a]? = some (vp_cell _ _)
  rw [e]
  rw [vp_cell_q, vp_cell_q, arrV_store]
  congr 2
  funext q
  rw [ht]
  by_cases hq : q = i.toNat
  · simp [updV, hq, zws, va_rf, hz9]
  · simp [updV, hq, zws]
/-- the world behind a method, in a state t with the walk's last heap -/
theorem zW_end (cx : zCx Y p s m args meth c own cc nl ret) {H : Heap} {locs : List Loc} {t : State} (hH : zH Y σ H) (hS : va_S (zA Y) s.heap H locs) (ht : t.heap = H) (hW : s.WarmedH t.vm) : zW Y σ t ∧ va_F (zA Y) s t := by
  obtain ⟨hx, hb, hml, hr0, hlk, hown, hts, hok, hz⟩ := id cx
  refine ⟨⟨hok.moved hW.alike, (zZ.warm hW hz).kept ?_, ht ▸ hH⟩, hS.F ht⟩
  intro a ha hA
  rw [ht]
  exact hS.2.1 a ha hA
def zQi (Y : zLy) (v : Int) (σ : zSt) : Array Value → State → Outcome → State → Prop := va_Qi (S := Unit) (fun r _ => r = i32 v) (fun _ t => zW Y σ t) (zA Y)
def zQl (Y : zLy) (v : Int64) (σ : zSt) : Array Value → State → Outcome → State → Prop := va_Ql (S := Unit) (fun r _ => r = v) (fun _ t => zW Y σ t) (zA Y)
def zQd (Y : zLy) (v : UInt64) (σ : zSt) : Array Value → State → Outcome → State → Prop := va_Qd (S := Unit) (fun r _ => r = v) (fun _ t => zW Y σ t) (zA Y)
def zQv (Y : zLy) (σ : zSt) : Array Value → State → Outcome → State → Prop := va_Qv (S := Unit) (fun _ => True) (fun _ t => zW Y σ t) (zA Y)
theorem zr_iretP (cx : zCx Y p s m args meth c own cc nl (some .int)) {v : Int} (hdg : decode cc pc = .ok (.ireturn, 1)) : zWo Y p l e R s m args below meth c nl 0 0 (fun v => MQ below (zQi Y v σ) args s 0 0 (zA Y)) σ lv (.int (i32 v) :: []) pc (some v) := by
  obtain ⟨hx, hb, hml, hr0, hlk, hown, hts, hok, hz⟩ := id cx
  intro r hr H locs ls hH hS hl
  cases hr
  exact W.iret hx hb hr0 (fun t ht hW => ⟨⟨i32 v, (), rfl, rfl, (zW_end cx hH hS ht hW).1⟩, (zW_end cx hH hS ht hW).2⟩) hS.2.2 hdg hlk
theorem zr_iretE (cx : zCx Y p s m args meth c own cc nl (some .int)) {v : Int} (hdg : decode cc pc = .ok (.ireturn, 1)) : zWo Y p l e R s m args below meth c nl 0 0 (fun q : Int × zSt => MQ below (zQi Y q.1 q.2) args s 0 0 (zA Y)) σ lv (.int (i32 v) :: []) pc (some (v, σ)) := by
  obtain ⟨hx, hb, hml, hr0, hlk, hown, hts, hok, hz⟩ := id cx
  intro r hr H locs ls hH hS hl
  cases hr
  exact W.iret hx hb hr0 (fun t ht hW => ⟨⟨i32 v, (), rfl, rfl, (zW_end cx hH hS ht hW).1⟩, (zW_end cx hH hS ht hW).2⟩) hS.2.2 hdg hlk
theorem zr_zretP (cx : zCx Y p s m args meth c own cc nl (some .boolean)) {v : Int} (hdg : decode cc pc = .ok (.ireturn, 1)) : zWo Y p l e R s m args below meth c nl 0 0 (fun v => MQ below (zQi Y v σ) args s 0 0 (zA Y)) σ lv (.int (i32 v) :: []) pc (zck (v = 0 ∨ v = 1) (some v)) := by
  obtain ⟨hx, hb, hml, hr0, hlk, hown, hts, hok, hz⟩ := id cx
  intro r hr H locs ls hH hS hl
  obtain ⟨hv, hr⟩ := zck_some hr
  cases hr
  exact W.zret hx hb hr0 (zN_bool v hv) (fun t ht hW => ⟨⟨i32 v, (), rfl, rfl, (zW_end cx hH hS ht hW).1⟩, (zW_end cx hH hS ht hW).2⟩) hS.2.2 hdg hlk
theorem zr_zretE (cx : zCx Y p s m args meth c own cc nl (some .boolean)) {v : Int} (hdg : decode cc pc = .ok (.ireturn, 1)) : zWo Y p l e R s m args below meth c nl 0 0 (fun q : Int × zSt => MQ below (zQi Y q.1 q.2) args s 0 0 (zA Y)) σ lv (.int (i32 v) :: []) pc (zck (v = 0 ∨ v = 1) (some (v, σ))) := by
  obtain ⟨hx, hb, hml, hr0, hlk, hown, hts, hok, hz⟩ := id cx
  intro r hr H locs ls hH hS hl
  obtain ⟨hv, hr⟩ := zck_some hr
  cases hr
  exact W.zret hx hb hr0 (zN_bool v hv) (fun t ht hW => ⟨⟨i32 v, (), rfl, rfl, (zW_end cx hH hS ht hW).1⟩, (zW_end cx hH hS ht hW).2⟩) hS.2.2 hdg hlk
theorem zr_lretP (cx : zCx Y p s m args meth c own cc nl (some .long)) {v : Int64} (hdg : decode cc pc = .ok (.lreturn, 1)) : zWo Y p l e R s m args below meth c nl 0 0 (fun v => MQ below (zQl Y v σ) args s 0 0 (zA Y)) σ lv (.long v :: []) pc (some v) := by
  obtain ⟨hx, hb, hml, hr0, hlk, hown, hts, hok, hz⟩ := id cx
  intro r hr H locs ls hH hS hl
  cases hr
  exact W.lret hx hb hr0 (fun t ht hW => ⟨⟨v, (), rfl, rfl, (zW_end cx hH hS ht hW).1⟩, (zW_end cx hH hS ht hW).2⟩) hS.2.2 hdg hlk
theorem zr_lretE (cx : zCx Y p s m args meth c own cc nl (some .long)) {v : Int64} (hdg : decode cc pc = .ok (.lreturn, 1)) : zWo Y p l e R s m args below meth c nl 0 0 (fun q : Int64 × zSt => MQ below (zQl Y q.1 q.2) args s 0 0 (zA Y)) σ lv (.long v :: []) pc (some (v, σ)) := by
  obtain ⟨hx, hb, hml, hr0, hlk, hown, hts, hok, hz⟩ := id cx
  intro r hr H locs ls hH hS hl
  cases hr
  exact W.lret hx hb hr0 (fun t ht hW => ⟨⟨v, (), rfl, rfl, (zW_end cx hH hS ht hW).1⟩, (zW_end cx hH hS ht hW).2⟩) hS.2.2 hdg hlk
theorem zr_dretP (cx : zCx Y p s m args meth c own cc nl (some .double)) {v : UInt64} (hdg : decode cc pc = .ok (.dreturn, 1)) : zWo Y p l e R s m args below meth c nl 0 0 (fun v => MQ below (zQd Y v σ) args s 0 0 (zA Y)) σ lv (.double v :: []) pc (some v) := by
  obtain ⟨hx, hb, hml, hr0, hlk, hown, hts, hok, hz⟩ := id cx
  intro r hr H locs ls hH hS hl
  cases hr
  exact W.dret hx hb hr0 (fun t ht hW => ⟨⟨v, (), rfl, rfl, (zW_end cx hH hS ht hW).1⟩, (zW_end cx hH hS ht hW).2⟩) hS.2.2 hdg hlk
theorem zr_dretE (cx : zCx Y p s m args meth c own cc nl (some .double)) {v : UInt64} (hdg : decode cc pc = .ok (.dreturn, 1)) : zWo Y p l e R s m args below meth c nl 0 0 (fun q : UInt64 × zSt => MQ below (zQd Y q.1 q.2) args s 0 0 (zA Y)) σ lv (.double v :: []) pc (some (v, σ)) := by
  obtain ⟨hx, hb, hml, hr0, hlk, hown, hts, hok, hz⟩ := id cx
  intro r hr H locs ls hH hS hl
  cases hr
  exact W.dret hx hb hr0 (fun t ht hW => ⟨⟨v, (), rfl, rfl, (zW_end cx hH hS ht hW).1⟩, (zW_end cx hH hS ht hW).2⟩) hS.2.2 hdg hlk
theorem zr_vretE (cx : zCx Y p s m args meth c own cc nl none) (hdg : decode cc pc = .ok (.return_, 1)) : zWo Y p l e R s m args below meth c nl 0 0 (fun σ' : zSt => MQ below (zQv Y σ') args s 0 0 (zA Y)) σ lv [] pc (some σ) := by
  obtain ⟨hx, hb, hml, hr0, hlk, hown, hts, hok, hz⟩ := id cx
  intro r hr H locs ls hH hS hl
  cases hr
  exact W.vret hx hb hr0 (fun t ht hW => ⟨⟨(), rfl, trivial, (zW_end cx hH hS ht hW).1⟩, (zW_end cx hH hS ht hW).2⟩) hS.2.2 hdg hlk
def zMt (l : Launch) (y : MethodName) (cc : ByteArray) (nl : Nat) (ret : Option FieldType) (d : Nat) (Pa : List Value) (Y : zLy) (σ : zSt) (Qc : Array Value → State → Outcome → State → Prop) : Prop := Met l y (.code y cc nl ret :: zG) (zrm d) (va_Pc Pa (zW Y σ)) Qc 0 0 (zA Y)
theorem zmet_of {l : Launch} {Y : zLy} {y : MethodName} {cc : ByteArray} {nl : Nat} {ret : Option FieldType} {d : Nat} {Pa : List Value} {σ : zSt} {Qc : Array Value → State → Outcome → State → Prop} (own : String) (how : y.cls = own) (hy : plainName y.cls = true) (hn : (lg_sl Pa).length ≤ nl)
    (body : ∀ (p : Program) (e : Env) (s : State) (m : MethodId) (below : List Frame) (meth : Method) (c : Code), zCx Y p s m Pa.toArray meth c own cc nl ret → ∀ (H : Heap) (locs : List Loc) (ls : Array Slot), zH Y σ H → va_S (zA Y) s.heap H locs → lv_has ls nl (lv_args 0 Pa) → W p l e (zrm d) s m Pa.toArray below meth c H locs 0 0 (MQ below Qc Pa.toArray s 0 0 (zA Y)) (F0 m 0 ls [])) : zMt l y cc nl ret d Pa Y σ Qc := by
  refine Met.ofW (cc := cc) (maxL := nl) (ret := ret) hy rfl ?_
  intro p e s m args below meth c s₁ B hml hv
  obtain ⟨rfl, hok, hz, hH⟩ := hv
  have hts := atoms_spec (ws := .code y cc nl ret :: zG) B.pre
  have hown : s.vm.findClass own = some m.cls := how ▸ findClass_of_methodNamed B.named
  rw [lg_entry_eq]
  exact body p e s m below meth c ⟨B.exec, B.bytes, hml, B.returns, B.notSynchronized, hown, fun w h => hts w (List.mem_cons_of_mem _ h), hok, hz⟩ s.heap [] _ hH va_S.rf (lv_entry Pa hn)
theorem zG_V {own C : String} {idx : Nat} {y : MethodName} {code : ByteArray} {n : Nat} {ret : Option FieldType} (h1 : Cond.methodLink own idx y ∈ zG) (h2 : Cond.instanceMethod y ∈ zG) (h3 : Cond.selects C y y ∈ zG) (h4 : Cond.initialized C ∈ zG) (h5 : Cond.code y code n ret ∈ zG) : GoodIn zG (wsV own idx C y (.code y code n ret :: zG)) :=
  zG_in (w0 := .tt) (fun w hw => by
    rcases List.mem_append.mp hw with h | h
    · simp only [List.mem_cons, List.not_mem_nil, or_false] at h
      rcases h with rfl | rfl | rfl | rfl
      · exact h1
      · exact h2
      · exact h3
      · exact h4
    · exact zG_call h5 w h)
theorem zG_S {own : String} {idx : Nat} {y : MethodName} {code : ByteArray} {n : Nat} {ret : Option FieldType} (h1 : Cond.methodLink own idx y ∈ zG) (h2 : Cond.static y ∈ zG) (h4 : Cond.initialized y.cls ∈ zG) (h5 : Cond.code y code n ret ∈ zG) : GoodIn zG (va_wsS own idx y (.code y code n ret :: zG)) :=
  zG_in (w0 := .tt) (fun w hw => by
    rcases List.mem_append.mp hw with h | h
    · simp only [List.mem_cons, List.not_mem_nil, or_false] at h
      rcases h with rfl | rfl | rfl
      · exact h1
      · exact h2
      · exact h4
    · exact zG_call h5 w h)
theorem zpre (cx : zCx Y p s m args meth c own cc nl ret) {H : Heap} {locs : List Loc} (hH : zH Y σ H) (hS : va_S (zA Y) s.heap H locs) {Pa : List Value} (U : State) (hU : U.heap = H) (hW : s.WarmedH U.vm) : va_Pc Pa (zW Y σ) Pa.toArray U := by
  obtain ⟨hx, hb, hml, hr0, hlk, hown, hts, hok, hz⟩ := id cx
  refine ⟨rfl, hok.moved hW.alike, (zZ.warm hW hz).kept ?_, hU ▸ hH⟩
  intro a ha hA
  rw [hU]
  exact hS.2.1 a ha hA
theorem zr_callViP (cx : zCx Y p s m args meth c own cc nl ret) {d' ml an : Nat} {C : String} {idx : Nat} {y : MethodName} {code : ByteArray} {rt : Option FieldType} {As : List Value} {st0 : List Value} {c1 : Nat} (kd : Nat) (hk : zV Y c1 = kd) (h0 : kd ≠ 0 ∧ kd < 10) {T : u_T} {N : Nat} (hc : zcl[kd - 1]? = some (C, T, N)) {fc : Option Int} {fk : Int → Option ρ} (hM : ∀ v, fc = some v → zMt l y code ml rt d' (.ref (zad Y c1) :: As) Y σ (zQi Y v σ)) (gd : GoodIn zG (wsV own idx C y (.code y code ml rt :: zG))) (hd : y.cls = C ∧ y.cls ≠ "java/lang/invoke/MethodHandle" ∧ y.cls ≠ "java/lang/invoke/VarHandle" ∧ (parseMethodDescriptor y.desc).map (fun d => d.parameters.length) = some an) (hR : d' + 1 ≤ R.frames ∧ 8 + (ml + 11) + 40 * d' ≤ R.locals) (hkn : k ≤ R.cells ∧ n ≤ R.slots) (hn : As.length = an) (hst : st0 = As.reverse ++ .ref (zad Y c1) :: rest) (hrest : (rest.map fun v => v.category).sum ≤ 8) (hdg : decode cc pc = .ok (.invokevirtual idx, 3)) {pc' : Nat} (hpc : pc + 3 = pc') (kk : ∀ v : Int, zWo Y p l e R s m args below meth c nl k n kq σ lv (.int (i32 v) :: rest) pc' (fk v)) : zWo Y p l e R s m args below meth c nl k n kq σ lv (st0) pc (zbd fc fk) := by
  subst hpc
  obtain ⟨hx, hb, hml, hr0, hlk, hown, hts, hok, hz⟩ := id cx
  intro r hr H locs ls hH hS hl
  obtain ⟨v, hf, hr⟩ := zbd_of hr
  have hP := zP1 hH hk h0.1
  rw [zce_o h0.2] at hP
  have hc1 : k + 0 ≤ R.cells := hkn.1
  have hs1 : n + 0 ≤ R.slots := hkn.2
  refine va_calli (va_runV (As := As) (rest := rest) ⟨hx, hb, hml, hown, hts⟩ (hM v hf) (cwV an hts gd rfl rfl rfl hd ⟨hR.1, hR.2⟩) ⟨zW.blind, va_recv (q0 := 0) hok.1 hP hc rfl, fun U hU hW => zpre cx hH hS U hU hW⟩ rfl hn hl.1 hst (lv_room hrest) hdg ⟨hc1, hs1⟩) hS (fun q _ h => h) (fun q h => h) (fun r1 u t H1 locs ht hvm hw hB hz1 hk1 hS => ?_)
  rw [show r1 = _ from hw]
  exact kk v r hr H1 locs ls (ht ▸ hB.2.2) hS hl
theorem zr_callViE (cx : zCx Y p s m args meth c own cc nl ret) {d' ml an : Nat} {C : String} {idx : Nat} {y : MethodName} {code : ByteArray} {rt : Option FieldType} {As : List Value} {st0 : List Value} {c1 : Nat} (kd : Nat) (hk : zV Y c1 = kd) (h0 : kd ≠ 0 ∧ kd < 10) {T : u_T} {N : Nat} (hc : zcl[kd - 1]? = some (C, T, N)) {fc : Option (Int × zSt)} {fk : Int → zSt → Option ρ} (hM : ∀ v σ', fc = some (v, σ') → zMt l y code ml rt d' (.ref (zad Y c1) :: As) Y σ (zQi Y v σ')) (gd : GoodIn zG (wsV own idx C y (.code y code ml rt :: zG))) (hd : y.cls = C ∧ y.cls ≠ "java/lang/invoke/MethodHandle" ∧ y.cls ≠ "java/lang/invoke/VarHandle" ∧ (parseMethodDescriptor y.desc).map (fun d => d.parameters.length) = some an) (hR : d' + 1 ≤ R.frames ∧ 8 + (ml + 11) + 40 * d' ≤ R.locals) (hkn : k ≤ R.cells ∧ n ≤ R.slots) (hn : As.length = an) (hst : st0 = As.reverse ++ .ref (zad Y c1) :: rest) (hrest : (rest.map fun v => v.category).sum ≤ 8) (hdg : decode cc pc = .ok (.invokevirtual idx, 3)) {pc' : Nat} (hpc : pc + 3 = pc') (kk : ∀ (v : Int) (σ' : zSt), zWo Y p l e R s m args below meth c nl k n kq σ' lv (.int (i32 v) :: rest) pc' (fk v σ')) : zWo Y p l e R s m args below meth c nl k n kq σ lv (st0) pc (zbe fc fk) := by
  subst hpc
  obtain ⟨hx, hb, hml, hr0, hlk, hown, hts, hok, hz⟩ := id cx
  intro r hr H locs ls hH hS hl
  obtain ⟨v, σ', hf, hr⟩ := zbe_of hr
  have hP := zP1 hH hk h0.1
  rw [zce_o h0.2] at hP
  have hc1 : k + 0 ≤ R.cells := hkn.1
  have hs1 : n + 0 ≤ R.slots := hkn.2
  refine va_calli (va_runV (As := As) (rest := rest) ⟨hx, hb, hml, hown, hts⟩ (hM v σ' hf) (cwV an hts gd rfl rfl rfl hd ⟨hR.1, hR.2⟩) ⟨zW.blind, va_recv (q0 := 0) hok.1 hP hc rfl, fun U hU hW => zpre cx hH hS U hU hW⟩ rfl hn hl.1 hst (lv_room hrest) hdg ⟨hc1, hs1⟩) hS (fun q _ h => h) (fun q h => h) (fun r1 u t H1 locs ht hvm hw hB hz1 hk1 hS => ?_)
  rw [show r1 = _ from hw]
  exact kk v σ' r hr H1 locs ls (ht ▸ hB.2.2) hS hl
theorem zr_callVlP (cx : zCx Y p s m args meth c own cc nl ret) {d' ml an : Nat} {C : String} {idx : Nat} {y : MethodName} {code : ByteArray} {rt : Option FieldType} {As : List Value} {st0 : List Value} {c1 : Nat} (kd : Nat) (hk : zV Y c1 = kd) (h0 : kd ≠ 0 ∧ kd < 10) {T : u_T} {N : Nat} (hc : zcl[kd - 1]? = some (C, T, N)) {fc : Option Int64} {fk : Int64 → Option ρ} (hM : ∀ v, fc = some v → zMt l y code ml rt d' (.ref (zad Y c1) :: As) Y σ (zQl Y v σ)) (gd : GoodIn zG (wsV own idx C y (.code y code ml rt :: zG))) (hd : y.cls = C ∧ y.cls ≠ "java/lang/invoke/MethodHandle" ∧ y.cls ≠ "java/lang/invoke/VarHandle" ∧ (parseMethodDescriptor y.desc).map (fun d => d.parameters.length) = some an) (hR : d' + 1 ≤ R.frames ∧ 8 + (ml + 11) + 40 * d' ≤ R.locals) (hkn : k ≤ R.cells ∧ n ≤ R.slots) (hn : As.length = an) (hst : st0 = As.reverse ++ .ref (zad Y c1) :: rest) (hrest : (rest.map fun v => v.category).sum ≤ 8) (hdg : decode cc pc = .ok (.invokevirtual idx, 3)) {pc' : Nat} (hpc : pc + 3 = pc') (kk : ∀ v : Int64, zWo Y p l e R s m args below meth c nl k n kq σ lv (.long v :: rest) pc' (fk v)) : zWo Y p l e R s m args below meth c nl k n kq σ lv (st0) pc (zbd fc fk) := by
  subst hpc
  obtain ⟨hx, hb, hml, hr0, hlk, hown, hts, hok, hz⟩ := id cx
  intro r hr H locs ls hH hS hl
  obtain ⟨v, hf, hr⟩ := zbd_of hr
  have hP := zP1 hH hk h0.1
  rw [zce_o h0.2] at hP
  have hc1 : k + 0 ≤ R.cells := hkn.1
  have hs1 : n + 0 ≤ R.slots := hkn.2
  refine va_calll (va_runV (As := As) (rest := rest) ⟨hx, hb, hml, hown, hts⟩ (hM v hf) (cwV an hts gd rfl rfl rfl hd ⟨hR.1, hR.2⟩) ⟨zW.blind, va_recv (q0 := 0) hok.1 hP hc rfl, fun U hU hW => zpre cx hH hS U hU hW⟩ rfl hn hl.1 hst (lv_room hrest) hdg ⟨hc1, hs1⟩) hS (fun q _ h => h) (fun q h => h) (fun r1 u t H1 locs ht hvm hw hB hz1 hk1 hS => ?_)
  rw [show r1 = _ from hw]
  exact kk v r hr H1 locs ls (ht ▸ hB.2.2) hS hl
theorem zr_callVlE (cx : zCx Y p s m args meth c own cc nl ret) {d' ml an : Nat} {C : String} {idx : Nat} {y : MethodName} {code : ByteArray} {rt : Option FieldType} {As : List Value} {st0 : List Value} {c1 : Nat} (kd : Nat) (hk : zV Y c1 = kd) (h0 : kd ≠ 0 ∧ kd < 10) {T : u_T} {N : Nat} (hc : zcl[kd - 1]? = some (C, T, N)) {fc : Option (Int64 × zSt)} {fk : Int64 → zSt → Option ρ} (hM : ∀ v σ', fc = some (v, σ') → zMt l y code ml rt d' (.ref (zad Y c1) :: As) Y σ (zQl Y v σ')) (gd : GoodIn zG (wsV own idx C y (.code y code ml rt :: zG))) (hd : y.cls = C ∧ y.cls ≠ "java/lang/invoke/MethodHandle" ∧ y.cls ≠ "java/lang/invoke/VarHandle" ∧ (parseMethodDescriptor y.desc).map (fun d => d.parameters.length) = some an) (hR : d' + 1 ≤ R.frames ∧ 8 + (ml + 11) + 40 * d' ≤ R.locals) (hkn : k ≤ R.cells ∧ n ≤ R.slots) (hn : As.length = an) (hst : st0 = As.reverse ++ .ref (zad Y c1) :: rest) (hrest : (rest.map fun v => v.category).sum ≤ 8) (hdg : decode cc pc = .ok (.invokevirtual idx, 3)) {pc' : Nat} (hpc : pc + 3 = pc') (kk : ∀ (v : Int64) (σ' : zSt), zWo Y p l e R s m args below meth c nl k n kq σ' lv (.long v :: rest) pc' (fk v σ')) : zWo Y p l e R s m args below meth c nl k n kq σ lv (st0) pc (zbe fc fk) := by
  subst hpc
  obtain ⟨hx, hb, hml, hr0, hlk, hown, hts, hok, hz⟩ := id cx
  intro r hr H locs ls hH hS hl
  obtain ⟨v, σ', hf, hr⟩ := zbe_of hr
  have hP := zP1 hH hk h0.1
  rw [zce_o h0.2] at hP
  have hc1 : k + 0 ≤ R.cells := hkn.1
  have hs1 : n + 0 ≤ R.slots := hkn.2
  refine va_calll (va_runV (As := As) (rest := rest) ⟨hx, hb, hml, hown, hts⟩ (hM v σ' hf) (cwV an hts gd rfl rfl rfl hd ⟨hR.1, hR.2⟩) ⟨zW.blind, va_recv (q0 := 0) hok.1 hP hc rfl, fun U hU hW => zpre cx hH hS U hU hW⟩ rfl hn hl.1 hst (lv_room hrest) hdg ⟨hc1, hs1⟩) hS (fun q _ h => h) (fun q h => h) (fun r1 u t H1 locs ht hvm hw hB hz1 hk1 hS => ?_)
  rw [show r1 = _ from hw]
  exact kk v σ' r hr H1 locs ls (ht ▸ hB.2.2) hS hl
theorem zr_callVdP (cx : zCx Y p s m args meth c own cc nl ret) {d' ml an : Nat} {C : String} {idx : Nat} {y : MethodName} {code : ByteArray} {rt : Option FieldType} {As : List Value} {st0 : List Value} {c1 : Nat} (kd : Nat) (hk : zV Y c1 = kd) (h0 : kd ≠ 0 ∧ kd < 10) {T : u_T} {N : Nat} (hc : zcl[kd - 1]? = some (C, T, N)) {fc : Option UInt64} {fk : UInt64 → Option ρ} (hM : ∀ v, fc = some v → zMt l y code ml rt d' (.ref (zad Y c1) :: As) Y σ (zQd Y v σ)) (gd : GoodIn zG (wsV own idx C y (.code y code ml rt :: zG))) (hd : y.cls = C ∧ y.cls ≠ "java/lang/invoke/MethodHandle" ∧ y.cls ≠ "java/lang/invoke/VarHandle" ∧ (parseMethodDescriptor y.desc).map (fun d => d.parameters.length) = some an) (hR : d' + 1 ≤ R.frames ∧ 8 + (ml + 11) + 40 * d' ≤ R.locals) (hkn : k ≤ R.cells ∧ n ≤ R.slots) (hn : As.length = an) (hst : st0 = As.reverse ++ .ref (zad Y c1) :: rest) (hrest : (rest.map fun v => v.category).sum ≤ 8) (hdg : decode cc pc = .ok (.invokevirtual idx, 3)) {pc' : Nat} (hpc : pc + 3 = pc') (kk : ∀ v : UInt64, zWo Y p l e R s m args below meth c nl k n kq σ lv (.double v :: rest) pc' (fk v)) : zWo Y p l e R s m args below meth c nl k n kq σ lv (st0) pc (zbd fc fk) := by
  subst hpc
  obtain ⟨hx, hb, hml, hr0, hlk, hown, hts, hok, hz⟩ := id cx
  intro r hr H locs ls hH hS hl
  obtain ⟨v, hf, hr⟩ := zbd_of hr
  have hP := zP1 hH hk h0.1
  rw [zce_o h0.2] at hP
  have hc1 : k + 0 ≤ R.cells := hkn.1
  have hs1 : n + 0 ≤ R.slots := hkn.2
  refine va_calld (va_runV (As := As) (rest := rest) ⟨hx, hb, hml, hown, hts⟩ (hM v hf) (cwV an hts gd rfl rfl rfl hd ⟨hR.1, hR.2⟩) ⟨zW.blind, va_recv (q0 := 0) hok.1 hP hc rfl, fun U hU hW => zpre cx hH hS U hU hW⟩ rfl hn hl.1 hst (lv_room hrest) hdg ⟨hc1, hs1⟩) hS (fun q _ h => h) (fun q h => h) (fun r1 u t H1 locs ht hvm hw hB hz1 hk1 hS => ?_)
  rw [show r1 = _ from hw]
  exact kk v r hr H1 locs ls (ht ▸ hB.2.2) hS hl
theorem zr_callVdE (cx : zCx Y p s m args meth c own cc nl ret) {d' ml an : Nat} {C : String} {idx : Nat} {y : MethodName} {code : ByteArray} {rt : Option FieldType} {As : List Value} {st0 : List Value} {c1 : Nat} (kd : Nat) (hk : zV Y c1 = kd) (h0 : kd ≠ 0 ∧ kd < 10) {T : u_T} {N : Nat} (hc : zcl[kd - 1]? = some (C, T, N)) {fc : Option (UInt64 × zSt)} {fk : UInt64 → zSt → Option ρ} (hM : ∀ v σ', fc = some (v, σ') → zMt l y code ml rt d' (.ref (zad Y c1) :: As) Y σ (zQd Y v σ')) (gd : GoodIn zG (wsV own idx C y (.code y code ml rt :: zG))) (hd : y.cls = C ∧ y.cls ≠ "java/lang/invoke/MethodHandle" ∧ y.cls ≠ "java/lang/invoke/VarHandle" ∧ (parseMethodDescriptor y.desc).map (fun d => d.parameters.length) = some an) (hR : d' + 1 ≤ R.frames ∧ 8 + (ml + 11) + 40 * d' ≤ R.locals) (hkn : k ≤ R.cells ∧ n ≤ R.slots) (hn : As.length = an) (hst : st0 = As.reverse ++ .ref (zad Y c1) :: rest) (hrest : (rest.map fun v => v.category).sum ≤ 8) (hdg : decode cc pc = .ok (.invokevirtual idx, 3)) {pc' : Nat} (hpc : pc + 3 = pc') (kk : ∀ (v : UInt64) (σ' : zSt), zWo Y p l e R s m args below meth c nl k n kq σ' lv (.double v :: rest) pc' (fk v σ')) : zWo Y p l e R s m args below meth c nl k n kq σ lv (st0) pc (zbe fc fk) := by
  subst hpc
  obtain ⟨hx, hb, hml, hr0, hlk, hown, hts, hok, hz⟩ := id cx
  intro r hr H locs ls hH hS hl
  obtain ⟨v, σ', hf, hr⟩ := zbe_of hr
  have hP := zP1 hH hk h0.1
  rw [zce_o h0.2] at hP
  have hc1 : k + 0 ≤ R.cells := hkn.1
  have hs1 : n + 0 ≤ R.slots := hkn.2
  refine va_calld (va_runV (As := As) (rest := rest) ⟨hx, hb, hml, hown, hts⟩ (hM v σ' hf) (cwV an hts gd rfl rfl rfl hd ⟨hR.1, hR.2⟩) ⟨zW.blind, va_recv (q0 := 0) hok.1 hP hc rfl, fun U hU hW => zpre cx hH hS U hU hW⟩ rfl hn hl.1 hst (lv_room hrest) hdg ⟨hc1, hs1⟩) hS (fun q _ h => h) (fun q h => h) (fun r1 u t H1 locs ht hvm hw hB hz1 hk1 hS => ?_)
  rw [show r1 = _ from hw]
  exact kk v σ' r hr H1 locs ls (ht ▸ hB.2.2) hS hl
theorem zr_callVvE (cx : zCx Y p s m args meth c own cc nl ret) {d' ml an : Nat} {C : String} {idx : Nat} {y : MethodName} {code : ByteArray} {rt : Option FieldType} {As : List Value} {st0 : List Value} {c1 : Nat} (kd : Nat) (hk : zV Y c1 = kd) (h0 : kd ≠ 0 ∧ kd < 10) {T : u_T} {N : Nat} (hc : zcl[kd - 1]? = some (C, T, N)) {fc : Option zSt} {fk : zSt → Option ρ} (hM : ∀ σ', fc = some σ' → zMt l y code ml rt d' (.ref (zad Y c1) :: As) Y σ (zQv Y σ')) (gd : GoodIn zG (wsV own idx C y (.code y code ml rt :: zG))) (hd : y.cls = C ∧ y.cls ≠ "java/lang/invoke/MethodHandle" ∧ y.cls ≠ "java/lang/invoke/VarHandle" ∧ (parseMethodDescriptor y.desc).map (fun d => d.parameters.length) = some an) (hR : d' + 1 ≤ R.frames ∧ 8 + (ml + 11) + 40 * d' ≤ R.locals) (hkn : k ≤ R.cells ∧ n ≤ R.slots) (hn : As.length = an) (hst : st0 = As.reverse ++ .ref (zad Y c1) :: rest) (hrest : (rest.map fun v => v.category).sum ≤ 8) (hdg : decode cc pc = .ok (.invokevirtual idx, 3)) {pc' : Nat} (hpc : pc + 3 = pc') (kk : ∀ σ' : zSt, zWo Y p l e R s m args below meth c nl k n kq σ' lv (rest) pc' (fk σ')) : zWo Y p l e R s m args below meth c nl k n kq σ lv (st0) pc (zbd fc fk) := by
  subst hpc
  obtain ⟨hx, hb, hml, hr0, hlk, hown, hts, hok, hz⟩ := id cx
  intro r hr H locs ls hH hS hl
  obtain ⟨σ', hf, hr⟩ := zbd_of hr
  have hP := zP1 hH hk h0.1
  rw [zce_o h0.2] at hP
  have hc1 : k + 0 ≤ R.cells := hkn.1
  have hs1 : n + 0 ≤ R.slots := hkn.2
  refine va_callv (va_runV (As := As) (rest := rest) ⟨hx, hb, hml, hown, hts⟩ (hM σ' hf) (cwV an hts gd rfl rfl rfl hd ⟨hR.1, hR.2⟩) ⟨zW.blind, va_recv (q0 := 0) hok.1 hP hc rfl, fun U hU hW => zpre cx hH hS U hU hW⟩ rfl hn hl.1 hst (lv_room hrest) hdg ⟨hc1, hs1⟩) hS (fun q _ h => h) (fun q h => h) (fun u t H1 locs ht hvm hw hB hz1 hk1 hS => ?_)
  exact kk σ' r hr H1 locs ls (ht ▸ hB.2.2) hS hl
theorem zr_callSiP (cx : zCx Y p s m args meth c own cc nl ret) {d' ml an : Nat} {idx : Nat} {y : MethodName} {code : ByteArray} {rt : Option FieldType} {As : List Value} {st0 : List Value}  {fc : Option Int} {fk : Int → Option ρ} (hM : ∀ v, fc = some v → zMt l y code ml rt d' As Y σ (zQi Y v σ)) (gd : GoodIn zG (va_wsS own idx y (.code y code ml rt :: zG))) (hd : y.cls ≠ "java/lang/invoke/MethodHandle" ∧ y.cls ≠ "java/lang/invoke/VarHandle" ∧ (parseMethodDescriptor y.desc).map (fun d => d.parameters.length) = some an) (hR : d' + 1 ≤ R.frames ∧ 8 + (ml + 11) + 40 * d' ≤ R.locals) (hkn : k ≤ R.cells ∧ n ≤ R.slots) (hn : As.length = an) (hst : st0 = As.reverse ++ rest) (hrest : (rest.map fun v => v.category).sum ≤ 8) (hdg : decode cc pc = .ok (.invokestatic idx, 3)) {pc' : Nat} (hpc : pc + 3 = pc') (kk : ∀ v : Int, zWo Y p l e R s m args below meth c nl k n kq σ lv (.int (i32 v) :: rest) pc' (fk v)) : zWo Y p l e R s m args below meth c nl k n kq σ lv (st0) pc (zbd fc fk) := by
  subst hpc
  obtain ⟨hx, hb, hml, hr0, hlk, hown, hts, hok, hz⟩ := id cx
  intro r hr H locs ls hH hS hl
  obtain ⟨v, hf, hr⟩ := zbd_of hr
  have hc1 : k + 0 ≤ R.cells := hkn.1
  have hs1 : n + 0 ≤ R.slots := hkn.2
  refine va_calli (va_runS (As := As) (rest := rest) ⟨hx, hb, hml, hown, hts⟩ (hM v hf) (va_cwS an hts gd rfl rfl rfl hd ⟨hR.1, hR.2⟩) ⟨zW.blind, fun U hU hW => zpre cx hH hS U hU hW⟩ rfl hn hl.1 hst (lv_room hrest) hdg ⟨hc1, hs1⟩) hS (fun q _ h => h) (fun q h => h) (fun r1 u t H1 locs ht hvm hw hB hz1 hk1 hS => ?_)
  rw [show r1 = _ from hw]
  exact kk v r hr H1 locs ls (ht ▸ hB.2.2) hS hl
theorem zr_callSiE (cx : zCx Y p s m args meth c own cc nl ret) {d' ml an : Nat} {idx : Nat} {y : MethodName} {code : ByteArray} {rt : Option FieldType} {As : List Value} {st0 : List Value}  {fc : Option (Int × zSt)} {fk : Int → zSt → Option ρ} (hM : ∀ v σ', fc = some (v, σ') → zMt l y code ml rt d' As Y σ (zQi Y v σ')) (gd : GoodIn zG (va_wsS own idx y (.code y code ml rt :: zG))) (hd : y.cls ≠ "java/lang/invoke/MethodHandle" ∧ y.cls ≠ "java/lang/invoke/VarHandle" ∧ (parseMethodDescriptor y.desc).map (fun d => d.parameters.length) = some an) (hR : d' + 1 ≤ R.frames ∧ 8 + (ml + 11) + 40 * d' ≤ R.locals) (hkn : k ≤ R.cells ∧ n ≤ R.slots) (hn : As.length = an) (hst : st0 = As.reverse ++ rest) (hrest : (rest.map fun v => v.category).sum ≤ 8) (hdg : decode cc pc = .ok (.invokestatic idx, 3)) {pc' : Nat} (hpc : pc + 3 = pc') (kk : ∀ (v : Int) (σ' : zSt), zWo Y p l e R s m args below meth c nl k n kq σ' lv (.int (i32 v) :: rest) pc' (fk v σ')) : zWo Y p l e R s m args below meth c nl k n kq σ lv (st0) pc (zbe fc fk) := by
  subst hpc
  obtain ⟨hx, hb, hml, hr0, hlk, hown, hts, hok, hz⟩ := id cx
  intro r hr H locs ls hH hS hl
  obtain ⟨v, σ', hf, hr⟩ := zbe_of hr
  have hc1 : k + 0 ≤ R.cells := hkn.1
  have hs1 : n + 0 ≤ R.slots := hkn.2
  refine va_calli (va_runS (As := As) (rest := rest) ⟨hx, hb, hml, hown, hts⟩ (hM v σ' hf) (va_cwS an hts gd rfl rfl rfl hd ⟨hR.1, hR.2⟩) ⟨zW.blind, fun U hU hW => zpre cx hH hS U hU hW⟩ rfl hn hl.1 hst (lv_room hrest) hdg ⟨hc1, hs1⟩) hS (fun q _ h => h) (fun q h => h) (fun r1 u t H1 locs ht hvm hw hB hz1 hk1 hS => ?_)
  rw [show r1 = _ from hw]
  exact kk v σ' r hr H1 locs ls (ht ▸ hB.2.2) hS hl
theorem zr_callSlP (cx : zCx Y p s m args meth c own cc nl ret) {d' ml an : Nat} {idx : Nat} {y : MethodName} {code : ByteArray} {rt : Option FieldType} {As : List Value} {st0 : List Value}  {fc : Option Int64} {fk : Int64 → Option ρ} (hM : ∀ v, fc = some v → zMt l y code ml rt d' As Y σ (zQl Y v σ)) (gd : GoodIn zG (va_wsS own idx y (.code y code ml rt :: zG))) (hd : y.cls ≠ "java/lang/invoke/MethodHandle" ∧ y.cls ≠ "java/lang/invoke/VarHandle" ∧ (parseMethodDescriptor y.desc).map (fun d => d.parameters.length) = some an) (hR : d' + 1 ≤ R.frames ∧ 8 + (ml + 11) + 40 * d' ≤ R.locals) (hkn : k ≤ R.cells ∧ n ≤ R.slots) (hn : As.length = an) (hst : st0 = As.reverse ++ rest) (hrest : (rest.map fun v => v.category).sum ≤ 8) (hdg : decode cc pc = .ok (.invokestatic idx, 3)) {pc' : Nat} (hpc : pc + 3 = pc') (kk : ∀ v : Int64, zWo Y p l e R s m args below meth c nl k n kq σ lv (.long v :: rest) pc' (fk v)) : zWo Y p l e R s m args below meth c nl k n kq σ lv (st0) pc (zbd fc fk) := by
  subst hpc
  obtain ⟨hx, hb, hml, hr0, hlk, hown, hts, hok, hz⟩ := id cx
  intro r hr H locs ls hH hS hl
  obtain ⟨v, hf, hr⟩ := zbd_of hr
  have hc1 : k + 0 ≤ R.cells := hkn.1
  have hs1 : n + 0 ≤ R.slots := hkn.2
  refine va_calll (va_runS (As := As) (rest := rest) ⟨hx, hb, hml, hown, hts⟩ (hM v hf) (va_cwS an hts gd rfl rfl rfl hd ⟨hR.1, hR.2⟩) ⟨zW.blind, fun U hU hW => zpre cx hH hS U hU hW⟩ rfl hn hl.1 hst (lv_room hrest) hdg ⟨hc1, hs1⟩) hS (fun q _ h => h) (fun q h => h) (fun r1 u t H1 locs ht hvm hw hB hz1 hk1 hS => ?_)
  rw [show r1 = _ from hw]
  exact kk v r hr H1 locs ls (ht ▸ hB.2.2) hS hl
theorem zr_callSlE (cx : zCx Y p s m args meth c own cc nl ret) {d' ml an : Nat} {idx : Nat} {y : MethodName} {code : ByteArray} {rt : Option FieldType} {As : List Value} {st0 : List Value}  {fc : Option (Int64 × zSt)} {fk : Int64 → zSt → Option ρ} (hM : ∀ v σ', fc = some (v, σ') → zMt l y code ml rt d' As Y σ (zQl Y v σ')) (gd : GoodIn zG (va_wsS own idx y (.code y code ml rt :: zG))) (hd : y.cls ≠ "java/lang/invoke/MethodHandle" ∧ y.cls ≠ "java/lang/invoke/VarHandle" ∧ (parseMethodDescriptor y.desc).map (fun d => d.parameters.length) = some an) (hR : d' + 1 ≤ R.frames ∧ 8 + (ml + 11) + 40 * d' ≤ R.locals) (hkn : k ≤ R.cells ∧ n ≤ R.slots) (hn : As.length = an) (hst : st0 = As.reverse ++ rest) (hrest : (rest.map fun v => v.category).sum ≤ 8) (hdg : decode cc pc = .ok (.invokestatic idx, 3)) {pc' : Nat} (hpc : pc + 3 = pc') (kk : ∀ (v : Int64) (σ' : zSt), zWo Y p l e R s m args below meth c nl k n kq σ' lv (.long v :: rest) pc' (fk v σ')) : zWo Y p l e R s m args below meth c nl k n kq σ lv (st0) pc (zbe fc fk) := by
  subst hpc
  obtain ⟨hx, hb, hml, hr0, hlk, hown, hts, hok, hz⟩ := id cx
  intro r hr H locs ls hH hS hl
  obtain ⟨v, σ', hf, hr⟩ := zbe_of hr
  have hc1 : k + 0 ≤ R.cells := hkn.1
  have hs1 : n + 0 ≤ R.slots := hkn.2
  refine va_calll (va_runS (As := As) (rest := rest) ⟨hx, hb, hml, hown, hts⟩ (hM v σ' hf) (va_cwS an hts gd rfl rfl rfl hd ⟨hR.1, hR.2⟩) ⟨zW.blind, fun U hU hW => zpre cx hH hS U hU hW⟩ rfl hn hl.1 hst (lv_room hrest) hdg ⟨hc1, hs1⟩) hS (fun q _ h => h) (fun q h => h) (fun r1 u t H1 locs ht hvm hw hB hz1 hk1 hS => ?_)
  rw [show r1 = _ from hw]
  exact kk v σ' r hr H1 locs ls (ht ▸ hB.2.2) hS hl
theorem zr_callSdP (cx : zCx Y p s m args meth c own cc nl ret) {d' ml an : Nat} {idx : Nat} {y : MethodName} {code : ByteArray} {rt : Option FieldType} {As : List Value} {st0 : List Value}  {fc : Option UInt64} {fk : UInt64 → Option ρ} (hM : ∀ v, fc = some v → zMt l y code ml rt d' As Y σ (zQd Y v σ)) (gd : GoodIn zG (va_wsS own idx y (.code y code ml rt :: zG))) (hd : y.cls ≠ "java/lang/invoke/MethodHandle" ∧ y.cls ≠ "java/lang/invoke/VarHandle" ∧ (parseMethodDescriptor y.desc).map (fun d => d.parameters.length) = some an) (hR : d' + 1 ≤ R.frames ∧ 8 + (ml + 11) + 40 * d' ≤ R.locals) (hkn : k ≤ R.cells ∧ n ≤ R.slots) (hn : As.length = an) (hst : st0 = As.reverse ++ rest) (hrest : (rest.map fun v => v.category).sum ≤ 8) (hdg : decode cc pc = .ok (.invokestatic idx, 3)) {pc' : Nat} (hpc : pc + 3 = pc') (kk : ∀ v : UInt64, zWo Y p l e R s m args below meth c nl k n kq σ lv (.double v :: rest) pc' (fk v)) : zWo Y p l e R s m args below meth c nl k n kq σ lv (st0) pc (zbd fc fk) := by
  subst hpc
  obtain ⟨hx, hb, hml, hr0, hlk, hown, hts, hok, hz⟩ := id cx
  intro r hr H locs ls hH hS hl
  obtain ⟨v, hf, hr⟩ := zbd_of hr
  have hc1 : k + 0 ≤ R.cells := hkn.1
  have hs1 : n + 0 ≤ R.slots := hkn.2
  refine va_calld (va_runS (As := As) (rest := rest) ⟨hx, hb, hml, hown, hts⟩ (hM v hf) (va_cwS an hts gd rfl rfl rfl hd ⟨hR.1, hR.2⟩) ⟨zW.blind, fun U hU hW => zpre cx hH hS U hU hW⟩ rfl hn hl.1 hst (lv_room hrest) hdg ⟨hc1, hs1⟩) hS (fun q _ h => h) (fun q h => h) (fun r1 u t H1 locs ht hvm hw hB hz1 hk1 hS => ?_)
  rw [show r1 = _ from hw]
  exact kk v r hr H1 locs ls (ht ▸ hB.2.2) hS hl
theorem zr_callSdE (cx : zCx Y p s m args meth c own cc nl ret) {d' ml an : Nat} {idx : Nat} {y : MethodName} {code : ByteArray} {rt : Option FieldType} {As : List Value} {st0 : List Value}  {fc : Option (UInt64 × zSt)} {fk : UInt64 → zSt → Option ρ} (hM : ∀ v σ', fc = some (v, σ') → zMt l y code ml rt d' As Y σ (zQd Y v σ')) (gd : GoodIn zG (va_wsS own idx y (.code y code ml rt :: zG))) (hd : y.cls ≠ "java/lang/invoke/MethodHandle" ∧ y.cls ≠ "java/lang/invoke/VarHandle" ∧ (parseMethodDescriptor y.desc).map (fun d => d.parameters.length) = some an) (hR : d' + 1 ≤ R.frames ∧ 8 + (ml + 11) + 40 * d' ≤ R.locals) (hkn : k ≤ R.cells ∧ n ≤ R.slots) (hn : As.length = an) (hst : st0 = As.reverse ++ rest) (hrest : (rest.map fun v => v.category).sum ≤ 8) (hdg : decode cc pc = .ok (.invokestatic idx, 3)) {pc' : Nat} (hpc : pc + 3 = pc') (kk : ∀ (v : UInt64) (σ' : zSt), zWo Y p l e R s m args below meth c nl k n kq σ' lv (.double v :: rest) pc' (fk v σ')) : zWo Y p l e R s m args below meth c nl k n kq σ lv (st0) pc (zbe fc fk) := by
  subst hpc
  obtain ⟨hx, hb, hml, hr0, hlk, hown, hts, hok, hz⟩ := id cx
  intro r hr H locs ls hH hS hl
  obtain ⟨v, σ', hf, hr⟩ := zbe_of hr
  have hc1 : k + 0 ≤ R.cells := hkn.1
  have hs1 : n + 0 ≤ R.slots := hkn.2
  refine va_calld (va_runS (As := As) (rest := rest) ⟨hx, hb, hml, hown, hts⟩ (hM v σ' hf) (va_cwS an hts gd rfl rfl rfl hd ⟨hR.1, hR.2⟩) ⟨zW.blind, fun U hU hW => zpre cx hH hS U hU hW⟩ rfl hn hl.1 hst (lv_room hrest) hdg ⟨hc1, hs1⟩) hS (fun q _ h => h) (fun q h => h) (fun r1 u t H1 locs ht hvm hw hB hz1 hk1 hS => ?_)
  rw [show r1 = _ from hw]
  exact kk v σ' r hr H1 locs ls (ht ▸ hB.2.2) hS hl
theorem zr_callSvE (cx : zCx Y p s m args meth c own cc nl ret) {d' ml an : Nat} {idx : Nat} {y : MethodName} {code : ByteArray} {rt : Option FieldType} {As : List Value} {st0 : List Value}  {fc : Option zSt} {fk : zSt → Option ρ} (hM : ∀ σ', fc = some σ' → zMt l y code ml rt d' As Y σ (zQv Y σ')) (gd : GoodIn zG (va_wsS own idx y (.code y code ml rt :: zG))) (hd : y.cls ≠ "java/lang/invoke/MethodHandle" ∧ y.cls ≠ "java/lang/invoke/VarHandle" ∧ (parseMethodDescriptor y.desc).map (fun d => d.parameters.length) = some an) (hR : d' + 1 ≤ R.frames ∧ 8 + (ml + 11) + 40 * d' ≤ R.locals) (hkn : k ≤ R.cells ∧ n ≤ R.slots) (hn : As.length = an) (hst : st0 = As.reverse ++ rest) (hrest : (rest.map fun v => v.category).sum ≤ 8) (hdg : decode cc pc = .ok (.invokestatic idx, 3)) {pc' : Nat} (hpc : pc + 3 = pc') (kk : ∀ σ' : zSt, zWo Y p l e R s m args below meth c nl k n kq σ' lv (rest) pc' (fk σ')) : zWo Y p l e R s m args below meth c nl k n kq σ lv (st0) pc (zbd fc fk) := by
  subst hpc
  obtain ⟨hx, hb, hml, hr0, hlk, hown, hts, hok, hz⟩ := id cx
  intro r hr H locs ls hH hS hl
  obtain ⟨σ', hf, hr⟩ := zbd_of hr
  have hc1 : k + 0 ≤ R.cells := hkn.1
  have hs1 : n + 0 ≤ R.slots := hkn.2
  refine va_callv (va_runS (As := As) (rest := rest) ⟨hx, hb, hml, hown, hts⟩ (hM σ' hf) (va_cwS an hts gd rfl rfl rfl hd ⟨hR.1, hR.2⟩) ⟨zW.blind, fun U hU hW => zpre cx hH hS U hU hW⟩ rfl hn hl.1 hst (lv_room hrest) hdg ⟨hc1, hs1⟩) hS (fun q _ h => h) (fun q h => h) (fun u t H1 locs ht hvm hw hB hz1 hk1 hS => ?_)
  exact kk σ' r hr H1 locs ls (ht ▸ hB.2.2) hS hl
end ZHEAP
