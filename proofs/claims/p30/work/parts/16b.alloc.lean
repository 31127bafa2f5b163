section ZALLOC
/-! Rows that a method of the law makes for itself: the world with them, and back. -/
def zra (a b d : Nat) : Room := { frames := d, cells := a, slots := b, locals := 40 * d }
def zUp (Y0 : zLy) (v a : Nat) : zLy := (fun c => if c < 410 then Y0.1 c else a + (if c < 420 then c - 410 else c - 420), Y0.2.1, Y0.2.2.1, zbs Y0, v, zsb Y0, zsL Y0, zsx Y0)
def zUq (Y0 Y : zLy) (s : State) : Prop := (∃ v a, Y = zUp Y0 v a) ∧ zOK Y0 s ∧ zZ Y0 s s.heap ∧ zlv Y0 = 0
def zNw (σ : zSt) (l h : Nat) : zSt := (fun c k => if l ≤ c ∧ c < h then 0 else σ.1 c k, σ.2)
theorem zUp_ad {Y0 : zLy} {v a c : Nat} (h : c < 410) : zad (zUp Y0 v a) c = zad Y0 c := if_pos h
theorem zUp_sd {Y0 : zLy} {v a : Nat} : zsd (zUp Y0 v a) = zsd Y0 := by
  funext c
  unfold zsd
  by_cases h : c < 410
  · rw [if_pos h, if_pos h, zUp_ad h]
  · rw [if_neg h, if_neg h]
theorem zce_up {Y0 : zLy} {v a c : Nat} {σ : zSt} (hc : c < 410) (hk : zK c ≠ 0) : zce (zUp Y0 v a) σ c (zK c) = zce Y0 σ c (zK c) := by
  have h12 : zK c < 10 → c + 12 < 410 := fun h => zK_all (P := fun c => zK c < 10 → zK c ≠ 0 → c + 12 < 410) (by decide +kernel) hk h hk
  have e3 : zK c < 10 → zfs (zUp Y0 v a) σ c (zK c) = zfs Y0 σ c (zK c) := by
    intro h
    have h' := h12 h
    have q : ∀ j, j < 12 → zad (zUp Y0 v a) (c + j) = zad Y0 (c + j) := fun j hj => zUp_ad (by omega)
    have q' : ∀ j, j < 400 → zad (zUp Y0 v a) j = zad Y0 j := fun j hj => zUp_ad (by omega)
    unfold zfs
    simp only [q 1 (by decide), q 2 (by decide), q 3 (by decide), q 4 (by decide), q 5 (by decide), q 6 (by decide), q 7 (by decide), q 8 (by decide), q 9 (by decide), q 10 (by decide), q 11 (by decide), q' 10 (by decide), q' 200 (by decide), q' 30 (by decide), q' 220 (by decide), q' 240 (by decide), q' 300 (by decide), q' 310 (by decide), q' 320 (by decide)]
  unfold zce
  by_cases h : zK c < 10
  · rw [if_pos h, if_pos h, e3 h]
  · rw [if_neg h, if_neg h, zUp_sd]; rfl
theorem zV_0 {Y0 : zLy} {c : Nat} (h0 : zlv Y0 = 0) (hc : zV Y0 c ≠ 0) : c < 410 := by
  unfold zV at hc
  split at hc
  · rename_i q
    rcases q with q | q | q <;> omega
  · exact absurd rfl hc
theorem zH_dn {Y0 : zLy} {v a : Nat} {σ : zSt} {H : Heap} (h0 : zlv Y0 = 0) (h : zH (zUp Y0 v a) σ H) : zH Y0 σ H := by
  intro c hc
  have hl := zV_0 h0 hc
  have hk := zV_n hc
  have e1 : zV (zUp Y0 v a) c = zK c := zV_lo rfl hl
  have e2 : zV Y0 c = zK c := zV_lo rfl hl
  have := h c (by rw [e1]; exact hk)
  rw [e1, zce_up hl hk, zUp_ad hl] at this
  rw [e2]
  exact this
theorem zNw_ne {Y : zLy} {σ : zSt} {l h c k : Nat} (hc : c < l) : zce Y (zNw σ l h) c k = zce Y σ c k := by
  have e : ∀ j, (zNw σ l h).1 c j = σ.1 c j := fun j => if_neg (by omega)
  have e2 : (zNw σ l h).2 = σ.2 := rfl
  have e3 : zfs Y (zNw σ l h) c k = zfs Y σ c k := by unfold zfs; simp only [e, e2]
  unfold zce
  simp only [e, e2, e3]
theorem zNw_i {Y : zLy} {σ : zSt} {l h c k : Nat} (hc : l ≤ c ∧ c < h) (hk : 10 ≤ k ∧ k < 20) : zce Y (zNw σ l h) c k = .inl (zcA Y 0, zlen k, .inl (fun _ => 0)) := by
  rw [zce_i hk]
  have e : ∀ j, i32 ((zNw σ l h).1 c j) = 0 := fun j => by
    show i32 (if l ≤ c ∧ c < h then 0 else σ.1 c j) = 0
    rw [if_pos hc]
    rfl
  simp only [e]
/-- the cells that a level adds: from lo on, N of them -/
theorem zup_mk {Y0 : zLy} {s : State} {σ : zSt} {H0 H : Heap} {v lo N : Nat} (hlv : (v = 1 ∧ lo = 410 ∧ N = 3) ∨ (v = 2 ∧ lo = 420 ∧ N = 6)) (h0 : zlv Y0 = 0) (hok : zOK Y0 s) (hz : zZ Y0 s s.heap) (hH : zH Y0 σ H0) (hsz : H.size = H0.size + N) (ho : ∀ q : Nat, q < H0.size → H[q]? = H0[q]?) (hn : ∀ i, i < N → H[H0.size + i]? = some (arrV (zcA Y0 0) (zlen (zK (lo + i))) (fun _ => .int 0))) : zOK (zUp Y0 v H0.size) s ∧ zZ (zUp Y0 v H0.size) s s.heap ∧ zUq Y0 (zUp Y0 v H0.size) s ∧ zH (zUp Y0 v H0.size) (zNw σ lo (lo + N)) H := by
  have hlo : ∀ c, c < 410 → zV Y0 c = zK c := fun c h => zV_lo rfl h
  have hlt : ∀ c, c < 410 → zK c ≠ 0 → zad Y0 c < H0.size := fun c h hk => (hH c (by rw [hlo c h]; exact hk)).lt
  have hcl : ∀ c, zV (zUp Y0 v H0.size) c ≠ 0 → zK c ≠ 0 ∧ (c < 410 ∨ (lo ≤ c ∧ c < lo + N)) := by
    intro c hc
    have hk := zV_n hc
    refine ⟨hk, ?_⟩
    by_cases h : c < 410
    · exact Or.inl h
    · refine Or.inr ?_
      have k1 : zK c ≠ 0 → c ≥ 410 → (c < 413 ∨ (420 ≤ c ∧ c < 426)) := fun q q2 => zK_all (P := fun c => zK c ≠ 0 → c ≥ 410 → (c < 413 ∨ (420 ≤ c ∧ c < 426))) (by decide +kernel) q q q2
      have k2 := k1 hk (by omega)
      unfold zV at hc
      split at hc
      · rename_i q
        have e : zlv (zUp Y0 v H0.size) = v := rfl
        rw [e] at q
        rcases hlv with z | z <;> rcases q with q | q | q <;> omega
      · exact absurd rfl hc
  have had : ∀ c, lo ≤ c → c < lo + N → zad (zUp Y0 v H0.size) c = H0.size + (c - lo) := by
    intro c c1 c2
    show (if c < 410 then Y0.1 c else H0.size + (if c < 420 then c - 410 else c - 420)) = _
    rcases hlv with z | z
    · rw [if_neg (by omega), if_pos (by omega)]; omega
    · rw [if_neg (by omega), if_neg (by omega)]; omega
  have hA : zbs Y0 ≤ H0.size := Nat.le_trans (hok.2.2 0 (by rw [hlo 0 (by decide)]; decide)) (Nat.le_of_lt (hlt 0 (by decide) (by decide)))
  have hok1 : zOK (zUp Y0 v H0.size) s := by
    refine ⟨hok.1, fun c c' h h' e => ?_, fun c h => ?_⟩
    · obtain ⟨k1, q1⟩ := hcl c h
      obtain ⟨k2, q2⟩ := hcl c' h'
      rcases q1 with q1 | q1 <;> rcases q2 with q2 | q2
      · rw [zUp_ad q1, zUp_ad q2] at e
        exact hok.2.1 c c' (by rw [hlo c q1]; exact k1) (by rw [hlo c' q2]; exact k2) e
      · rw [zUp_ad q1, had c' q2.1 q2.2] at e
        have := hlt c q1 k1
        omega
      · rw [zUp_ad q2, had c q1.1 q1.2] at e
        have := hlt c' q2 k2
        omega
      · rw [had c q1.1 q1.2, had c' q2.1 q2.2] at e
        omega
    · obtain ⟨k1, q1⟩ := hcl c h
      show zbs Y0 ≤ zad (zUp Y0 v H0.size) c
      rcases q1 with q1 | q1
      · rw [zUp_ad q1]
        exact hok.2.2 c (by rw [hlo c q1]; exact k1)
      · rw [had c q1.1 q1.2]
        omega
  refine ⟨hok1, hz, ⟨⟨v, _, rfl⟩, hok, hz, h0⟩, fun c hc => ?_⟩
  obtain ⟨k1, q1⟩ := hcl c hc
  have e1 : zV (zUp Y0 v H0.size) c = zK c := by
    unfold zV at hc ⊢
    split
    · rfl
    · rename_i q
      rw [if_neg q] at hc
      exact absurd rfl hc
  rw [e1]
  rcases q1 with q1 | q1
  · rw [zNw_ne (by omega), zce_up q1 k1, zUp_ad q1]
    have := hH c (by rw [hlo c q1]; exact k1)
    rw [hlo c q1] at this
    exact this.kept (ho _ (hlt c q1 k1))
  · have hkk : 10 ≤ zK c ∧ zK c < 20 := zK_all (P := fun c => zK c ≠ 0 → c ≥ 410 → 10 ≤ zK c ∧ zK c < 20) (by decide +kernel) k1 k1 (by omega)
    rw [zNw_i q1 hkk, had c q1.1 q1.2]
    have := hn (c - lo) (by omega)
    rw [show lo + (c - lo) = c by omega] at this
    show H[H0.size + (c - lo)]? = some (vp_cell _ _)
    rw [vp_cell_i]
    exact this
variable {ρ : Type} {Y Y0 : zLy} {p : Program} {l : Launch} {e : Env} {R : Room} {s : State} {m : MethodId} {args : Array Value} {below : List Frame} {meth : Method} {c : Code} {nl k n : Nat} {kq : ρ → State → Prop} {σ : zSt} {rest : List Value} {pc pc' : Nat} {own : String} {cc : ByteArray} {ret : Option FieldType}
theorem zr_zretU {a b : Nat} {lv : List (Nat × Value)} (cx : zCx Y p s m args meth c own cc nl (some .boolean)) (hup : zUq Y0 Y s) {v : Int} (hdg : decode cc pc = .ok (.ireturn, 1)) : zWo (ρ := Int × zSt) Y p l e R s m args below meth c nl a b (fun q : Int × zSt => MQ below (zQi Y0 q.1 q.2) args s a b (zA Y0)) σ lv (.int (i32 v) :: []) pc (zck (v = 0 ∨ v = 1) (some (v, σ))) := by
  obtain ⟨hx, hb, hml, hr0, hlk, hown, hts, hok, hz⟩ := id cx
  obtain ⟨⟨v9, a9, rfl⟩, hok0, hz0, h00⟩ := hup
  intro r hr H locs ls hH hS hl
  obtain ⟨hv, hr⟩ := zck_some hr
  cases hr
  have cx0 : zCx Y0 p s m args meth c own cc nl (some .boolean) := ⟨hx, hb, hml, hr0, hlk, hown, hts, hok0, hz0⟩
  exact W.zret hx hb hr0 (zN_bool v hv) (fun t ht hW => ⟨⟨i32 v, (), rfl, rfl, (zW_end cx0 (zH_dn h00 hH) hS ht hW).1⟩, (zW_end cx0 (zH_dn h00 hH) hS ht hW).2⟩) hS.2.2 hdg hlk
/-- new rows of ints, one behind the other -/
def zNo (Y0 : zLy) (p : Program) (l : Launch) (e : Env) (R : Room) (s : State) (m : MethodId) (args : Array Value) (below : List Frame) (meth : Method) (c : Code) (nl k n : Nat) (Q : State → Prop) (H0 : Heap) (Ls : List Nat) (lv : List (Nat × Value)) (pc : Nat) : Prop :=
  ∀ (H : Heap) (locs : List Loc) (ls : Array Slot), H.size = H0.size + Ls.length → (∀ q : Nat, q < H0.size → H[q]? = H0[q]?) → (∀ i L, Ls[i]? = some L → H[H0.size + i]? = some (arrV (zcA Y0 0) L (fun _ => .int 0))) → va_S (zA Y0) s.heap H locs → lv_has ls nl lv → W p l e R s m args below meth c H locs k n Q (F0 m pc ls [])
theorem zn_one {Q : State → Prop} {H0 : Heap} {Ls : List Nat} {lv lv' : List (Nat × Value)} {i N p2 p4 p6 : Nat} {v : Int} {w : Int32} (cx : zCx Y0 p s m args meth c own cc nl ret) (e2 : pc + 2 = p2) (e4 : p2 + 2 = p4) (e6 : p4 + 2 = p6) (d1 : decode cc pc = .ok (.bipush v, 2)) (d2 : decode cc p2 = .ok (.newarray .int, 2)) (d3 : decode cc p4 = .ok (.astore i, 2)) (harr : Cond.arrayClass .int ∈ zG) (hw : (Int8.ofInt v).toInt32 = w) (h0 : ¬ w < 0) (hL : w.toNatClampNeg = N) (hby : N * componentBytes .int ≤ 536870912) (hk : k + 1 ≤ R.cells ∧ n + N ≤ R.slots) (hi : i < nl) (hl' : (i, Value.ref (H0.size + Ls.length)) :: lv.filter (fun q => !(q.1 == i) && !(q.1 + 1 == i && q.2.category == 2)) = lv') (kk : zNo Y0 p l e R s m args below meth c nl (k + 1) (n + N) Q H0 (Ls ++ [N]) lv' p6) : zNo Y0 p l e R s m args below meth c nl k n Q H0 Ls lv pc := by
  subst e2 e4 e6
  obtain ⟨hx, hb, hml, hr0, hlk, hown, hts, hok, hz⟩ := id cx
  intro H locs ls hsz ho hn hS hl
  refine lv_bipush hx hb d1 hw ?_
  refine va_newaK hx hb (atype := .int) (hts _ harr) rfl d2 rfl h0 hL hby hk.1 hk.2 hsz fun H1 cA e1 z1 o1 hAr hNm => ?_
  have hcA : cA = zcA Y0 0 := Option.some.inj (hNm.symm.trans (hok.1.2 0 _ rfl).2)
  subst hcA
  refine lv_astore hx hb d3 hl hi hl' (fun ls' hl'' => kk H1 locs ls' ?_ ?_ ?_ ?_ hl'')
  · rw [z1, List.length_append]; rfl
  · intro q hq
    rw [o1 q (by omega), ho q hq]
  · intro j L hj
    by_cases h : j < Ls.length
    · rw [List.getElem?_append_left h] at hj
      rw [o1 _ (by omega), hn j L hj]
    · rw [List.getElem?_append_right (by omega)] at hj
      have hj0 : j - Ls.length = 0 := by
        rcases Nat.eq_zero_or_pos (j - Ls.length) with q | q
        · exact q
        · rw [List.getElem?_eq_none (by simp; omega)] at hj
          cases hj
      rw [hj0] at hj
      cases hj
      rw [show j = Ls.length by omega]
      exact e1
  · exact ⟨Nat.le_trans hS.1 (by omega), fun x h1 h2 => (o1 x (Nat.lt_of_lt_of_le h1 (by have := hS.1; omega))).trans (hS.2.1 x h1 h2), hS.2.2⟩
/-- a method of the law that makes rows -/
def zMa (l : Launch) (y : MethodName) (cc : ByteArray) (nl : Nat) (a b d : Nat) (Pa : List Value) (Y : zLy) (σ : zSt) (Qc : Array Value → State → Outcome → State → Prop) : Prop := Met l y (.code y cc nl (some .boolean) :: zG) (zra a b d) (va_Pc Pa (zW Y σ)) Qc a b (zA Y)
theorem zma_of {l : Launch} {Y : zLy} {y : MethodName} {cc : ByteArray} {nl : Nat} {a b d : Nat} {Pa : List Value} {σ : zSt} {Qc : Array Value → State → Outcome → State → Prop} (own : String) (how : y.cls = own) (hy : plainName y.cls = true) (hn : (lg_sl Pa).length ≤ nl)
    (body : ∀ (p : Program) (e : Env) (s : State) (m : MethodId) (below : List Frame) (meth : Method) (c : Code), zCx Y p s m Pa.toArray meth c own cc nl (some .boolean) → ∀ (H : Heap) (locs : List Loc) (ls : Array Slot), zH Y σ H → va_S (zA Y) s.heap H locs → lv_has ls nl (lv_args 0 Pa) → W p l e (zra a b d) s m Pa.toArray below meth c H locs 0 0 (MQ below Qc Pa.toArray s a b (zA Y)) (F0 m 0 ls [])) : zMa l y cc nl a b d Pa Y σ Qc := by
  refine Met.ofW (cc := cc) (maxL := nl) (ret := some .boolean) hy rfl ?_
  intro p e s m args below meth c s₁ B hml hv
  obtain ⟨rfl, hok, hz, hH⟩ := hv
  have hts := atoms_spec (ws := .code y cc nl (some .boolean) :: zG) B.pre
  have hown : s.vm.findClass own = some m.cls := how ▸ findClass_of_methodNamed B.named
  rw [lg_entry_eq]
  exact body p e s m below meth c ⟨B.exec, B.bytes, hml, B.returns, B.notSynchronized, hown, fun w h => hts w (List.mem_cons_of_mem _ h), hok, hz⟩ s.heap [] _ hH va_S.rf (lv_entry Pa hn)
theorem zr_callA {lv : List (Nat × Value)} (cx : zCx Y p s m args meth c own cc nl ret) {a b d' ml an : Nat} {idx : Nat} {y : MethodName} {code : ByteArray} {As : List Value} {st0 : List Value} {fc : Option (Int × zSt)} {fk : Int → zSt → Option ρ} (hM : ∀ v σ', fc = some (v, σ') → zMa l y code ml a b d' As Y σ (zQi Y v σ')) (gd : GoodIn zG (va_wsS own idx y (.code y code ml (some .boolean) :: zG))) (hd : y.cls ≠ "java/lang/invoke/MethodHandle" ∧ y.cls ≠ "java/lang/invoke/VarHandle" ∧ (parseMethodDescriptor y.desc).map (fun d => d.parameters.length) = some an) (hR : d' + 1 ≤ R.frames ∧ 8 + (ml + 11) + 40 * d' ≤ R.locals) (hkn : k + a ≤ R.cells ∧ n + b ≤ R.slots) (hn : As.length = an) (hst : st0 = As.reverse ++ rest) (hrest : (rest.map fun v => v.category).sum ≤ 8) (hdg : decode cc pc = .ok (.invokestatic idx, 3)) (hpc : pc + 3 = pc') (kk : ∀ (v : Int) (σ' : zSt), zWo Y p l e R s m args below meth c nl (k + a) (n + b) kq σ' lv (.int (i32 v) :: rest) pc' (fk v σ')) : zWo Y p l e R s m args below meth c nl k n kq σ lv st0 pc (zbe fc fk) := by
  subst hpc
  obtain ⟨hx, hb, hml, hr0, hlk, hown, hts, hok, hz⟩ := id cx
  intro r hr H locs ls hH hS hl
  obtain ⟨v, σ', hf, hr⟩ := zbe_of hr
  refine va_calli (va_runS (As := As) (rest := rest) ⟨hx, hb, hml, hown, hts⟩ (hM v σ' hf) (va_cwS an hts gd rfl rfl rfl hd ⟨hR.1, hR.2⟩) ⟨zW.blind, fun U hU hW => zpre cx hH hS U hU hW⟩ rfl hn hl.1 hst (lv_room hrest) hdg ⟨hkn.1, hkn.2⟩) hS (fun q _ h => h) (fun q h => h) (fun r1 u t H1 locs ht hvm hw hB hz1 hk1 hS => ?_)
  rw [show r1 = _ from hw]
  exact kk v σ' r hr H1 locs ls (ht ▸ hB.2.2) hS hl
end ZALLOC
