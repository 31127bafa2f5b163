section ZTHROW
theorem zH.kept {Y : zLy} {σ : zSt} {H H1 : Heap} (h : zH Y σ H) (hq : ∀ q : Nat, q < H.size → H1[q]? = H[q]?) : zH Y σ H1 := fun c hc => (h c hc).kept (hq _ (h c hc).lt)
abbrev znm : List String := ["java/lang/RuntimeException", "java/lang/Exception"]
def zQx (Y : zLy) (q : Int × Nat × zSt) : Array Value → State → Outcome → State → Prop := va_Qi (S := Unit) (fun r _ => q.2.1 = 0 ∧ r = i32 q.1) (fun _ t => zH Y q.2.2 t.heap) (zA Y)
def zXx (Y : zLy) (q : Int × Nat × zSt) : String → State → State → Prop := vx_X (S := Unit) (fun _ => 1 ≤ q.2.1 ∧ q.2.1 ≤ 3) (fun E _ t => E = zEx q.2.1 ∧ zH Y q.2.2 t.heap) (zA Y)
def zMx (l : Launch) (y : MethodName) (cc : ByteArray) (nl : Nat) (ret : Option FieldType) (d : Nat) (Pa : List Value) (Y : zLy) (σ : zSt) (q : Int × Nat × zSt) : Prop := vx_Met l y (.code y cc nl ret :: zG) (zrx d) (va_Pc Pa (zW Y σ)) (zQx Y q) (zXx Y q) 1 6 (zA Y)
theorem zmetx_of {l : Launch} {Y : zLy} {y : MethodName} {cc : ByteArray} {nl : Nat} {ret : Option FieldType} {d : Nat} {Pa : List Value} {σ : zSt} {q : Int × Nat × zSt} (own : String) (how : y.cls = own) (hy : plainName y.cls = true) (hn : (lg_sl Pa).length ≤ nl)
    (body : ∀ (p : Program) (e : Env) (s : State) (m : MethodId) (below : List Frame) (meth : Method) (c : Code), zCx Y p s m Pa.toArray meth c own cc nl ret → (∀ x ∈ c.exceptionTable.toList, False) → ∀ (H : Heap) (locs : List Loc) (ls : Array Slot), zH Y σ H → va_S (zA Y) s.heap H locs → lv_has ls nl (lv_args 0 Pa) → W p l e (zrx d) s m Pa.toArray below meth c H locs 0 0 (vx_MQ below (zQx Y q) (zXx Y q) Pa.toArray s 1 6 (zA Y)) (F0 m 0 ls [])) : zMx l y cc nl ret d Pa Y σ q := by
  refine vx_ofW (cc := cc) (maxL := nl) (ret := ret) hy rfl ?_
  intro p e s m args below meth c s₁ B hml htab hv
  obtain ⟨rfl, hok, hz, hH⟩ := hv
  have hts := atoms_spec (ws := .code y cc nl ret :: zG) B.pre
  have hown : s.vm.findClass own = some m.cls := how ▸ findClass_of_methodNamed B.named
  rw [lg_entry_eq]
  exact body p e s m below meth c ⟨B.exec, B.bytes, hml, B.returns, B.notSynchronized, hown, fun w h => hts w (List.mem_cons_of_mem _ h), hok, hz⟩ htab s.heap [] _ hH va_S.rf (lv_entry Pa hn)
theorem zthrow_w (E : Nat) (ic : Nat) (h1 : ((vx_atS RX7 ic (zEx E) znm).filter goodWord).all (fun w => decide (w ∈ lw_tbl)) = true) : ∀ w ∈ (vx_atS RX7 ic (zEx E) znm).filter goodWord, w ∈ zG := fun w hw => List.mem_filter.mpr ⟨of_decide_eq_true (List.all_eq_true.mp h1 w hw), (List.mem_filter.mp hw).2⟩
variable {Y : zLy} {p : Program} {l : Launch} {e : Env} {R : Room} {s : State} {m : MethodId} {args : Array Value} {below : List Frame} {meth : Method} {c : Code} {nl k n : Nat} {σ : zSt} {lv : List (Nat × Value)} {rest : List Value} {pc : Nat} {cc : ByteArray} {ret : Option FieldType}
theorem zr_iretX {own : String} (cx : zCx Y p s m args meth c own cc nl (some .int)) {v : Int} (hdg : decode cc pc = .ok (.ireturn, 1)) : zWo (ρ := Int × Nat × zSt) Y p l e R s m args below meth c nl 0 0 (fun q => vx_MQ below (zQx Y q) (zXx Y q) args s 1 6 (zA Y)) σ lv (.int (i32 v) :: []) pc (some (v, 0, σ)) := by
  obtain ⟨hx, hb, hml, hr0, hlk, hown, hts, hok, hz⟩ := id cx
  intro r hr H locs ls hH hS hl
  cases hr
  refine W.widen (k := 1) (n := 6) (Nat.zero_le _) (Nat.zero_le _) (vx_ret ?_)
  exact W.iret hx hb hr0 (fun t ht hW => ⟨⟨i32 v, (), rfl, ⟨rfl, rfl⟩, (show zH Y σ t.heap from ht ▸ hH)⟩, (zW_end cx hH hS ht hW).2⟩) hS.2.2 hdg hlk
theorem zr_throw (cx : zCx Y p s m args meth c RX7 cc nl ret) (hl0 : l.stackTraces = false) (htab : ∀ x ∈ c.exceptionTable.toList, False) (E : Nat) (hE : 1 ≤ E ∧ E ≤ 3) {ik is ic : Nat} {text : String} (hk : Cond.classLink RX7 ik (zEx E) ∈ zG) (hini : Cond.initialized (zEx E) ∈ zG) (hstr : (RX7, is, text) ∈ zSR) (h1 : ∀ w ∈ (vx_atS RX7 ic (zEx E) znm).filter goodWord, w ∈ zG) (h2 : ∀ w ∈ (vx_atS RX7 ic (zEx E) znm).filter (fun w => !goodWord w), w ∈ zNW) (hgood : ∀ w ∈ Cond.classLink RX7 ik (zEx E) :: Cond.initialized (zEx E) :: vx_atS RX7 ic (zEx E) znm, vx_ot w = true) (hfit : Bundle.fit (zEx E) = true)
    (hRf : 5 < R.frames) (hRl : (rest.map fun v => v.category).sum + 82 ≤ R.locals) (hRc : 1 ≤ R.cells ∧ 6 ≤ R.slots) (d0 : decode cc pc = .ok (.new ik, 3)) {p3 p4 p6 p9 : Nat} (e3 : pc + 3 = p3) (e4 : pc + 4 = p4) (e6 : pc + 6 = p6) (e9 : pc + 9 = p9) (d3 : decode cc p3 = .ok (.dup, 1)) (d4 : decode cc p4 = .ok (.ldc is, 2)) (d6 : decode cc p6 = .ok (.invokespecial ic, 3)) (d9 : decode cc p9 = .ok (.athrow, 1)) :
    zWo (ρ := Int × Nat × zSt) Y p l e R s m args below meth c nl 0 0 (fun q => vx_MQ below (zQx Y q) (zXx Y q) args s 1 6 (zA Y)) σ lv rest pc (some (0, E, σ)) := by
  subst e3; subst e4; subst e6; subst e9
  obtain ⟨hx, hb, hml, hr0, hlk, hown, hts, hok, hz⟩ := id cx
  intro r hr H locs ls hH hS hl
  cases hr
  obtain ⟨sa, hsa⟩ := hz.2.2.1 _ hstr
  refine vx_throwS hx hb hl0 hown hfit (by decide +kernel) (hts _ hk) (hts _ hini) hsa (vx_hat (fun w hw => hts _ (h1 w hw)) h2 (fun w hw => va_Nw.use (by
      simp only [zNW, List.mem_cons, List.not_mem_nil, or_false] at hw
      rcases hw with rfl | rfl | rfl | rfl | rfl | rfl <;> rfl) (hz.2.2.2.1 w hw))) hgood hz.1 hz.2.1 hS (hl.1.trans hml.symm) d0 d3 d4 d6 d9 (fun x hx => (htab x hx).elim) hRf hRl (by omega) (by omega) hlk ?_ hS.2.2 (by omega) (by omega)
  intro t ha hsz hq
  refine ⟨(), hE, ⟨rfl, hH.kept hq⟩, Nat.le_trans hS.1 hsz, fun q h3 h4 => ?_⟩
  rw [hq q (Nat.lt_of_lt_of_le h3 hS.1)]
  exact hS.2.1 q h3 h4
theorem zr_throww (cx : zCx Y p s m args meth c RX7 cc nl ret) (hl0 : l.stackTraces = false) (htab : ∀ x ∈ c.exceptionTable.toList, False) (E : Nat) (hE : 1 ≤ E ∧ E ≤ 3) {ik is ic : Nat} {text : String} (hk : Cond.classLink RX7 ik (zEx E) ∈ zG) (hini : Cond.initialized (zEx E) ∈ zG) (hstr : (RX7, is, text) ∈ zSR) (h1 : ∀ w ∈ (vx_atS RX7 ic (zEx E) znm).filter goodWord, w ∈ zG) (h2 : ∀ w ∈ (vx_atS RX7 ic (zEx E) znm).filter (fun w => !goodWord w), w ∈ zNW) (hgood : ∀ w ∈ Cond.classLink RX7 ik (zEx E) :: Cond.initialized (zEx E) :: vx_atS RX7 ic (zEx E) znm, vx_ot w = true) (hfit : Bundle.fit (zEx E) = true)
    (hRf : 5 < R.frames) (hRl : (rest.map fun v => v.category).sum + 82 ≤ R.locals) (hRc : 1 ≤ R.cells ∧ 6 ≤ R.slots) (d0 : decode cc pc = .ok (.new ik, 3)) {p3 p4 p6 p9 : Nat} (e3 : pc + 3 = p3) (e4 : pc + 4 = p4) (e6 : pc + 7 = p6) (e9 : pc + 10 = p9) (d3 : decode cc p3 = .ok (.dup, 1)) (d4 : decode cc p4 = .ok (.ldc_w is, 3)) (d6 : decode cc p6 = .ok (.invokespecial ic, 3)) (d9 : decode cc p9 = .ok (.athrow, 1)) :
    zWo (ρ := Int × Nat × zSt) Y p l e R s m args below meth c nl 0 0 (fun q => vx_MQ below (zQx Y q) (zXx Y q) args s 1 6 (zA Y)) σ lv rest pc (some (0, E, σ)) := by
  subst e3; subst e4; subst e6; subst e9
  obtain ⟨hx, hb, hml, hr0, hlk, hown, hts, hok, hz⟩ := id cx
  intro r hr H locs ls hH hS hl
  cases hr
  obtain ⟨sa, hsa⟩ := hz.2.2.1 _ hstr
  refine vx_throwSW hx hb hl0 hown hfit (by decide +kernel) (hts _ hk) (hts _ hini) hsa (vx_hat (fun w hw => hts _ (h1 w hw)) h2 (fun w hw => va_Nw.use (by
      simp only [zNW, List.mem_cons, List.not_mem_nil, or_false] at hw
      rcases hw with rfl | rfl | rfl | rfl | rfl | rfl <;> rfl) (hz.2.2.2.1 w hw))) hgood hz.1 hz.2.1 hS (hl.1.trans hml.symm) d0 d3 d4 d6 d9 (fun x hx => (htab x hx).elim) hRf hRl (by omega) (by omega) hlk ?_ hS.2.2 (by omega) (by omega)
  intro t ha hsz hq
  refine ⟨(), hE, ⟨rfl, hH.kept hq⟩, Nat.le_trans hS.1 hsz, fun q h3 h4 => ?_⟩
  rw [hq q (Nat.lt_of_lt_of_le h3 hS.1)]
  exact hS.2.1 q h3 h4
theorem zt1_1 : ∀ w ∈ (vx_atS RX7 62 (zEx 1) znm).filter goodWord, w ∈ zG := zthrow_w 1 62 (by decide +kernel)
theorem zt2_1 : ∀ w ∈ (vx_atS RX7 62 (zEx 1) znm).filter (fun w => !goodWord w), w ∈ zNW := by decide +kernel
theorem zt3_1 : ∀ w ∈ Cond.classLink RX7 58 (zEx 1) :: Cond.initialized (zEx 1) :: vx_atS RX7 62 (zEx 1) znm, vx_ot w = true := by decide +kernel
theorem zt1_2 : ∀ w ∈ (vx_atS RX7 72 (zEx 2) znm).filter goodWord, w ∈ zG := zthrow_w 2 72 (by decide +kernel)
theorem zt2_2 : ∀ w ∈ (vx_atS RX7 72 (zEx 2) znm).filter (fun w => !goodWord w), w ∈ zNW := by decide +kernel
theorem zt3_2 : ∀ w ∈ Cond.classLink RX7 68 (zEx 2) :: Cond.initialized (zEx 2) :: vx_atS RX7 72 (zEx 2) znm, vx_ot w = true := by decide +kernel
theorem zt1_3 : ∀ w ∈ (vx_atS RX7 86 (zEx 3) znm).filter goodWord, w ∈ zG := zthrow_w 3 86 (by decide +kernel)
theorem zt2_3 : ∀ w ∈ (vx_atS RX7 86 (zEx 3) znm).filter (fun w => !goodWord w), w ∈ zNW := by decide +kernel
theorem zt3_3 : ∀ w ∈ Cond.classLink RX7 82 (zEx 3) :: Cond.initialized (zEx 3) :: vx_atS RX7 86 (zEx 3) znm, vx_ot w = true := by decide +kernel
end ZTHROW
