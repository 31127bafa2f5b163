section ZHELP
def zbx {β : Type} (o : Option (Int × Nat × zSt)) (k : Int → Nat → zSt → Option β) : Option β := match o with
  | none => none
  | some q => k q.1 q.2.1 q.2.2
theorem zbx_some {β : Type} {o : Option (Int × Nat × zSt)} {a : Int} {E : Nat} {s : zSt} {k : Int → Nat → zSt → Option β} (h : o = some (a, E, s)) : zbx o k = k a E s := by rw [h]; rfl
theorem zbx_of {β : Type} {o : Option (Int × Nat × zSt)} {k : Int → Nat → zSt → Option β} {r : β} (h : zbx o k = some r) : ∃ a E s, o = some (a, E, s) ∧ k a E s = some r := by
  cases o with
  | none => cases h
  | some q => exact ⟨q.1, q.2.1, q.2.2, rfl, h⟩
def zQw (Y : zLy) (q : Int × zSt) : Array Value → State → Outcome → State → Prop := va_Qi (S := Unit) (fun r _ => r = i32 q.1) (fun _ t => zH Y q.2 t.heap) (zA Y)
/-- a helper of the law: it returns, with a call's answer in the row of longs or the number of what was thrown -/
def zMw (l : Launch) (y : MethodName) (cc : ByteArray) (nl : Nat) (hh : List (Nat × Nat × Nat × Nat)) (d : Nat) (Pa : List Value) (Y : zLy) (σ : zSt) (q : Int × zSt) : Prop := vx_Met l y (.codeWith y cc nl (some .int) hh :: zG) (zrx d) (va_Pc Pa (zW Y σ)) (zQw Y q) (vx_X (S := Unit) (fun _ => False) (fun _ _ _ => True) (zA Y)) 1 6 (zA Y)
def zXo {ρ : Type} (Y : zLy) (p : Program) (l : Launch) (e : Env) (R : Room) (s : State) (m : MethodId) (args : Array Value) (below : List Frame) (meth : Method) (c : Code) (nl k n : Nat) (kq : ρ → State → Prop) (σ : zSt) (lv : List (Nat × Value)) (rest : List Value) (pc E : Nat) (o : Option ρ) : Prop :=
  ∀ r, o = some r → ∀ (H : Heap) (locs : List Loc) (ls : Array Slot) (q9 : Addr) (ce : Cell), zH Y σ H → va_S (zA Y) s.heap H locs → lv_has ls nl lv → H[q9]? = some ce → ce.vm = .none → s.vm.findClass (zEx E) = some ce.cls → vx_W p l e R s m args below meth c H locs k n (kq r) (F0 m pc ls rest) q9
theorem zG_SW {own : String} {idx : Nat} {y : MethodName} {code : ByteArray} {n : Nat} {ret : Option FieldType} {hh : List (Nat × Nat × Nat × Nat)} (h1 : Cond.methodLink own idx y ∈ zG) (h2 : Cond.static y ∈ zG) (h4 : Cond.initialized y.cls ∈ zG) (h5 : Cond.codeWith y code n ret hh ∈ zG) : GoodIn zG (va_wsS own idx y (.codeWith y code n ret hh :: zG)) :=
  zG_in (w0 := .tt) (fun w hw => by
    rcases List.mem_append.mp hw with h | h
    · simp only [List.mem_cons, List.not_mem_nil, or_false] at h
      rcases h with rfl | rfl | rfl
      · exact h1
      · exact h2
      · exact h4
    · exact (List.mem_cons.mp h).elim (fun e => e ▸ h5) id)
theorem zmetw_of {l : Launch} {Y : zLy} {y : MethodName} {cc : ByteArray} {nl : Nat} {hh : List (Nat × Nat × Nat × Nat)} {d : Nat} {Pa : List Value} {σ : zSt} {q : Int × zSt} (own : String) (how : y.cls = own) (hy : plainName y.cls = true) (hn : (lg_sl Pa).length ≤ nl)
    (body : ∀ (p : Program) (e : Env) (s : State) (m : MethodId) (below : List Frame) (meth : Method) (c : Code), zCx Y p s m Pa.toArray meth c own cc nl (some .int) → c.exceptionTable.toList = tableOf hh → ∀ (H : Heap) (locs : List Loc) (ls : Array Slot), zH Y σ H → va_S (zA Y) s.heap H locs → lv_has ls nl (lv_args 0 Pa) → W p l e (zrx d) s m Pa.toArray below meth c H locs 0 0 (vx_MQ below (zQw Y q) (vx_X (S := Unit) (fun _ => False) (fun _ _ _ => True) (zA Y)) Pa.toArray s 1 6 (zA Y)) (F0 m 0 ls [])) : zMw l y cc nl hh d Pa Y σ q := by
  refine vx_ofWH (cc := cc) (maxL := nl) (ret := some .int) (hh := hh) hy rfl ?_
  intro p e s m args below meth c s₁ B hml hv
  obtain ⟨rfl, hok, hz, hH⟩ := hv
  have hts := atoms_spec (ws := .codeWith y cc nl (some .int) hh :: zG) B.pre
  have htab := vx_table (x := y) B (hts _ List.mem_cons_self)
  have hown : s.vm.findClass own = some m.cls := how ▸ findClass_of_methodNamed B.named
  rw [lg_entry_eq]
  exact body p e s m below meth c ⟨B.exec, B.bytes, hml, B.returns, B.notSynchronized, hown, fun w h => hts w (List.mem_cons_of_mem _ h), hok, hz⟩ htab s.heap [] _ hH va_S.rf (lv_entry Pa hn)
variable {ρ : Type} {Y : zLy} {p : Program} {l : Launch} {e : Env} {R : Room} {s : State} {m : MethodId} {args : Array Value} {below : List Frame} {meth : Method} {c : Code} {nl k n : Nat} {kq : ρ → State → Prop} {σ : zSt} {own : String} {lv : List (Nat × Value)} {rest : List Value} {pc pc' : Nat} {o : Option ρ} {cc : ByteArray} {ret : Option FieldType}
theorem zr_iretW (cx : zCx Y p s m args meth c own cc nl (some .int)) {v : Int} (hdg : decode cc pc = .ok (.ireturn, 1)) : zWo (ρ := Int × zSt) Y p l e R s m args below meth c nl 1 6 (fun q => vx_MQ below (zQw Y q) (vx_X (S := Unit) (fun _ => False) (fun _ _ _ => True) (zA Y)) args s 1 6 (zA Y)) σ lv (.int (i32 v) :: []) pc (some (v, σ)) := by
  obtain ⟨hx, hb, hml, hr0, hlk, hown, hts, hok, hz⟩ := id cx
  intro r hr H locs ls hH hS hl
  cases hr
  refine vx_ret ?_
  exact W.iret hx hb hr0 (fun t ht hW => ⟨⟨i32 v, (), rfl, rfl, (show zH Y σ t.heap from ht ▸ hH)⟩, (zW_end cx hH hS ht hW).2⟩) hS.2.2 hdg hlk
theorem zr_callX (cx : zCx Y p s m args meth c own cc nl ret) (hpc : pc + 3 = pc') {d' ml an : Nat} {C : String} {idx : Nat} {y : MethodName} {code : ByteArray} {rt : Option FieldType} {As : List Value} {st0 : List Value} {c1 : Nat} (kd : Nat) (hk : zK c1 = kd) (h0 : kd ≠ 0 ∧ kd < 10) {T : u_T} {N : Nat} (hc : zcl[kd - 1]? = some (C, T, N)) {fc : Option (Int × Nat × zSt)} {fk : Int → Nat → zSt → Option ρ} (hM : ∀ q, fc = some q → zMx l y code ml rt d' (.ref (zad Y c1) :: As) Y σ q) (gd : GoodIn zG (wsV own idx C y (.code y code ml rt :: zG))) (hd : y.cls = C ∧ y.cls ≠ "java/lang/invoke/MethodHandle" ∧ y.cls ≠ "java/lang/invoke/VarHandle" ∧ (parseMethodDescriptor y.desc).map (fun d => d.parameters.length) = some an) (hR : d' + 1 ≤ R.frames ∧ 8 + (ml + 11) + 40 * d' ≤ R.locals) (hkn : k + 1 ≤ R.cells ∧ n + 6 ≤ R.slots) (hn : As.length = an) (hst : st0 = As.reverse ++ .ref (zad Y c1) :: rest) (hrest : (rest.map fun v => v.category).sum ≤ 8) (hdg : decode cc pc = .ok (.invokevirtual idx, 3))
    (kk : ∀ (v : Int) (σ' : zSt), zWo Y p l e R s m args below meth c nl (k + 1) (n + 6) kq σ' lv (.int (i32 v) :: rest) pc' (fk v 0 σ')) (kx : ∀ (E : Nat) (v : Int) (σ' : zSt), 1 ≤ E → E ≤ 3 → zXo Y p l e R s m args below meth c nl (k + 1) (n + 6) kq σ' lv rest pc E (fk v E σ')) : zWo Y p l e R s m args below meth c nl k n kq σ lv st0 pc (zbx fc fk) := by
  subst hpc
  obtain ⟨hx, hb, hml, hr0, hlk, hown, hts, hok, hz⟩ := id cx
  intro r hr H locs ls hH hS hl
  obtain ⟨v, E, σ', hf, hr⟩ := zbx_of hr
  have hP := zP1 hH hk h0.1
  rw [zce_o h0.2] at hP
  refine vx_calli (vx_runV (As := As) (rest := rest) ⟨hx, hb, hml, hown, hts⟩ (hM _ hf) (cwV an hts gd rfl rfl rfl hd ⟨hR.1, hR.2⟩) ⟨zW.blind, va_recv (q0 := 0) hok.1 hP hc rfl, fun U hU hW => zpre cx hH hS U hU hW⟩ rfl hn hl.1 hst (lv_room hrest) hdg hkn) hS (fun q _ h => h) (fun q h => h) (fun q _ h => h) ?_ ?_
  · intro E9 ce q9 u t H1 locs1 ht hvm hpx hB hz1 hk1 hS1 hce hcv hcl
    obtain ⟨rfl, hB2⟩ := hB
    exact kx E v σ' hpx.1 hpx.2 r hr H1 locs1 ls q9 ce (ht ▸ hB2) hS1 hl hce hcv hcl
  · intro r1 u t H1 locs1 ht hvm hw hB hz1 hk1 hS1
    obtain ⟨h0E, hw⟩ := hw
    have h0E : E = 0 := h0E
    subst h0E
    rw [show r1 = _ from hw]
    exact kk v σ' r hr H1 locs1 ls (ht ▸ hB) hS1 hl
theorem zr_catch (cx : zCx Y p s m args meth c own cc nl ret) {E : Nat} (hE : 1 ≤ E ∧ E ≤ 3) (pre : List ExceptionTableEntry) (x : ExceptionTableEntry) (suf : List ExceptionTableEntry) (htab : c.exceptionTable.toList = pre ++ x :: suf) (hpre : ∀ z ∈ pre, ∃ F, (1 ≤ F ∧ F ≤ 3 ∧ E ≠ F) ∧ z.catchType ≠ 0 ∧ Cond.classLink own z.catchType (zEx F) ∈ zG) (hx : covers x pc = true) (h0 : x.catchType ≠ 0) (hlink : Cond.classLink own x.catchType (zEx E) ∈ zG) (hcast : Cond.castable (zEx E) (zEx E) ∈ zNW)
    (kk : ∀ q9 : Nat, zWo Y p l e R s m args below meth c nl k n kq σ lv (.ref q9 :: []) x.handlerPc o) : zXo Y p l e R s m args below meth c nl k n kq σ lv rest pc E o := by
  obtain ⟨hxx, hb, hml, hr0, hlk, hown, hts, hok, hz⟩ := id cx
  intro r hr H locs ls q9 ce hH hS hl hce hcv hcl
  refine vx_catch hown pre x suf htab (fun z hz9 => Or.inr ?_) hx h0 (hts _ hlink) (va_Nw.use rfl (hz.2.2.2.1 _ hcast)) hce hcv hcl (kk q9 r hr H locs ls hH hS hl)
  obtain ⟨F, ⟨f1, f2, f3⟩, f4, f5⟩ := hpre z hz9
  exact ⟨f4, zEx F, hts _ f5, hz.2.2.2.2 E F hE.1 hE.2 f1 f2 f3⟩
theorem zr_case0 {cnd : Prop} [Decidable cnd] {st0 : List Value} (h : cnd) (kk : zWo Y p l e R s m args below meth c nl k n kq σ lv st0 pc o) {oe : Option ρ} : zWo Y p l e R s m args below meth c nl k n kq σ lv st0 pc (if cnd then o else oe) := by rw [if_pos h]; exact kk
theorem zr_callW (cx : zCx Y p s m args meth c own cc nl ret) (hpc : pc + 3 = pc') {d' ml an idx : Nat} {y : MethodName} {code : ByteArray} {hh : List (Nat × Nat × Nat × Nat)} {As : List Value} {st0 : List Value} {fc : Option (Int × zSt)} {fk : Int → zSt → Option ρ} (hM : ∀ q, fc = some q → zMw l y code ml hh d' As Y σ q) (gd : GoodIn zG (va_wsS own idx y (.codeWith y code ml (some .int) hh :: zG))) (hd : y.cls ≠ "java/lang/invoke/MethodHandle" ∧ y.cls ≠ "java/lang/invoke/VarHandle" ∧ (parseMethodDescriptor y.desc).map (fun d => d.parameters.length) = some an) (hR : d' + 1 ≤ R.frames ∧ 8 + (ml + 11) + 40 * d' ≤ R.locals) (hkn : k + 1 ≤ R.cells ∧ n + 6 ≤ R.slots) (hn : As.length = an) (hst : st0 = As.reverse ++ rest) (hrest : (rest.map fun v => v.category).sum ≤ 8) (hdg : decode cc pc = .ok (.invokestatic idx, 3))
    (kk : ∀ (v : Int) (σ' : zSt), zWo Y p l e R s m args below meth c nl (k + 1) (n + 6) kq σ' lv (.int (i32 v) :: rest) pc' (fk v σ')) : zWo Y p l e R s m args below meth c nl k n kq σ lv st0 pc (zbe fc fk) := by
  subst hpc
  obtain ⟨hx, hb, hml, hr0, hlk, hown, hts, hok, hz⟩ := id cx
  intro r hr H locs ls hH hS hl
  obtain ⟨v, σ', hf, hr⟩ := zbe_of hr
  refine vx_calli (vx_runSX (As := As) (rest := rest) ⟨hx, hb, hml, hown, hts⟩ (hM _ hf) (vx_cwSW an hts gd rfl rfl rfl hd ⟨hR.1, hR.2⟩) ⟨zW.blind, fun U hU hW => zpre cx hH hS U hU hW⟩ rfl hn hl.1 hst (lv_room hrest) hdg hkn) hS (fun q _ h => h) (fun q h => h) (fun q _ h => h) ?_ ?_
  · intro E9 ce q9 u t H1 locs1 ht hvm hpx hB hz1 hk1 hS1 hce hcv hcl
    exact hpx.elim
  · intro r1 u t H1 locs1 ht hvm hw hB hz1 hk1 hS1
    rw [show r1 = _ from hw]
    exact kk v σ' r hr H1 locs1 ls (ht ▸ hB) hS1 hl
theorem zx_case {E : Nat} {cnd : Prop} [Decidable cnd] {ot oe : Option ρ} (kt : cnd → zXo Y p l e R s m args below meth c nl k n kq σ lv rest pc E ot) (kf : ¬ cnd → zXo Y p l e R s m args below meth c nl k n kq σ lv rest pc E oe) : zXo Y p l e R s m args below meth c nl k n kq σ lv rest pc E (if cnd then ot else oe) := by
  by_cases h : cnd
  · rw [if_pos h]; exact kt h
  · rw [if_neg h]; exact kf h
def fL_addBox (g : zSt) (a1 : Int) (a2 : Int) (a3 : Int) (a4 : Int) : Option (Int × zSt) := zbx (fX7_addBox g a1 a2 a3 a4) (fun v E g2 => (if E = 0 then zlet (zwl g2 1 (i32 v).toInt64) (fun g3 => some (0, g3)) else (if E = 1 then some (1, g2) else (if E = 2 then some (2, g2) else (if E = 3 then some (3, g2) else none)))))
theorem wL_addBox (cx : zCx Y p s m args meth c RL cL_addBox 7 (some .int)) (hl0 : l.stackTraces = false) (htab : c.exceptionTable.toList = tableOf [(0, 14, 17, 13), (0, 14, 21, 15), (0, 14, 25, 17)]) (g : zSt) (a1 : Int) (a2 : Int) (a3 : Int) (a4 : Int) : zWo (ρ := Int × zSt) Y p l e (zrx 7) s m args below meth c 7 0 0 (fun q => vx_MQ below (zQw Y q) (vx_X (S := Unit) (fun _ => False) (fun _ _ _ => True) (zA Y)) args s 1 6 (zA Y)) g [(0, .ref (zad Y 0)), (1, .int (i32 a1)), (2, .int (i32 a2)), (3, .int (i32 a3)), (4, .int (i32 a4)), (5, .ref (zad Y 500))] [] 0 (fL_addBox g a1 a2 a3 a4) := by
  unfold fL_addBox
  refine zr_aload (pc' := 2) cx rfl 5 dL_addBox_0 rfl ?_
  refine zr_iconst (pc' := 3) cx rfl dL_addBox_2 ?_
  refine zr_aload_n (pc' := 4) cx rfl 0 dL_addBox_3 rfl rfl ?_
  refine zr_iload_n (pc' := 5) cx rfl 1 dL_addBox_4 rfl rfl ?_
  refine zr_iload_n (pc' := 6) cx rfl 2 dL_addBox_5 rfl rfl ?_
  refine zr_iload_n (pc' := 7) cx rfl 3 dL_addBox_6 rfl rfl ?_
  refine zr_iload (pc' := 9) cx rfl 4 dL_addBox_7 rfl ?_
  refine zr_callX (pc' := 12) cx rfl (an := 4) (As := [.int (i32 a1), .int (i32 a2), .int (i32 a3), .int (i32 a4)]) 8 zkc_0 (by decide) rfl (fun q hq => mX7_addBox l hl0 Y g a1 a2 a3 a4 q hq) (zG_V zw_597 zw_598 zw_599 zw_101 zw_600) (by decide +kernel) ⟨Nat.le_of_ble_eq_true rfl, Nat.le_of_ble_eq_true rfl⟩ ⟨Nat.le_of_ble_eq_true rfl, Nat.le_of_ble_eq_true rfl⟩ rfl rfl (Nat.le_of_ble_eq_true rfl) dL_addBox_9 ?_ ?_
  · intro v g2
    refine zr_case0 rfl ?_
    refine zr_i2l (pc' := 13) cx rfl dL_addBox_12 ?_
    refine zr_last (pc' := 14) cx rfl zkc_500 zk31_one dL_addBox_13 ?_
    refine zr_letS (fun g3 => ?_)
    refine zr_goto cx (tgt := 29) dL_addBox_14 rfl ?_
    refine zr_iconst (pc' := 30) cx rfl dL_addBox_29 ?_
    exact zr_iretW cx dL_addBox_30
  · intro E v g2 h1 h2
    refine zx_case (fun hE => absurd hE (by omega)) (fun _ => ?_)
    refine zx_case (fun hE => ?_) (fun n0 => ?_)
    · subst hE
      refine zr_catch cx ⟨by decide, by decide⟩ [] ⟨0, 14, 17, 13⟩ [⟨0, 14, 21, 15⟩, ⟨0, 14, 25, 17⟩] htab (fun z hz => nomatch hz) rfl (by decide) zw_594 (List.mem_of_getElem? (i := 0) rfl) (fun q9 => ?_)
      refine zr_astore (pc' := 19) cx rfl (lv' := [(6, .ref q9), (0, .ref (zad Y 0)), (1, .int (i32 a1)), (2, .int (i32 a2)), (3, .int (i32 a3)), (4, .int (i32 a4)), (5, .ref (zad Y 500))]) dL_addBox_17 (by decide) rfl ?_
      refine zr_iconst (pc' := 20) cx rfl dL_addBox_19 ?_
      exact zr_iretW cx dL_addBox_20
    · refine zx_case (fun hE => ?_) (fun n1 => ?_)
      · subst hE
        refine zr_catch cx ⟨by decide, by decide⟩ [⟨0, 14, 17, 13⟩] ⟨0, 14, 21, 15⟩ [⟨0, 14, 25, 17⟩] htab (List.forall_mem_cons.mpr ⟨⟨1, by decide, by decide, zw_594⟩, fun z hz => nomatch hz⟩) rfl (by decide) zw_595 (List.mem_of_getElem? (i := 1) rfl) (fun q9 => ?_)
        refine zr_astore (pc' := 23) cx rfl (lv' := [(6, .ref q9), (0, .ref (zad Y 0)), (1, .int (i32 a1)), (2, .int (i32 a2)), (3, .int (i32 a3)), (4, .int (i32 a4)), (5, .ref (zad Y 500))]) dL_addBox_21 (by decide) rfl ?_
        refine zr_iconst (pc' := 24) cx rfl dL_addBox_23 ?_
        exact zr_iretW cx dL_addBox_24
      · refine zx_case (fun hE => ?_) (fun n2 => ?_)
        · subst hE
          refine zr_catch cx ⟨by decide, by decide⟩ [⟨0, 14, 17, 13⟩, ⟨0, 14, 21, 15⟩] ⟨0, 14, 25, 17⟩ [] htab (List.forall_mem_cons.mpr ⟨⟨1, by decide, by decide, zw_594⟩, List.forall_mem_cons.mpr ⟨⟨2, by decide, by decide, zw_595⟩, fun z hz => nomatch hz⟩⟩) rfl (by decide) zw_596 (List.mem_of_getElem? (i := 2) rfl) (fun q9 => ?_)
          refine zr_astore (pc' := 27) cx rfl (lv' := [(6, .ref q9), (0, .ref (zad Y 0)), (1, .int (i32 a1)), (2, .int (i32 a2)), (3, .int (i32 a3)), (4, .int (i32 a4)), (5, .ref (zad Y 500))]) dL_addBox_25 (by decide) rfl ?_
          refine zr_iconst (pc' := 28) cx rfl dL_addBox_27 ?_
          exact zr_iretW cx dL_addBox_28
        · intro r hr; cases hr
theorem mL_addBox (l : Launch) (hl0 : l.stackTraces = false) (Y : zLy) (g : zSt) (a1 : Int) (a2 : Int) (a3 : Int) (a4 : Int) : ∀ q, fL_addBox g a1 a2 a3 a4 = some q → zMw l yL_addBox cL_addBox 7 [(0, 14, 17, 13), (0, 14, 21, 15), (0, 14, 25, 17)] 7 [.ref (zad Y 0), .int (i32 a1), .int (i32 a2), .int (i32 a3), .int (i32 a4), .ref (zad Y 500)] Y g q := by
  intro q hv
  refine zmetw_of RL rfl (by decide +kernel) (Nat.le_of_ble_eq_true rfl) ?_
  intro p e s m below meth c cx htab H locs ls hH hS hl
  exact wL_addBox cx hl0 htab g a1 a2 a3 a4 q hv H locs ls hH hS hl
def fL_toggle (g : zSt) (a1 : Int) : Option (Int × zSt) := zbx (fX7_toggle g a1) (fun v E g2 => (if E = 0 then zlet (zwl g2 1 (i32 v).toInt64) (fun g3 => some (0, g3)) else (if E = 1 then some (1, g2) else none)))
theorem wL_toggle (cx : zCx Y p s m args meth c RL cL_toggle 4 (some .int)) (hl0 : l.stackTraces = false) (htab : c.exceptionTable.toList = tableOf [(0, 9, 12, 13)]) (g : zSt) (a1 : Int) : zWo (ρ := Int × zSt) Y p l e (zrx 7) s m args below meth c 4 0 0 (fun q => vx_MQ below (zQw Y q) (vx_X (S := Unit) (fun _ => False) (fun _ _ _ => True) (zA Y)) args s 1 6 (zA Y)) g [(0, .ref (zad Y 0)), (1, .int (i32 a1)), (2, .ref (zad Y 500))] [] 0 (fL_toggle g a1) := by
  unfold fL_toggle
  refine zr_aload_n (pc' := 1) cx rfl 2 dL_toggle_0 rfl rfl ?_
  refine zr_iconst (pc' := 2) cx rfl dL_toggle_1 ?_
  refine zr_aload_n (pc' := 3) cx rfl 0 dL_toggle_2 rfl rfl ?_
  refine zr_iload_n (pc' := 4) cx rfl 1 dL_toggle_3 rfl rfl ?_
  refine zr_callX (pc' := 7) cx rfl (an := 1) (As := [.int (i32 a1)]) 8 zkc_0 (by decide) rfl (fun q hq => mX7_toggle l hl0 Y g a1 q hq) (zG_V zw_724 zw_725 zw_726 zw_101 zw_727) (by decide +kernel) ⟨Nat.le_of_ble_eq_true rfl, Nat.le_of_ble_eq_true rfl⟩ ⟨Nat.le_of_ble_eq_true rfl, Nat.le_of_ble_eq_true rfl⟩ rfl rfl (Nat.le_of_ble_eq_true rfl) dL_toggle_4 ?_ ?_
  · intro v g2
    refine zr_case0 rfl ?_
    refine zr_i2l (pc' := 8) cx rfl dL_toggle_7 ?_
    refine zr_last (pc' := 9) cx rfl zkc_500 zk31_one dL_toggle_8 ?_
    refine zr_letS (fun g3 => ?_)
    refine zr_goto cx (tgt := 15) dL_toggle_9 rfl ?_
    refine zr_iconst (pc' := 16) cx rfl dL_toggle_15 ?_
    exact zr_iretW cx dL_toggle_16
  · intro E v g2 h1 h2
    refine zx_case (fun hE => absurd hE (by omega)) (fun _ => ?_)
    refine zx_case (fun hE => ?_) (fun n0 => ?_)
    · subst hE
      refine zr_catch cx ⟨by decide, by decide⟩ [] ⟨0, 9, 12, 13⟩ [] htab (fun z hz => nomatch hz) rfl (by decide) zw_594 (List.mem_of_getElem? (i := 0) rfl) (fun q9 => ?_)
      refine zr_astore_n (pc' := 13) cx rfl (lv' := [(3, .ref q9), (0, .ref (zad Y 0)), (1, .int (i32 a1)), (2, .ref (zad Y 500))]) dL_toggle_12 rfl (by decide) rfl ?_
      refine zr_iconst (pc' := 14) cx rfl dL_toggle_13 ?_
      exact zr_iretW cx dL_toggle_14
    · intro r hr; cases hr
theorem mL_toggle (l : Launch) (hl0 : l.stackTraces = false) (Y : zLy) (g : zSt) (a1 : Int) : ∀ q, fL_toggle g a1 = some q → zMw l yL_toggle cL_toggle 4 [(0, 9, 12, 13)] 7 [.ref (zad Y 0), .int (i32 a1), .ref (zad Y 500)] Y g q := by
  intro q hv
  refine zmetw_of RL rfl (by decide +kernel) (Nat.le_of_ble_eq_true rfl) ?_
  intro p e s m below meth c cx htab H locs ls hH hS hl
  exact wL_toggle cx hl0 htab g a1 q hv H locs ls hH hS hl
def fL_cross (g : zSt) (a1 : Int) : Option (Int × zSt) := zbx (fX7_cross g a1) (fun v E g2 => (if E = 0 then zlet (zwl g2 1 (i32 v).toInt64) (fun g3 => some (0, g3)) else (if E = 1 then some (1, g2) else none)))
theorem wL_cross (cx : zCx Y p s m args meth c RL cL_cross 4 (some .int)) (hl0 : l.stackTraces = false) (htab : c.exceptionTable.toList = tableOf [(0, 9, 12, 13)]) (g : zSt) (a1 : Int) : zWo (ρ := Int × zSt) Y p l e (zrx 7) s m args below meth c 4 0 0 (fun q => vx_MQ below (zQw Y q) (vx_X (S := Unit) (fun _ => False) (fun _ _ _ => True) (zA Y)) args s 1 6 (zA Y)) g [(0, .ref (zad Y 0)), (1, .int (i32 a1)), (2, .ref (zad Y 500))] [] 0 (fL_cross g a1) := by
  unfold fL_cross
  refine zr_aload_n (pc' := 1) cx rfl 2 dL_cross_0 rfl rfl ?_
  refine zr_iconst (pc' := 2) cx rfl dL_cross_1 ?_
  refine zr_aload_n (pc' := 3) cx rfl 0 dL_cross_2 rfl rfl ?_
  refine zr_iload_n (pc' := 4) cx rfl 1 dL_cross_3 rfl rfl ?_
  refine zr_callX (pc' := 7) cx rfl (an := 1) (As := [.int (i32 a1)]) 8 zkc_0 (by decide) rfl (fun q hq => mX7_cross l hl0 Y g a1 q hq) (zG_V zw_736 zw_737 zw_738 zw_101 zw_739) (by decide +kernel) ⟨Nat.le_of_ble_eq_true rfl, Nat.le_of_ble_eq_true rfl⟩ ⟨Nat.le_of_ble_eq_true rfl, Nat.le_of_ble_eq_true rfl⟩ rfl rfl (Nat.le_of_ble_eq_true rfl) dL_cross_4 ?_ ?_
  · intro v g2
    refine zr_case0 rfl ?_
    refine zr_i2l (pc' := 8) cx rfl dL_cross_7 ?_
    refine zr_last (pc' := 9) cx rfl zkc_500 zk31_one dL_cross_8 ?_
    refine zr_letS (fun g3 => ?_)
    refine zr_goto cx (tgt := 15) dL_cross_9 rfl ?_
    refine zr_iconst (pc' := 16) cx rfl dL_cross_15 ?_
    exact zr_iretW cx dL_cross_16
  · intro E v g2 h1 h2
    refine zx_case (fun hE => absurd hE (by omega)) (fun _ => ?_)
    refine zx_case (fun hE => ?_) (fun n0 => ?_)
    · subst hE
      refine zr_catch cx ⟨by decide, by decide⟩ [] ⟨0, 9, 12, 13⟩ [] htab (fun z hz => nomatch hz) rfl (by decide) zw_594 (List.mem_of_getElem? (i := 0) rfl) (fun q9 => ?_)
      refine zr_astore_n (pc' := 13) cx rfl (lv' := [(3, .ref q9), (0, .ref (zad Y 0)), (1, .int (i32 a1)), (2, .ref (zad Y 500))]) dL_cross_12 rfl (by decide) rfl ?_
      refine zr_iconst (pc' := 14) cx rfl dL_cross_13 ?_
      exact zr_iretW cx dL_cross_14
    · intro r hr; cases hr
theorem mL_cross (l : Launch) (hl0 : l.stackTraces = false) (Y : zLy) (g : zSt) (a1 : Int) : ∀ q, fL_cross g a1 = some q → zMw l yL_cross cL_cross 4 [(0, 9, 12, 13)] 7 [.ref (zad Y 0), .int (i32 a1), .ref (zad Y 500)] Y g q := by
  intro q hv
  refine zmetw_of RL rfl (by decide +kernel) (Nat.le_of_ble_eq_true rfl) ?_
  intro p e s m below meth c cx htab H locs ls hH hS hl
  exact wL_cross cx hl0 htab g a1 q hv H locs ls hH hS hl
def fL_replace (g : zSt) (a1 : Int) (a2 : Int) (a3 : Int) : Option (Int × zSt) := zbx (fX7_replace g a1 a2 a3) (fun v E g2 => (if E = 0 then zlet (zwl g2 1 (i32 v).toInt64) (fun g3 => some (0, g3)) else (if E = 1 then some (1, g2) else (if E = 2 then some (2, g2) else (if E = 3 then some (3, g2) else none)))))
theorem wL_replace (cx : zCx Y p s m args meth c RL cL_replace 6 (some .int)) (hl0 : l.stackTraces = false) (htab : c.exceptionTable.toList = tableOf [(0, 12, 15, 13), (0, 12, 19, 15), (0, 12, 23, 17)]) (g : zSt) (a1 : Int) (a2 : Int) (a3 : Int) : zWo (ρ := Int × zSt) Y p l e (zrx 7) s m args below meth c 6 0 0 (fun q => vx_MQ below (zQw Y q) (vx_X (S := Unit) (fun _ => False) (fun _ _ _ => True) (zA Y)) args s 1 6 (zA Y)) g [(0, .ref (zad Y 0)), (1, .int (i32 a1)), (2, .int (i32 a2)), (3, .int (i32 a3)), (4, .ref (zad Y 500))] [] 0 (fL_replace g a1 a2 a3) := by
  unfold fL_replace
  refine zr_aload (pc' := 2) cx rfl 4 dL_replace_0 rfl ?_
  refine zr_iconst (pc' := 3) cx rfl dL_replace_2 ?_
  refine zr_aload_n (pc' := 4) cx rfl 0 dL_replace_3 rfl rfl ?_
  refine zr_iload_n (pc' := 5) cx rfl 1 dL_replace_4 rfl rfl ?_
  refine zr_iload_n (pc' := 6) cx rfl 2 dL_replace_5 rfl rfl ?_
  refine zr_iload_n (pc' := 7) cx rfl 3 dL_replace_6 rfl rfl ?_
  refine zr_callX (pc' := 10) cx rfl (an := 3) (As := [.int (i32 a1), .int (i32 a2), .int (i32 a3)]) 8 zkc_0 (by decide) rfl (fun q hq => mX7_replace l hl0 Y g a1 a2 a3 q hq) (zG_V zw_743 zw_744 zw_745 zw_101 zw_746) (by decide +kernel) ⟨Nat.le_of_ble_eq_true rfl, Nat.le_of_ble_eq_true rfl⟩ ⟨Nat.le_of_ble_eq_true rfl, Nat.le_of_ble_eq_true rfl⟩ rfl rfl (Nat.le_of_ble_eq_true rfl) dL_replace_7 ?_ ?_
  · intro v g2
    refine zr_case0 rfl ?_
    refine zr_i2l (pc' := 11) cx rfl dL_replace_10 ?_
    refine zr_last (pc' := 12) cx rfl zkc_500 zk31_one dL_replace_11 ?_
    refine zr_letS (fun g3 => ?_)
    refine zr_goto cx (tgt := 27) dL_replace_12 rfl ?_
    refine zr_iconst (pc' := 28) cx rfl dL_replace_27 ?_
    exact zr_iretW cx dL_replace_28
  · intro E v g2 h1 h2
    refine zx_case (fun hE => absurd hE (by omega)) (fun _ => ?_)
    refine zx_case (fun hE => ?_) (fun n0 => ?_)
    · subst hE
      refine zr_catch cx ⟨by decide, by decide⟩ [] ⟨0, 12, 15, 13⟩ [⟨0, 12, 19, 15⟩, ⟨0, 12, 23, 17⟩] htab (fun z hz => nomatch hz) rfl (by decide) zw_594 (List.mem_of_getElem? (i := 0) rfl) (fun q9 => ?_)
      refine zr_astore (pc' := 17) cx rfl (lv' := [(5, .ref q9), (0, .ref (zad Y 0)), (1, .int (i32 a1)), (2, .int (i32 a2)), (3, .int (i32 a3)), (4, .ref (zad Y 500))]) dL_replace_15 (by decide) rfl ?_
      refine zr_iconst (pc' := 18) cx rfl dL_replace_17 ?_
      exact zr_iretW cx dL_replace_18
    · refine zx_case (fun hE => ?_) (fun n1 => ?_)
      · subst hE
        refine zr_catch cx ⟨by decide, by decide⟩ [⟨0, 12, 15, 13⟩] ⟨0, 12, 19, 15⟩ [⟨0, 12, 23, 17⟩] htab (List.forall_mem_cons.mpr ⟨⟨1, by decide, by decide, zw_594⟩, fun z hz => nomatch hz⟩) rfl (by decide) zw_595 (List.mem_of_getElem? (i := 1) rfl) (fun q9 => ?_)
        refine zr_astore (pc' := 21) cx rfl (lv' := [(5, .ref q9), (0, .ref (zad Y 0)), (1, .int (i32 a1)), (2, .int (i32 a2)), (3, .int (i32 a3)), (4, .ref (zad Y 500))]) dL_replace_19 (by decide) rfl ?_
        refine zr_iconst (pc' := 22) cx rfl dL_replace_21 ?_
        exact zr_iretW cx dL_replace_22
      · refine zx_case (fun hE => ?_) (fun n2 => ?_)
        · subst hE
          refine zr_catch cx ⟨by decide, by decide⟩ [⟨0, 12, 15, 13⟩, ⟨0, 12, 19, 15⟩] ⟨0, 12, 23, 17⟩ [] htab (List.forall_mem_cons.mpr ⟨⟨1, by decide, by decide, zw_594⟩, List.forall_mem_cons.mpr ⟨⟨2, by decide, by decide, zw_595⟩, fun z hz => nomatch hz⟩⟩) rfl (by decide) zw_596 (List.mem_of_getElem? (i := 2) rfl) (fun q9 => ?_)
          refine zr_astore (pc' := 25) cx rfl (lv' := [(5, .ref q9), (0, .ref (zad Y 0)), (1, .int (i32 a1)), (2, .int (i32 a2)), (3, .int (i32 a3)), (4, .ref (zad Y 500))]) dL_replace_23 (by decide) rfl ?_
          refine zr_iconst (pc' := 26) cx rfl dL_replace_25 ?_
          exact zr_iretW cx dL_replace_26
        · intro r hr; cases hr
theorem mL_replace (l : Launch) (hl0 : l.stackTraces = false) (Y : zLy) (g : zSt) (a1 : Int) (a2 : Int) (a3 : Int) : ∀ q, fL_replace g a1 a2 a3 = some q → zMw l yL_replace cL_replace 6 [(0, 12, 15, 13), (0, 12, 19, 15), (0, 12, 23, 17)] 7 [.ref (zad Y 0), .int (i32 a1), .int (i32 a2), .int (i32 a3), .ref (zad Y 500)] Y g q := by
  intro q hv
  refine zmetw_of RL rfl (by decide +kernel) (Nat.le_of_ble_eq_true rfl) ?_
  intro p e s m below meth c cx htab H locs ls hH hS hl
  exact wL_replace cx hl0 htab g a1 a2 a3 q hv H locs ls hH hS hl
def fL_buyFuses (g : zSt) (a1 : Int) : Option (Int × zSt) := zbx (fX7_buyFuses g a1) (fun v E g2 => (if E = 0 then zlet (zwl g2 1 (i32 v).toInt64) (fun g3 => some (0, g3)) else (if E = 2 then some (1, g2) else (if E = 3 then some (2, g2) else none))))
theorem wL_buyFuses (cx : zCx Y p s m args meth c RL cL_buyFuses 4 (some .int)) (hl0 : l.stackTraces = false) (htab : c.exceptionTable.toList = tableOf [(0, 9, 12, 15), (0, 9, 15, 17)]) (g : zSt) (a1 : Int) : zWo (ρ := Int × zSt) Y p l e (zrx 7) s m args below meth c 4 0 0 (fun q => vx_MQ below (zQw Y q) (vx_X (S := Unit) (fun _ => False) (fun _ _ _ => True) (zA Y)) args s 1 6 (zA Y)) g [(0, .ref (zad Y 0)), (1, .int (i32 a1)), (2, .ref (zad Y 500))] [] 0 (fL_buyFuses g a1) := by
  unfold fL_buyFuses
  refine zr_aload_n (pc' := 1) cx rfl 2 dL_buyFuses_0 rfl rfl ?_
  refine zr_iconst (pc' := 2) cx rfl dL_buyFuses_1 ?_
  refine zr_aload_n (pc' := 3) cx rfl 0 dL_buyFuses_2 rfl rfl ?_
  refine zr_iload_n (pc' := 4) cx rfl 1 dL_buyFuses_3 rfl rfl ?_
  refine zr_callX (pc' := 7) cx rfl (an := 1) (As := [.int (i32 a1)]) 8 zkc_0 (by decide) rfl (fun q hq => mX7_buyFuses l hl0 Y g a1 q hq) (zG_V zw_755 zw_756 zw_757 zw_101 zw_758) (by decide +kernel) ⟨Nat.le_of_ble_eq_true rfl, Nat.le_of_ble_eq_true rfl⟩ ⟨Nat.le_of_ble_eq_true rfl, Nat.le_of_ble_eq_true rfl⟩ rfl rfl (Nat.le_of_ble_eq_true rfl) dL_buyFuses_4 ?_ ?_
  · intro v g2
    refine zr_case0 rfl ?_
    refine zr_i2l (pc' := 8) cx rfl dL_buyFuses_7 ?_
    refine zr_last (pc' := 9) cx rfl zkc_500 zk31_one dL_buyFuses_8 ?_
    refine zr_letS (fun g3 => ?_)
    refine zr_goto cx (tgt := 18) dL_buyFuses_9 rfl ?_
    refine zr_iconst (pc' := 19) cx rfl dL_buyFuses_18 ?_
    exact zr_iretW cx dL_buyFuses_19
  · intro E v g2 h1 h2
    refine zx_case (fun hE => absurd hE (by omega)) (fun _ => ?_)
    refine zx_case (fun hE => ?_) (fun n0 => ?_)
    · subst hE
      refine zr_catch cx ⟨by decide, by decide⟩ [] ⟨0, 9, 12, 15⟩ [⟨0, 9, 15, 17⟩] htab (fun z hz => nomatch hz) rfl (by decide) zw_595 (List.mem_of_getElem? (i := 1) rfl) (fun q9 => ?_)
      refine zr_astore_n (pc' := 13) cx rfl (lv' := [(3, .ref q9), (0, .ref (zad Y 0)), (1, .int (i32 a1)), (2, .ref (zad Y 500))]) dL_buyFuses_12 rfl (by decide) rfl ?_
      refine zr_iconst (pc' := 14) cx rfl dL_buyFuses_13 ?_
      exact zr_iretW cx dL_buyFuses_14
    · refine zx_case (fun hE => ?_) (fun n1 => ?_)
      · subst hE
        refine zr_catch cx ⟨by decide, by decide⟩ [⟨0, 9, 12, 15⟩] ⟨0, 9, 15, 17⟩ [] htab (List.forall_mem_cons.mpr ⟨⟨2, by decide, by decide, zw_595⟩, fun z hz => nomatch hz⟩) rfl (by decide) zw_596 (List.mem_of_getElem? (i := 2) rfl) (fun q9 => ?_)
        refine zr_astore_n (pc' := 16) cx rfl (lv' := [(3, .ref q9), (0, .ref (zad Y 0)), (1, .int (i32 a1)), (2, .ref (zad Y 500))]) dL_buyFuses_15 rfl (by decide) rfl ?_
        refine zr_iconst (pc' := 17) cx rfl dL_buyFuses_16 ?_
        exact zr_iretW cx dL_buyFuses_17
      · intro r hr; cases hr
theorem mL_buyFuses (l : Launch) (hl0 : l.stackTraces = false) (Y : zLy) (g : zSt) (a1 : Int) : ∀ q, fL_buyFuses g a1 = some q → zMw l yL_buyFuses cL_buyFuses 4 [(0, 9, 12, 15), (0, 9, 15, 17)] 7 [.ref (zad Y 0), .int (i32 a1), .ref (zad Y 500)] Y g q := by
  intro q hv
  refine zmetw_of RL rfl (by decide +kernel) (Nat.le_of_ble_eq_true rfl) ?_
  intro p e s m below meth c cx htab H locs ls hH hS hl
  exact wL_buyFuses cx hl0 htab g a1 q hv H locs ls hH hS hl
def fL_hang (g : zSt) (a1 : Int) (a2 : Int) (a3 : Int) : Option (Int × zSt) := zbx (fX7_hang g a1 a2 a3) (fun v E g2 => (if E = 0 then zlet (zwl g2 1 (i32 v).toInt64) (fun g3 => some (0, g3)) else (if E = 1 then some (1, g2) else (if E = 2 then some (2, g2) else (if E = 3 then some (3, g2) else none)))))
theorem wL_hang (cx : zCx Y p s m args meth c RL cL_hang 6 (some .int)) (hl0 : l.stackTraces = false) (htab : c.exceptionTable.toList = tableOf [(0, 12, 15, 13), (0, 12, 19, 15), (0, 12, 23, 17)]) (g : zSt) (a1 : Int) (a2 : Int) (a3 : Int) : zWo (ρ := Int × zSt) Y p l e (zrx 7) s m args below meth c 6 0 0 (fun q => vx_MQ below (zQw Y q) (vx_X (S := Unit) (fun _ => False) (fun _ _ _ => True) (zA Y)) args s 1 6 (zA Y)) g [(0, .ref (zad Y 0)), (1, .int (i32 a1)), (2, .int (i32 a2)), (3, .int (i32 a3)), (4, .ref (zad Y 500))] [] 0 (fL_hang g a1 a2 a3) := by
  unfold fL_hang
  refine zr_aload (pc' := 2) cx rfl 4 dL_hang_0 rfl ?_
  refine zr_iconst (pc' := 3) cx rfl dL_hang_2 ?_
  refine zr_aload_n (pc' := 4) cx rfl 0 dL_hang_3 rfl rfl ?_
  refine zr_iload_n (pc' := 5) cx rfl 1 dL_hang_4 rfl rfl ?_
  refine zr_iload_n (pc' := 6) cx rfl 2 dL_hang_5 rfl rfl ?_
  refine zr_iload_n (pc' := 7) cx rfl 3 dL_hang_6 rfl rfl ?_
  refine zr_callX (pc' := 10) cx rfl (an := 3) (As := [.int (i32 a1), .int (i32 a2), .int (i32 a3)]) 8 zkc_0 (by decide) rfl (fun q hq => mX7_hang l hl0 Y g a1 a2 a3 q hq) (zG_V zw_764 zw_765 zw_766 zw_101 zw_767) (by decide +kernel) ⟨Nat.le_of_ble_eq_true rfl, Nat.le_of_ble_eq_true rfl⟩ ⟨Nat.le_of_ble_eq_true rfl, Nat.le_of_ble_eq_true rfl⟩ rfl rfl (Nat.le_of_ble_eq_true rfl) dL_hang_7 ?_ ?_
  · intro v g2
    refine zr_case0 rfl ?_
    refine zr_i2l (pc' := 11) cx rfl dL_hang_10 ?_
    refine zr_last (pc' := 12) cx rfl zkc_500 zk31_one dL_hang_11 ?_
    refine zr_letS (fun g3 => ?_)
    refine zr_goto cx (tgt := 27) dL_hang_12 rfl ?_
    refine zr_iconst (pc' := 28) cx rfl dL_hang_27 ?_
    exact zr_iretW cx dL_hang_28
  · intro E v g2 h1 h2
    refine zx_case (fun hE => absurd hE (by omega)) (fun _ => ?_)
    refine zx_case (fun hE => ?_) (fun n0 => ?_)
    · subst hE
      refine zr_catch cx ⟨by decide, by decide⟩ [] ⟨0, 12, 15, 13⟩ [⟨0, 12, 19, 15⟩, ⟨0, 12, 23, 17⟩] htab (fun z hz => nomatch hz) rfl (by decide) zw_594 (List.mem_of_getElem? (i := 0) rfl) (fun q9 => ?_)
      refine zr_astore (pc' := 17) cx rfl (lv' := [(5, .ref q9), (0, .ref (zad Y 0)), (1, .int (i32 a1)), (2, .int (i32 a2)), (3, .int (i32 a3)), (4, .ref (zad Y 500))]) dL_hang_15 (by decide) rfl ?_
      refine zr_iconst (pc' := 18) cx rfl dL_hang_17 ?_
      exact zr_iretW cx dL_hang_18
    · refine zx_case (fun hE => ?_) (fun n1 => ?_)
      · subst hE
        refine zr_catch cx ⟨by decide, by decide⟩ [⟨0, 12, 15, 13⟩] ⟨0, 12, 19, 15⟩ [⟨0, 12, 23, 17⟩] htab (List.forall_mem_cons.mpr ⟨⟨1, by decide, by decide, zw_594⟩, fun z hz => nomatch hz⟩) rfl (by decide) zw_595 (List.mem_of_getElem? (i := 1) rfl) (fun q9 => ?_)
        refine zr_astore (pc' := 21) cx rfl (lv' := [(5, .ref q9), (0, .ref (zad Y 0)), (1, .int (i32 a1)), (2, .int (i32 a2)), (3, .int (i32 a3)), (4, .ref (zad Y 500))]) dL_hang_19 (by decide) rfl ?_
        refine zr_iconst (pc' := 22) cx rfl dL_hang_21 ?_
        exact zr_iretW cx dL_hang_22
      · refine zx_case (fun hE => ?_) (fun n2 => ?_)
        · subst hE
          refine zr_catch cx ⟨by decide, by decide⟩ [⟨0, 12, 15, 13⟩, ⟨0, 12, 19, 15⟩] ⟨0, 12, 23, 17⟩ [] htab (List.forall_mem_cons.mpr ⟨⟨1, by decide, by decide, zw_594⟩, List.forall_mem_cons.mpr ⟨⟨2, by decide, by decide, zw_595⟩, fun z hz => nomatch hz⟩⟩) rfl (by decide) zw_596 (List.mem_of_getElem? (i := 2) rfl) (fun q9 => ?_)
          refine zr_astore (pc' := 25) cx rfl (lv' := [(5, .ref q9), (0, .ref (zad Y 0)), (1, .int (i32 a1)), (2, .int (i32 a2)), (3, .int (i32 a3)), (4, .ref (zad Y 500))]) dL_hang_23 (by decide) rfl ?_
          refine zr_iconst (pc' := 26) cx rfl dL_hang_25 ?_
          exact zr_iretW cx dL_hang_26
        · intro r hr; cases hr
theorem mL_hang (l : Launch) (hl0 : l.stackTraces = false) (Y : zLy) (g : zSt) (a1 : Int) (a2 : Int) (a3 : Int) : ∀ q, fL_hang g a1 a2 a3 = some q → zMw l yL_hang cL_hang 6 [(0, 12, 15, 13), (0, 12, 19, 15), (0, 12, 23, 17)] 7 [.ref (zad Y 0), .int (i32 a1), .int (i32 a2), .int (i32 a3), .ref (zad Y 500)] Y g q := by
  intro q hv
  refine zmetw_of RL rfl (by decide +kernel) (Nat.le_of_ble_eq_true rfl) ?_
  intro p e s m below meth c cx htab H locs ls hH hS hl
  exact wL_hang cx hl0 htab g a1 a2 a3 q hv H locs ls hH hS hl
def fL_takeDown (g : zSt) (a1 : Int) : Option (Int × zSt) := zbx (fX7_takeDown g a1) (fun v E g2 => (if E = 0 then zlet (zwl g2 1 (i32 v).toInt64) (fun g3 => some (0, g3)) else (if E = 1 then some (1, g2) else none)))
theorem wL_takeDown (cx : zCx Y p s m args meth c RL cL_takeDown 4 (some .int)) (hl0 : l.stackTraces = false) (htab : c.exceptionTable.toList = tableOf [(0, 9, 12, 13)]) (g : zSt) (a1 : Int) : zWo (ρ := Int × zSt) Y p l e (zrx 7) s m args below meth c 4 0 0 (fun q => vx_MQ below (zQw Y q) (vx_X (S := Unit) (fun _ => False) (fun _ _ _ => True) (zA Y)) args s 1 6 (zA Y)) g [(0, .ref (zad Y 0)), (1, .int (i32 a1)), (2, .ref (zad Y 500))] [] 0 (fL_takeDown g a1) := by
  unfold fL_takeDown
  refine zr_aload_n (pc' := 1) cx rfl 2 dL_takeDown_0 rfl rfl ?_
  refine zr_iconst (pc' := 2) cx rfl dL_takeDown_1 ?_
  refine zr_aload_n (pc' := 3) cx rfl 0 dL_takeDown_2 rfl rfl ?_
  refine zr_iload_n (pc' := 4) cx rfl 1 dL_takeDown_3 rfl rfl ?_
  refine zr_callX (pc' := 7) cx rfl (an := 1) (As := [.int (i32 a1)]) 8 zkc_0 (by decide) rfl (fun q hq => mX7_takeDown l hl0 Y g a1 q hq) (zG_V zw_778 zw_779 zw_780 zw_101 zw_781) (by decide +kernel) ⟨Nat.le_of_ble_eq_true rfl, Nat.le_of_ble_eq_true rfl⟩ ⟨Nat.le_of_ble_eq_true rfl, Nat.le_of_ble_eq_true rfl⟩ rfl rfl (Nat.le_of_ble_eq_true rfl) dL_takeDown_4 ?_ ?_
  · intro v g2
    refine zr_case0 rfl ?_
    refine zr_i2l (pc' := 8) cx rfl dL_takeDown_7 ?_
    refine zr_last (pc' := 9) cx rfl zkc_500 zk31_one dL_takeDown_8 ?_
    refine zr_letS (fun g3 => ?_)
    refine zr_goto cx (tgt := 15) dL_takeDown_9 rfl ?_
    refine zr_iconst (pc' := 16) cx rfl dL_takeDown_15 ?_
    exact zr_iretW cx dL_takeDown_16
  · intro E v g2 h1 h2
    refine zx_case (fun hE => absurd hE (by omega)) (fun _ => ?_)
    refine zx_case (fun hE => ?_) (fun n0 => ?_)
    · subst hE
      refine zr_catch cx ⟨by decide, by decide⟩ [] ⟨0, 9, 12, 13⟩ [] htab (fun z hz => nomatch hz) rfl (by decide) zw_594 (List.mem_of_getElem? (i := 0) rfl) (fun q9 => ?_)
      refine zr_astore_n (pc' := 13) cx rfl (lv' := [(3, .ref q9), (0, .ref (zad Y 0)), (1, .int (i32 a1)), (2, .ref (zad Y 500))]) dL_takeDown_12 rfl (by decide) rfl ?_
      refine zr_iconst (pc' := 14) cx rfl dL_takeDown_13 ?_
      exact zr_iretW cx dL_takeDown_14
    · intro r hr; cases hr
theorem mL_takeDown (l : Launch) (hl0 : l.stackTraces = false) (Y : zLy) (g : zSt) (a1 : Int) : ∀ q, fL_takeDown g a1 = some q → zMw l yL_takeDown cL_takeDown 4 [(0, 9, 12, 13)] 7 [.ref (zad Y 0), .int (i32 a1), .ref (zad Y 500)] Y g q := by
  intro q hv
  refine zmetw_of RL rfl (by decide +kernel) (Nat.le_of_ble_eq_true rfl) ?_
  intro p e s m below meth c cx htab H locs ls hH hS hl
  exact wL_takeDown cx hl0 htab g a1 q hv H locs ls hH hS hl
def fL_fault (g : zSt) (a1 : Int) (a2 : Int) (a3 : Int) : Option (Int × zSt) := zbx (fX7_fault g a1 a2 a3) (fun v E g2 => (if E = 0 then zlet (zwl g2 1 (i32 v).toInt64) (fun g3 => some (0, g3)) else (if E = 1 then some (1, g2) else (if E = 2 then some (2, g2) else (if E = 3 then some (3, g2) else none)))))
theorem wL_fault (cx : zCx Y p s m args meth c RL cL_fault 6 (some .int)) (hl0 : l.stackTraces = false) (htab : c.exceptionTable.toList = tableOf [(0, 12, 15, 13), (0, 12, 19, 15), (0, 12, 23, 17)]) (g : zSt) (a1 : Int) (a2 : Int) (a3 : Int) : zWo (ρ := Int × zSt) Y p l e (zrx 7) s m args below meth c 6 0 0 (fun q => vx_MQ below (zQw Y q) (vx_X (S := Unit) (fun _ => False) (fun _ _ _ => True) (zA Y)) args s 1 6 (zA Y)) g [(0, .ref (zad Y 0)), (1, .int (i32 a1)), (2, .int (i32 a2)), (3, .int (i32 a3)), (4, .ref (zad Y 500))] [] 0 (fL_fault g a1 a2 a3) := by
  unfold fL_fault
  refine zr_aload (pc' := 2) cx rfl 4 dL_fault_0 rfl ?_
  refine zr_iconst (pc' := 3) cx rfl dL_fault_2 ?_
  refine zr_aload_n (pc' := 4) cx rfl 0 dL_fault_3 rfl rfl ?_
  refine zr_iload_n (pc' := 5) cx rfl 1 dL_fault_4 rfl rfl ?_
  refine zr_iload_n (pc' := 6) cx rfl 2 dL_fault_5 rfl rfl ?_
  refine zr_iload_n (pc' := 7) cx rfl 3 dL_fault_6 rfl rfl ?_
  refine zr_callX (pc' := 10) cx rfl (an := 3) (As := [.int (i32 a1), .int (i32 a2), .int (i32 a3)]) 8 zkc_0 (by decide) rfl (fun q hq => mX7_fault l hl0 Y g a1 a2 a3 q hq) (zG_V zw_794 zw_795 zw_796 zw_101 zw_797) (by decide +kernel) ⟨Nat.le_of_ble_eq_true rfl, Nat.le_of_ble_eq_true rfl⟩ ⟨Nat.le_of_ble_eq_true rfl, Nat.le_of_ble_eq_true rfl⟩ rfl rfl (Nat.le_of_ble_eq_true rfl) dL_fault_7 ?_ ?_
  · intro v g2
    refine zr_case0 rfl ?_
    refine zr_i2l (pc' := 11) cx rfl dL_fault_10 ?_
    refine zr_last (pc' := 12) cx rfl zkc_500 zk31_one dL_fault_11 ?_
    refine zr_letS (fun g3 => ?_)
    refine zr_goto cx (tgt := 27) dL_fault_12 rfl ?_
    refine zr_iconst (pc' := 28) cx rfl dL_fault_27 ?_
    exact zr_iretW cx dL_fault_28
  · intro E v g2 h1 h2
    refine zx_case (fun hE => absurd hE (by omega)) (fun _ => ?_)
    refine zx_case (fun hE => ?_) (fun n0 => ?_)
    · subst hE
      refine zr_catch cx ⟨by decide, by decide⟩ [] ⟨0, 12, 15, 13⟩ [⟨0, 12, 19, 15⟩, ⟨0, 12, 23, 17⟩] htab (fun z hz => nomatch hz) rfl (by decide) zw_594 (List.mem_of_getElem? (i := 0) rfl) (fun q9 => ?_)
      refine zr_astore (pc' := 17) cx rfl (lv' := [(5, .ref q9), (0, .ref (zad Y 0)), (1, .int (i32 a1)), (2, .int (i32 a2)), (3, .int (i32 a3)), (4, .ref (zad Y 500))]) dL_fault_15 (by decide) rfl ?_
      refine zr_iconst (pc' := 18) cx rfl dL_fault_17 ?_
      exact zr_iretW cx dL_fault_18
    · refine zx_case (fun hE => ?_) (fun n1 => ?_)
      · subst hE
        refine zr_catch cx ⟨by decide, by decide⟩ [⟨0, 12, 15, 13⟩] ⟨0, 12, 19, 15⟩ [⟨0, 12, 23, 17⟩] htab (List.forall_mem_cons.mpr ⟨⟨1, by decide, by decide, zw_594⟩, fun z hz => nomatch hz⟩) rfl (by decide) zw_595 (List.mem_of_getElem? (i := 1) rfl) (fun q9 => ?_)
        refine zr_astore (pc' := 21) cx rfl (lv' := [(5, .ref q9), (0, .ref (zad Y 0)), (1, .int (i32 a1)), (2, .int (i32 a2)), (3, .int (i32 a3)), (4, .ref (zad Y 500))]) dL_fault_19 (by decide) rfl ?_
        refine zr_iconst (pc' := 22) cx rfl dL_fault_21 ?_
        exact zr_iretW cx dL_fault_22
      · refine zx_case (fun hE => ?_) (fun n2 => ?_)
        · subst hE
          refine zr_catch cx ⟨by decide, by decide⟩ [⟨0, 12, 15, 13⟩, ⟨0, 12, 19, 15⟩] ⟨0, 12, 23, 17⟩ [] htab (List.forall_mem_cons.mpr ⟨⟨1, by decide, by decide, zw_594⟩, List.forall_mem_cons.mpr ⟨⟨2, by decide, by decide, zw_595⟩, fun z hz => nomatch hz⟩⟩) rfl (by decide) zw_596 (List.mem_of_getElem? (i := 2) rfl) (fun q9 => ?_)
          refine zr_astore (pc' := 25) cx rfl (lv' := [(5, .ref q9), (0, .ref (zad Y 0)), (1, .int (i32 a1)), (2, .int (i32 a2)), (3, .int (i32 a3)), (4, .ref (zad Y 500))]) dL_fault_23 (by decide) rfl ?_
          refine zr_iconst (pc' := 26) cx rfl dL_fault_25 ?_
          exact zr_iretW cx dL_fault_26
        · intro r hr; cases hr
theorem mL_fault (l : Launch) (hl0 : l.stackTraces = false) (Y : zLy) (g : zSt) (a1 : Int) (a2 : Int) (a3 : Int) : ∀ q, fL_fault g a1 a2 a3 = some q → zMw l yL_fault cL_fault 6 [(0, 12, 15, 13), (0, 12, 19, 15), (0, 12, 23, 17)] 7 [.ref (zad Y 0), .int (i32 a1), .int (i32 a2), .int (i32 a3), .ref (zad Y 500)] Y g q := by
  intro q hv
  refine zmetw_of RL rfl (by decide +kernel) (Nat.le_of_ble_eq_true rfl) ?_
  intro p e s m below meth c cx htab H locs ls hH hS hl
  exact wL_fault cx hl0 htab g a1 a2 a3 q hv H locs ls hH hS hl
def fL_mend (g : zSt) (a1 : Int) : Option (Int × zSt) := zbx (fX7_mend g a1) (fun v E g2 => (if E = 0 then zlet (zwl g2 1 (i32 v).toInt64) (fun g3 => some (0, g3)) else (if E = 1 then some (1, g2) else none)))
theorem wL_mend (cx : zCx Y p s m args meth c RL cL_mend 4 (some .int)) (hl0 : l.stackTraces = false) (htab : c.exceptionTable.toList = tableOf [(0, 9, 12, 13)]) (g : zSt) (a1 : Int) : zWo (ρ := Int × zSt) Y p l e (zrx 7) s m args below meth c 4 0 0 (fun q => vx_MQ below (zQw Y q) (vx_X (S := Unit) (fun _ => False) (fun _ _ _ => True) (zA Y)) args s 1 6 (zA Y)) g [(0, .ref (zad Y 0)), (1, .int (i32 a1)), (2, .ref (zad Y 500))] [] 0 (fL_mend g a1) := by
  unfold fL_mend
  refine zr_aload_n (pc' := 1) cx rfl 2 dL_mend_0 rfl rfl ?_
  refine zr_iconst (pc' := 2) cx rfl dL_mend_1 ?_
  refine zr_aload_n (pc' := 3) cx rfl 0 dL_mend_2 rfl rfl ?_
  refine zr_iload_n (pc' := 4) cx rfl 1 dL_mend_3 rfl rfl ?_
  refine zr_callX (pc' := 7) cx rfl (an := 1) (As := [.int (i32 a1)]) 8 zkc_0 (by decide) rfl (fun q hq => mX7_mend l hl0 Y g a1 q hq) (zG_V zw_811 zw_812 zw_813 zw_101 zw_814) (by decide +kernel) ⟨Nat.le_of_ble_eq_true rfl, Nat.le_of_ble_eq_true rfl⟩ ⟨Nat.le_of_ble_eq_true rfl, Nat.le_of_ble_eq_true rfl⟩ rfl rfl (Nat.le_of_ble_eq_true rfl) dL_mend_4 ?_ ?_
  · intro v g2
    refine zr_case0 rfl ?_
    refine zr_i2l (pc' := 8) cx rfl dL_mend_7 ?_
    refine zr_last (pc' := 9) cx rfl zkc_500 zk31_one dL_mend_8 ?_
    refine zr_letS (fun g3 => ?_)
    refine zr_goto cx (tgt := 15) dL_mend_9 rfl ?_
    refine zr_iconst (pc' := 16) cx rfl dL_mend_15 ?_
    exact zr_iretW cx dL_mend_16
  · intro E v g2 h1 h2
    refine zx_case (fun hE => absurd hE (by omega)) (fun _ => ?_)
    refine zx_case (fun hE => ?_) (fun n0 => ?_)
    · subst hE
      refine zr_catch cx ⟨by decide, by decide⟩ [] ⟨0, 9, 12, 13⟩ [] htab (fun z hz => nomatch hz) rfl (by decide) zw_594 (List.mem_of_getElem? (i := 0) rfl) (fun q9 => ?_)
      refine zr_astore_n (pc' := 13) cx rfl (lv' := [(3, .ref q9), (0, .ref (zad Y 0)), (1, .int (i32 a1)), (2, .ref (zad Y 500))]) dL_mend_12 rfl (by decide) rfl ?_
      refine zr_iconst (pc' := 14) cx rfl dL_mend_13 ?_
      exact zr_iretW cx dL_mend_14
    · intro r hr; cases hr
theorem mL_mend (l : Launch) (hl0 : l.stackTraces = false) (Y : zLy) (g : zSt) (a1 : Int) : ∀ q, fL_mend g a1 = some q → zMw l yL_mend cL_mend 4 [(0, 9, 12, 13)] 7 [.ref (zad Y 0), .int (i32 a1), .ref (zad Y 500)] Y g q := by
  intro q hv
  refine zmetw_of RL rfl (by decide +kernel) (Nat.le_of_ble_eq_true rfl) ?_
  intro p e s m below meth c cx htab H locs ls hH hS hl
  exact wL_mend cx hl0 htab g a1 q hv H locs ls hH hS hl
def fL_burn (g : zSt) (a1 : Int) : Option (Int × zSt) := zbx (fX7_burn g a1) (fun v E g2 => (if E = 0 then zlet (zwl g2 1 (i32 v).toInt64) (fun g3 => some (0, g3)) else (if E = 2 then some (1, g2) else (if E = 3 then some (2, g2) else none))))
theorem wL_burn (cx : zCx Y p s m args meth c RL cL_burn 4 (some .int)) (hl0 : l.stackTraces = false) (htab : c.exceptionTable.toList = tableOf [(0, 9, 12, 15), (0, 9, 15, 17)]) (g : zSt) (a1 : Int) : zWo (ρ := Int × zSt) Y p l e (zrx 7) s m args below meth c 4 0 0 (fun q => vx_MQ below (zQw Y q) (vx_X (S := Unit) (fun _ => False) (fun _ _ _ => True) (zA Y)) args s 1 6 (zA Y)) g [(0, .ref (zad Y 0)), (1, .int (i32 a1)), (2, .ref (zad Y 500))] [] 0 (fL_burn g a1) := by
  unfold fL_burn
  refine zr_aload_n (pc' := 1) cx rfl 2 dL_burn_0 rfl rfl ?_
  refine zr_iconst (pc' := 2) cx rfl dL_burn_1 ?_
  refine zr_aload_n (pc' := 3) cx rfl 0 dL_burn_2 rfl rfl ?_
  refine zr_iload_n (pc' := 4) cx rfl 1 dL_burn_3 rfl rfl ?_
  refine zr_callX (pc' := 7) cx rfl (an := 1) (As := [.int (i32 a1)]) 8 zkc_0 (by decide) rfl (fun q hq => mX7_burn l hl0 Y g a1 q hq) (zG_V zw_827 zw_828 zw_829 zw_101 zw_830) (by decide +kernel) ⟨Nat.le_of_ble_eq_true rfl, Nat.le_of_ble_eq_true rfl⟩ ⟨Nat.le_of_ble_eq_true rfl, Nat.le_of_ble_eq_true rfl⟩ rfl rfl (Nat.le_of_ble_eq_true rfl) dL_burn_4 ?_ ?_
  · intro v g2
    refine zr_case0 rfl ?_
    refine zr_i2l (pc' := 8) cx rfl dL_burn_7 ?_
    refine zr_last (pc' := 9) cx rfl zkc_500 zk31_one dL_burn_8 ?_
    refine zr_letS (fun g3 => ?_)
    refine zr_goto cx (tgt := 18) dL_burn_9 rfl ?_
    refine zr_iconst (pc' := 19) cx rfl dL_burn_18 ?_
    exact zr_iretW cx dL_burn_19
  · intro E v g2 h1 h2
    refine zx_case (fun hE => absurd hE (by omega)) (fun _ => ?_)
    refine zx_case (fun hE => ?_) (fun n0 => ?_)
    · subst hE
      refine zr_catch cx ⟨by decide, by decide⟩ [] ⟨0, 9, 12, 15⟩ [⟨0, 9, 15, 17⟩] htab (fun z hz => nomatch hz) rfl (by decide) zw_595 (List.mem_of_getElem? (i := 1) rfl) (fun q9 => ?_)
      refine zr_astore_n (pc' := 13) cx rfl (lv' := [(3, .ref q9), (0, .ref (zad Y 0)), (1, .int (i32 a1)), (2, .ref (zad Y 500))]) dL_burn_12 rfl (by decide) rfl ?_
      refine zr_iconst (pc' := 14) cx rfl dL_burn_13 ?_
      exact zr_iretW cx dL_burn_14
    · refine zx_case (fun hE => ?_) (fun n1 => ?_)
      · subst hE
        refine zr_catch cx ⟨by decide, by decide⟩ [⟨0, 9, 12, 15⟩] ⟨0, 9, 15, 17⟩ [] htab (List.forall_mem_cons.mpr ⟨⟨2, by decide, by decide, zw_595⟩, fun z hz => nomatch hz⟩) rfl (by decide) zw_596 (List.mem_of_getElem? (i := 2) rfl) (fun q9 => ?_)
        refine zr_astore_n (pc' := 16) cx rfl (lv' := [(3, .ref q9), (0, .ref (zad Y 0)), (1, .int (i32 a1)), (2, .ref (zad Y 500))]) dL_burn_15 rfl (by decide) rfl ?_
        refine zr_iconst (pc' := 17) cx rfl dL_burn_16 ?_
        exact zr_iretW cx dL_burn_17
      · intro r hr; cases hr
theorem mL_burn (l : Launch) (hl0 : l.stackTraces = false) (Y : zLy) (g : zSt) (a1 : Int) : ∀ q, fL_burn g a1 = some q → zMw l yL_burn cL_burn 4 [(0, 9, 12, 15), (0, 9, 15, 17)] 7 [.ref (zad Y 0), .int (i32 a1), .ref (zad Y 500)] Y g q := by
  intro q hv
  refine zmetw_of RL rfl (by decide +kernel) (Nat.le_of_ble_eq_true rfl) ?_
  intro p e s m below meth c cx htab H locs ls hH hS hl
  exact wL_burn cx hl0 htab g a1 q hv H locs ls hH hS hl
def fL_append (g : zSt) (a1 : Int) : Option (Int × zSt) := zbx (fX7_append g a1) (fun v E g2 => (if E = 0 then zlet (zwl g2 1 (i32 v).toInt64) (fun g3 => some (0, g3)) else (if E = 2 then some (1, g2) else (if E = 3 then some (2, g2) else none))))
theorem wL_append (cx : zCx Y p s m args meth c RL cL_append 4 (some .int)) (hl0 : l.stackTraces = false) (htab : c.exceptionTable.toList = tableOf [(0, 9, 12, 15), (0, 9, 15, 17)]) (g : zSt) (a1 : Int) : zWo (ρ := Int × zSt) Y p l e (zrx 7) s m args below meth c 4 0 0 (fun q => vx_MQ below (zQw Y q) (vx_X (S := Unit) (fun _ => False) (fun _ _ _ => True) (zA Y)) args s 1 6 (zA Y)) g [(0, .ref (zad Y 0)), (1, .int (i32 a1)), (2, .ref (zad Y 500))] [] 0 (fL_append g a1) := by
  unfold fL_append
  refine zr_aload_n (pc' := 1) cx rfl 2 dL_append_0 rfl rfl ?_
  refine zr_iconst (pc' := 2) cx rfl dL_append_1 ?_
  refine zr_aload_n (pc' := 3) cx rfl 0 dL_append_2 rfl rfl ?_
  refine zr_iload_n (pc' := 4) cx rfl 1 dL_append_3 rfl rfl ?_
  refine zr_callX (pc' := 7) cx rfl (an := 1) (As := [.int (i32 a1)]) 8 zkc_0 (by decide) rfl (fun q hq => mX7_append l hl0 Y g a1 q hq) (zG_V zw_837 zw_838 zw_839 zw_101 zw_840) (by decide +kernel) ⟨Nat.le_of_ble_eq_true rfl, Nat.le_of_ble_eq_true rfl⟩ ⟨Nat.le_of_ble_eq_true rfl, Nat.le_of_ble_eq_true rfl⟩ rfl rfl (Nat.le_of_ble_eq_true rfl) dL_append_4 ?_ ?_
  · intro v g2
    refine zr_case0 rfl ?_
    refine zr_i2l (pc' := 8) cx rfl dL_append_7 ?_
    refine zr_last (pc' := 9) cx rfl zkc_500 zk31_one dL_append_8 ?_
    refine zr_letS (fun g3 => ?_)
    refine zr_goto cx (tgt := 18) dL_append_9 rfl ?_
    refine zr_iconst (pc' := 19) cx rfl dL_append_18 ?_
    exact zr_iretW cx dL_append_19
  · intro E v g2 h1 h2
    refine zx_case (fun hE => absurd hE (by omega)) (fun _ => ?_)
    refine zx_case (fun hE => ?_) (fun n0 => ?_)
    · subst hE
      refine zr_catch cx ⟨by decide, by decide⟩ [] ⟨0, 9, 12, 15⟩ [⟨0, 9, 15, 17⟩] htab (fun z hz => nomatch hz) rfl (by decide) zw_595 (List.mem_of_getElem? (i := 1) rfl) (fun q9 => ?_)
      refine zr_astore_n (pc' := 13) cx rfl (lv' := [(3, .ref q9), (0, .ref (zad Y 0)), (1, .int (i32 a1)), (2, .ref (zad Y 500))]) dL_append_12 rfl (by decide) rfl ?_
      refine zr_iconst (pc' := 14) cx rfl dL_append_13 ?_
      exact zr_iretW cx dL_append_14
    · refine zx_case (fun hE => ?_) (fun n1 => ?_)
      · subst hE
        refine zr_catch cx ⟨by decide, by decide⟩ [⟨0, 9, 12, 15⟩] ⟨0, 9, 15, 17⟩ [] htab (List.forall_mem_cons.mpr ⟨⟨2, by decide, by decide, zw_595⟩, fun z hz => nomatch hz⟩) rfl (by decide) zw_596 (List.mem_of_getElem? (i := 2) rfl) (fun q9 => ?_)
        refine zr_astore_n (pc' := 16) cx rfl (lv' := [(3, .ref q9), (0, .ref (zad Y 0)), (1, .int (i32 a1)), (2, .ref (zad Y 500))]) dL_append_15 rfl (by decide) rfl ?_
        refine zr_iconst (pc' := 17) cx rfl dL_append_16 ?_
        exact zr_iretW cx dL_append_17
      · intro r hr; cases hr
theorem mL_append (l : Launch) (hl0 : l.stackTraces = false) (Y : zLy) (g : zSt) (a1 : Int) : ∀ q, fL_append g a1 = some q → zMw l yL_append cL_append 4 [(0, 9, 12, 15), (0, 9, 15, 17)] 7 [.ref (zad Y 0), .int (i32 a1), .ref (zad Y 500)] Y g q := by
  intro q hv
  refine zmetw_of RL rfl (by decide +kernel) (Nat.le_of_ble_eq_true rfl) ?_
  intro p e s m below meth c cx htab H locs ls hH hS hl
  exact wL_append cx hl0 htab g a1 q hv H locs ls hH hS hl
def fL_load (g : zSt)  : Option (Int × zSt) := zbx (fX7_load g) (fun v E g2 => (if E = 0 then zlet (zwl g2 1 (i32 v).toInt64) (fun g3 => some (0, g3)) else (if E = 2 then some (1, g2) else none)))
theorem wL_load (cx : zCx Y p s m args meth c RL cL_load 3 (some .int)) (hl0 : l.stackTraces = false) (htab : c.exceptionTable.toList = tableOf [(0, 8, 11, 15)]) (g : zSt)  : zWo (ρ := Int × zSt) Y p l e (zrx 7) s m args below meth c 3 0 0 (fun q => vx_MQ below (zQw Y q) (vx_X (S := Unit) (fun _ => False) (fun _ _ _ => True) (zA Y)) args s 1 6 (zA Y)) g [(0, .ref (zad Y 0)), (1, .ref (zad Y 500))] [] 0 (fL_load g) := by
  unfold fL_load
  refine zr_aload_n (pc' := 1) cx rfl 1 dL_load_0 rfl rfl ?_
  refine zr_iconst (pc' := 2) cx rfl dL_load_1 ?_
  refine zr_aload_n (pc' := 3) cx rfl 0 dL_load_2 rfl rfl ?_
  refine zr_callX (pc' := 6) cx rfl (an := 0) (As := []) 8 zkc_0 (by decide) rfl (fun q hq => mX7_load l hl0 Y g  q hq) (zG_V zw_846 zw_847 zw_848 zw_101 zw_849) (by decide +kernel) ⟨Nat.le_of_ble_eq_true rfl, Nat.le_of_ble_eq_true rfl⟩ ⟨Nat.le_of_ble_eq_true rfl, Nat.le_of_ble_eq_true rfl⟩ rfl rfl (Nat.le_of_ble_eq_true rfl) dL_load_3 ?_ ?_
  · intro v g2
    refine zr_case0 rfl ?_
    refine zr_i2l (pc' := 7) cx rfl dL_load_6 ?_
    refine zr_last (pc' := 8) cx rfl zkc_500 zk31_one dL_load_7 ?_
    refine zr_letS (fun g3 => ?_)
    refine zr_goto cx (tgt := 14) dL_load_8 rfl ?_
    refine zr_iconst (pc' := 15) cx rfl dL_load_14 ?_
    exact zr_iretW cx dL_load_15
  · intro E v g2 h1 h2
    refine zx_case (fun hE => absurd hE (by omega)) (fun _ => ?_)
    refine zx_case (fun hE => ?_) (fun n0 => ?_)
    · subst hE
      refine zr_catch cx ⟨by decide, by decide⟩ [] ⟨0, 8, 11, 15⟩ [] htab (fun z hz => nomatch hz) rfl (by decide) zw_595 (List.mem_of_getElem? (i := 1) rfl) (fun q9 => ?_)
      refine zr_astore_n (pc' := 12) cx rfl (lv' := [(2, .ref q9), (0, .ref (zad Y 0)), (1, .ref (zad Y 500))]) dL_load_11 rfl (by decide) rfl ?_
      refine zr_iconst (pc' := 13) cx rfl dL_load_12 ?_
      exact zr_iretW cx dL_load_13
    · intro r hr; cases hr
theorem mL_load (l : Launch) (hl0 : l.stackTraces = false) (Y : zLy) (g : zSt)  : ∀ q, fL_load g = some q → zMw l yL_load cL_load 3 [(0, 8, 11, 15)] 7 [.ref (zad Y 0), .ref (zad Y 500)] Y g q := by
  intro q hv
  refine zmetw_of RL rfl (by decide +kernel) (Nat.le_of_ble_eq_true rfl) ?_
  intro p e s m below meth c cx htab H locs ls hH hS hl
  exact wL_load cx hl0 htab g  q hv H locs ls hH hS hl
def fL_undo (g : zSt)  : Option (Int × zSt) := zbx (fX7_undo g) (fun v E g2 => (if E = 0 then zlet (zwl g2 1 (i32 v).toInt64) (fun g3 => some (0, g3)) else (if E = 3 then some (1, g2) else none)))
theorem wL_undo (cx : zCx Y p s m args meth c RL cL_undo 3 (some .int)) (hl0 : l.stackTraces = false) (htab : c.exceptionTable.toList = tableOf [(0, 8, 11, 17)]) (g : zSt)  : zWo (ρ := Int × zSt) Y p l e (zrx 7) s m args below meth c 3 0 0 (fun q => vx_MQ below (zQw Y q) (vx_X (S := Unit) (fun _ => False) (fun _ _ _ => True) (zA Y)) args s 1 6 (zA Y)) g [(0, .ref (zad Y 0)), (1, .ref (zad Y 500))] [] 0 (fL_undo g) := by
  unfold fL_undo
  refine zr_aload_n (pc' := 1) cx rfl 1 dL_undo_0 rfl rfl ?_
  refine zr_iconst (pc' := 2) cx rfl dL_undo_1 ?_
  refine zr_aload_n (pc' := 3) cx rfl 0 dL_undo_2 rfl rfl ?_
  refine zr_callX (pc' := 6) cx rfl (an := 0) (As := []) 8 zkc_0 (by decide) rfl (fun q hq => mX7_undo l hl0 Y g  q hq) (zG_V zw_871 zw_872 zw_873 zw_101 zw_874) (by decide +kernel) ⟨Nat.le_of_ble_eq_true rfl, Nat.le_of_ble_eq_true rfl⟩ ⟨Nat.le_of_ble_eq_true rfl, Nat.le_of_ble_eq_true rfl⟩ rfl rfl (Nat.le_of_ble_eq_true rfl) dL_undo_3 ?_ ?_
  · intro v g2
    refine zr_case0 rfl ?_
    refine zr_i2l (pc' := 7) cx rfl dL_undo_6 ?_
    refine zr_last (pc' := 8) cx rfl zkc_500 zk31_one dL_undo_7 ?_
    refine zr_letS (fun g3 => ?_)
    refine zr_goto cx (tgt := 14) dL_undo_8 rfl ?_
    refine zr_iconst (pc' := 15) cx rfl dL_undo_14 ?_
    exact zr_iretW cx dL_undo_15
  · intro E v g2 h1 h2
    refine zx_case (fun hE => absurd hE (by omega)) (fun _ => ?_)
    refine zx_case (fun hE => ?_) (fun n0 => ?_)
    · subst hE
      refine zr_catch cx ⟨by decide, by decide⟩ [] ⟨0, 8, 11, 17⟩ [] htab (fun z hz => nomatch hz) rfl (by decide) zw_596 (List.mem_of_getElem? (i := 2) rfl) (fun q9 => ?_)
      refine zr_astore_n (pc' := 12) cx rfl (lv' := [(2, .ref q9), (0, .ref (zad Y 0)), (1, .ref (zad Y 500))]) dL_undo_11 rfl (by decide) rfl ?_
      refine zr_iconst (pc' := 13) cx rfl dL_undo_12 ?_
      exact zr_iretW cx dL_undo_13
    · intro r hr; cases hr
theorem mL_undo (l : Launch) (hl0 : l.stackTraces = false) (Y : zLy) (g : zSt)  : ∀ q, fL_undo g = some q → zMw l yL_undo cL_undo 3 [(0, 8, 11, 17)] 7 [.ref (zad Y 0), .ref (zad Y 500)] Y g q := by
  intro q hv
  refine zmetw_of RL rfl (by decide +kernel) (Nat.le_of_ble_eq_true rfl) ?_
  intro p e s m below meth c cx htab H locs ls hH hS hl
  exact wL_undo cx hl0 htab g  q hv H locs ls hH hS hl
def fL_box (g : zSt) (a1 : Int) (a2 : Int) : Option (Int × zSt) := zbx (fX7_box g a1 a2) (fun v E g2 => (if E = 0 then zlet (zwl g2 1 (i32 v).toInt64) (fun g3 => some (0, g3)) else (if E = 1 then some (1, g2) else (if E = 2 then some (2, g2) else none))))
theorem wL_box (cx : zCx Y p s m args meth c RL cL_box 5 (some .int)) (hl0 : l.stackTraces = false) (htab : c.exceptionTable.toList = tableOf [(0, 10, 13, 13), (0, 10, 17, 15)]) (g : zSt) (a1 : Int) (a2 : Int) : zWo (ρ := Int × zSt) Y p l e (zrx 7) s m args below meth c 5 0 0 (fun q => vx_MQ below (zQw Y q) (vx_X (S := Unit) (fun _ => False) (fun _ _ _ => True) (zA Y)) args s 1 6 (zA Y)) g [(0, .ref (zad Y 0)), (1, .int (i32 a1)), (2, .int (i32 a2)), (3, .ref (zad Y 500))] [] 0 (fL_box g a1 a2) := by
  unfold fL_box
  refine zr_aload_n (pc' := 1) cx rfl 3 dL_box_0 rfl rfl ?_
  refine zr_iconst (pc' := 2) cx rfl dL_box_1 ?_
  refine zr_aload_n (pc' := 3) cx rfl 0 dL_box_2 rfl rfl ?_
  refine zr_iload_n (pc' := 4) cx rfl 1 dL_box_3 rfl rfl ?_
  refine zr_iload_n (pc' := 5) cx rfl 2 dL_box_4 rfl rfl ?_
  refine zr_callX (pc' := 8) cx rfl (an := 2) (As := [.int (i32 a1), .int (i32 a2)]) 8 zkc_0 (by decide) rfl (fun q hq => mX7_box l hl0 Y g a1 a2 q hq) (zG_V zw_883 zw_884 zw_885 zw_101 zw_886) (by decide +kernel) ⟨Nat.le_of_ble_eq_true rfl, Nat.le_of_ble_eq_true rfl⟩ ⟨Nat.le_of_ble_eq_true rfl, Nat.le_of_ble_eq_true rfl⟩ rfl rfl (Nat.le_of_ble_eq_true rfl) dL_box_5 ?_ ?_
  · intro v g2
    refine zr_case0 rfl ?_
    refine zr_i2l (pc' := 9) cx rfl dL_box_8 ?_
    refine zr_last (pc' := 10) cx rfl zkc_500 zk31_one dL_box_9 ?_
    refine zr_letS (fun g3 => ?_)
    refine zr_goto cx (tgt := 21) dL_box_10 rfl ?_
    refine zr_iconst (pc' := 22) cx rfl dL_box_21 ?_
    exact zr_iretW cx dL_box_22
  · intro E v g2 h1 h2
    refine zx_case (fun hE => absurd hE (by omega)) (fun _ => ?_)
    refine zx_case (fun hE => ?_) (fun n0 => ?_)
    · subst hE
      refine zr_catch cx ⟨by decide, by decide⟩ [] ⟨0, 10, 13, 13⟩ [⟨0, 10, 17, 15⟩] htab (fun z hz => nomatch hz) rfl (by decide) zw_594 (List.mem_of_getElem? (i := 0) rfl) (fun q9 => ?_)
      refine zr_astore (pc' := 15) cx rfl (lv' := [(4, .ref q9), (0, .ref (zad Y 0)), (1, .int (i32 a1)), (2, .int (i32 a2)), (3, .ref (zad Y 500))]) dL_box_13 (by decide) rfl ?_
      refine zr_iconst (pc' := 16) cx rfl dL_box_15 ?_
      exact zr_iretW cx dL_box_16
    · refine zx_case (fun hE => ?_) (fun n1 => ?_)
      · subst hE
        refine zr_catch cx ⟨by decide, by decide⟩ [⟨0, 10, 13, 13⟩] ⟨0, 10, 17, 15⟩ [] htab (List.forall_mem_cons.mpr ⟨⟨1, by decide, by decide, zw_594⟩, fun z hz => nomatch hz⟩) rfl (by decide) zw_595 (List.mem_of_getElem? (i := 1) rfl) (fun q9 => ?_)
        refine zr_astore (pc' := 19) cx rfl (lv' := [(4, .ref q9), (0, .ref (zad Y 0)), (1, .int (i32 a1)), (2, .int (i32 a2)), (3, .ref (zad Y 500))]) dL_box_17 (by decide) rfl ?_
        refine zr_iconst (pc' := 20) cx rfl dL_box_19 ?_
        exact zr_iretW cx dL_box_20
      · intro r hr; cases hr
theorem mL_box (l : Launch) (hl0 : l.stackTraces = false) (Y : zLy) (g : zSt) (a1 : Int) (a2 : Int) : ∀ q, fL_box g a1 a2 = some q → zMw l yL_box cL_box 5 [(0, 10, 13, 13), (0, 10, 17, 15)] 7 [.ref (zad Y 0), .int (i32 a1), .int (i32 a2), .ref (zad Y 500)] Y g q := by
  intro q hv
  refine zmetw_of RL rfl (by decide +kernel) (Nat.le_of_ble_eq_true rfl) ?_
  intro p e s m below meth c cx htab H locs ls hH hS hl
  exact wL_box cx hl0 htab g a1 a2 q hv H locs ls hH hS hl
def fL_terminal (g : zSt) (a1 : Int) (a2 : Int) (a3 : Int) : Option (Int × zSt) := zbx (fX7_terminal g a1 a2 a3) (fun v E g2 => (if E = 0 then zlet (zwl g2 1 (i32 v).toInt64) (fun g3 => some (0, g3)) else (if E = 1 then some (1, g2) else (if E = 2 then some (2, g2) else none))))
theorem wL_terminal (cx : zCx Y p s m args meth c RL cL_terminal 6 (some .int)) (hl0 : l.stackTraces = false) (htab : c.exceptionTable.toList = tableOf [(0, 12, 15, 13), (0, 12, 19, 15)]) (g : zSt) (a1 : Int) (a2 : Int) (a3 : Int) : zWo (ρ := Int × zSt) Y p l e (zrx 7) s m args below meth c 6 0 0 (fun q => vx_MQ below (zQw Y q) (vx_X (S := Unit) (fun _ => False) (fun _ _ _ => True) (zA Y)) args s 1 6 (zA Y)) g [(0, .ref (zad Y 0)), (1, .int (i32 a1)), (2, .int (i32 a2)), (3, .int (i32 a3)), (4, .ref (zad Y 500))] [] 0 (fL_terminal g a1 a2 a3) := by
  unfold fL_terminal
  refine zr_aload (pc' := 2) cx rfl 4 dL_terminal_0 rfl ?_
  refine zr_iconst (pc' := 3) cx rfl dL_terminal_2 ?_
  refine zr_aload_n (pc' := 4) cx rfl 0 dL_terminal_3 rfl rfl ?_
  refine zr_iload_n (pc' := 5) cx rfl 1 dL_terminal_4 rfl rfl ?_
  refine zr_iload_n (pc' := 6) cx rfl 2 dL_terminal_5 rfl rfl ?_
  refine zr_iload_n (pc' := 7) cx rfl 3 dL_terminal_6 rfl rfl ?_
  refine zr_callX (pc' := 10) cx rfl (an := 3) (As := [.int (i32 a1), .int (i32 a2), .int (i32 a3)]) 8 zkc_0 (by decide) rfl (fun q hq => mX7_terminal l hl0 Y g a1 a2 a3 q hq) (zG_V zw_891 zw_892 zw_893 zw_101 zw_894) (by decide +kernel) ⟨Nat.le_of_ble_eq_true rfl, Nat.le_of_ble_eq_true rfl⟩ ⟨Nat.le_of_ble_eq_true rfl, Nat.le_of_ble_eq_true rfl⟩ rfl rfl (Nat.le_of_ble_eq_true rfl) dL_terminal_7 ?_ ?_
  · intro v g2
    refine zr_case0 rfl ?_
    refine zr_i2l (pc' := 11) cx rfl dL_terminal_10 ?_
    refine zr_last (pc' := 12) cx rfl zkc_500 zk31_one dL_terminal_11 ?_
    refine zr_letS (fun g3 => ?_)
    refine zr_goto cx (tgt := 23) dL_terminal_12 rfl ?_
    refine zr_iconst (pc' := 24) cx rfl dL_terminal_23 ?_
    exact zr_iretW cx dL_terminal_24
  · intro E v g2 h1 h2
    refine zx_case (fun hE => absurd hE (by omega)) (fun _ => ?_)
    refine zx_case (fun hE => ?_) (fun n0 => ?_)
    · subst hE
      refine zr_catch cx ⟨by decide, by decide⟩ [] ⟨0, 12, 15, 13⟩ [⟨0, 12, 19, 15⟩] htab (fun z hz => nomatch hz) rfl (by decide) zw_594 (List.mem_of_getElem? (i := 0) rfl) (fun q9 => ?_)
      refine zr_astore (pc' := 17) cx rfl (lv' := [(5, .ref q9), (0, .ref (zad Y 0)), (1, .int (i32 a1)), (2, .int (i32 a2)), (3, .int (i32 a3)), (4, .ref (zad Y 500))]) dL_terminal_15 (by decide) rfl ?_
      refine zr_iconst (pc' := 18) cx rfl dL_terminal_17 ?_
      exact zr_iretW cx dL_terminal_18
    · refine zx_case (fun hE => ?_) (fun n1 => ?_)
      · subst hE
        refine zr_catch cx ⟨by decide, by decide⟩ [⟨0, 12, 15, 13⟩] ⟨0, 12, 19, 15⟩ [] htab (List.forall_mem_cons.mpr ⟨⟨1, by decide, by decide, zw_594⟩, fun z hz => nomatch hz⟩) rfl (by decide) zw_595 (List.mem_of_getElem? (i := 1) rfl) (fun q9 => ?_)
        refine zr_astore (pc' := 21) cx rfl (lv' := [(5, .ref q9), (0, .ref (zad Y 0)), (1, .int (i32 a1)), (2, .int (i32 a2)), (3, .int (i32 a3)), (4, .ref (zad Y 500))]) dL_terminal_19 (by decide) rfl ?_
        refine zr_iconst (pc' := 22) cx rfl dL_terminal_21 ?_
        exact zr_iretW cx dL_terminal_22
      · intro r hr; cases hr
theorem mL_terminal (l : Launch) (hl0 : l.stackTraces = false) (Y : zLy) (g : zSt) (a1 : Int) (a2 : Int) (a3 : Int) : ∀ q, fL_terminal g a1 a2 a3 = some q → zMw l yL_terminal cL_terminal 6 [(0, 12, 15, 13), (0, 12, 19, 15)] 7 [.ref (zad Y 0), .int (i32 a1), .int (i32 a2), .int (i32 a3), .ref (zad Y 500)] Y g q := by
  intro q hv
  refine zmetw_of RL rfl (by decide +kernel) (Nat.le_of_ble_eq_true rfl) ?_
  intro p e s m below meth c cx htab H locs ls hH hS hl
  exact wL_terminal cx hl0 htab g a1 a2 a3 q hv H locs ls hH hS hl
def fL_lantern (g : zSt) (a1 : Int) (a2 : Int) : Option (Int × zSt) := zbx (fX7_lantern g a1 a2) (fun v E g2 => (if E = 0 then zlet (zwl g2 1 (i32 v).toInt64) (fun g3 => some (0, g3)) else (if E = 1 then some (1, g2) else (if E = 2 then some (2, g2) else none))))
theorem wL_lantern (cx : zCx Y p s m args meth c RL cL_lantern 5 (some .int)) (hl0 : l.stackTraces = false) (htab : c.exceptionTable.toList = tableOf [(0, 10, 13, 13), (0, 10, 17, 15)]) (g : zSt) (a1 : Int) (a2 : Int) : zWo (ρ := Int × zSt) Y p l e (zrx 7) s m args below meth c 5 0 0 (fun q => vx_MQ below (zQw Y q) (vx_X (S := Unit) (fun _ => False) (fun _ _ _ => True) (zA Y)) args s 1 6 (zA Y)) g [(0, .ref (zad Y 0)), (1, .int (i32 a1)), (2, .int (i32 a2)), (3, .ref (zad Y 500))] [] 0 (fL_lantern g a1 a2) := by
  unfold fL_lantern
  refine zr_aload_n (pc' := 1) cx rfl 3 dL_lantern_0 rfl rfl ?_
  refine zr_iconst (pc' := 2) cx rfl dL_lantern_1 ?_
  refine zr_aload_n (pc' := 3) cx rfl 0 dL_lantern_2 rfl rfl ?_
  refine zr_iload_n (pc' := 4) cx rfl 1 dL_lantern_3 rfl rfl ?_
  refine zr_iload_n (pc' := 5) cx rfl 2 dL_lantern_4 rfl rfl ?_
  refine zr_callX (pc' := 8) cx rfl (an := 2) (As := [.int (i32 a1), .int (i32 a2)]) 8 zkc_0 (by decide) rfl (fun q hq => mX7_lantern l hl0 Y g a1 a2 q hq) (zG_V zw_899 zw_900 zw_901 zw_101 zw_902) (by decide +kernel) ⟨Nat.le_of_ble_eq_true rfl, Nat.le_of_ble_eq_true rfl⟩ ⟨Nat.le_of_ble_eq_true rfl, Nat.le_of_ble_eq_true rfl⟩ rfl rfl (Nat.le_of_ble_eq_true rfl) dL_lantern_5 ?_ ?_
  · intro v g2
    refine zr_case0 rfl ?_
    refine zr_i2l (pc' := 9) cx rfl dL_lantern_8 ?_
    refine zr_last (pc' := 10) cx rfl zkc_500 zk31_one dL_lantern_9 ?_
    refine zr_letS (fun g3 => ?_)
    refine zr_goto cx (tgt := 21) dL_lantern_10 rfl ?_
    refine zr_iconst (pc' := 22) cx rfl dL_lantern_21 ?_
    exact zr_iretW cx dL_lantern_22
  · intro E v g2 h1 h2
    refine zx_case (fun hE => absurd hE (by omega)) (fun _ => ?_)
    refine zx_case (fun hE => ?_) (fun n0 => ?_)
    · subst hE
      refine zr_catch cx ⟨by decide, by decide⟩ [] ⟨0, 10, 13, 13⟩ [⟨0, 10, 17, 15⟩] htab (fun z hz => nomatch hz) rfl (by decide) zw_594 (List.mem_of_getElem? (i := 0) rfl) (fun q9 => ?_)
      refine zr_astore (pc' := 15) cx rfl (lv' := [(4, .ref q9), (0, .ref (zad Y 0)), (1, .int (i32 a1)), (2, .int (i32 a2)), (3, .ref (zad Y 500))]) dL_lantern_13 (by decide) rfl ?_
      refine zr_iconst (pc' := 16) cx rfl dL_lantern_15 ?_
      exact zr_iretW cx dL_lantern_16
    · refine zx_case (fun hE => ?_) (fun n1 => ?_)
      · subst hE
        refine zr_catch cx ⟨by decide, by decide⟩ [⟨0, 10, 13, 13⟩] ⟨0, 10, 17, 15⟩ [] htab (List.forall_mem_cons.mpr ⟨⟨1, by decide, by decide, zw_594⟩, fun z hz => nomatch hz⟩) rfl (by decide) zw_595 (List.mem_of_getElem? (i := 1) rfl) (fun q9 => ?_)
        refine zr_astore (pc' := 19) cx rfl (lv' := [(4, .ref q9), (0, .ref (zad Y 0)), (1, .int (i32 a1)), (2, .int (i32 a2)), (3, .ref (zad Y 500))]) dL_lantern_17 (by decide) rfl ?_
        refine zr_iconst (pc' := 20) cx rfl dL_lantern_19 ?_
        exact zr_iretW cx dL_lantern_20
      · intro r hr; cases hr
theorem mL_lantern (l : Launch) (hl0 : l.stackTraces = false) (Y : zLy) (g : zSt) (a1 : Int) (a2 : Int) : ∀ q, fL_lantern g a1 a2 = some q → zMw l yL_lantern cL_lantern 5 [(0, 10, 13, 13), (0, 10, 17, 15)] 7 [.ref (zad Y 0), .int (i32 a1), .int (i32 a2), .ref (zad Y 500)] Y g q := by
  intro q hv
  refine zmetw_of RL rfl (by decide +kernel) (Nat.le_of_ble_eq_true rfl) ?_
  intro p e s m below meth c cx htab H locs ls hH hS hl
  exact wL_lantern cx hl0 htab g a1 a2 q hv H locs ls hH hS hl
def fL_faultAt (g : zSt) (a1 : Int) (a2 : Int) : Option (Int × zSt) := zbx (fX7_faultAt g a1 a2) (fun v E g2 => (if E = 0 then zlet (zwl g2 1 (i32 v).toInt64) (fun g3 => some (0, g3)) else (if E = 1 then some (1, g2) else (if E = 2 then some (2, g2) else none))))
theorem wL_faultAt (cx : zCx Y p s m args meth c RL cL_faultAt 5 (some .int)) (hl0 : l.stackTraces = false) (htab : c.exceptionTable.toList = tableOf [(0, 10, 13, 13), (0, 10, 17, 15)]) (g : zSt) (a1 : Int) (a2 : Int) : zWo (ρ := Int × zSt) Y p l e (zrx 7) s m args below meth c 5 0 0 (fun q => vx_MQ below (zQw Y q) (vx_X (S := Unit) (fun _ => False) (fun _ _ _ => True) (zA Y)) args s 1 6 (zA Y)) g [(0, .ref (zad Y 0)), (1, .int (i32 a1)), (2, .int (i32 a2)), (3, .ref (zad Y 500))] [] 0 (fL_faultAt g a1 a2) := by
  unfold fL_faultAt
  refine zr_aload_n (pc' := 1) cx rfl 3 dL_faultAt_0 rfl rfl ?_
  refine zr_iconst (pc' := 2) cx rfl dL_faultAt_1 ?_
  refine zr_aload_n (pc' := 3) cx rfl 0 dL_faultAt_2 rfl rfl ?_
  refine zr_iload_n (pc' := 4) cx rfl 1 dL_faultAt_3 rfl rfl ?_
  refine zr_iload_n (pc' := 5) cx rfl 2 dL_faultAt_4 rfl rfl ?_
  refine zr_callX (pc' := 8) cx rfl (an := 2) (As := [.int (i32 a1), .int (i32 a2)]) 8 zkc_0 (by decide) rfl (fun q hq => mX7_faultAt l hl0 Y g a1 a2 q hq) (zG_V zw_907 zw_908 zw_909 zw_101 zw_910) (by decide +kernel) ⟨Nat.le_of_ble_eq_true rfl, Nat.le_of_ble_eq_true rfl⟩ ⟨Nat.le_of_ble_eq_true rfl, Nat.le_of_ble_eq_true rfl⟩ rfl rfl (Nat.le_of_ble_eq_true rfl) dL_faultAt_5 ?_ ?_
  · intro v g2
    refine zr_case0 rfl ?_
    refine zr_i2l (pc' := 9) cx rfl dL_faultAt_8 ?_
    refine zr_last (pc' := 10) cx rfl zkc_500 zk31_one dL_faultAt_9 ?_
    refine zr_letS (fun g3 => ?_)
    refine zr_goto cx (tgt := 21) dL_faultAt_10 rfl ?_
    refine zr_iconst (pc' := 22) cx rfl dL_faultAt_21 ?_
    exact zr_iretW cx dL_faultAt_22
  · intro E v g2 h1 h2
    refine zx_case (fun hE => absurd hE (by omega)) (fun _ => ?_)
    refine zx_case (fun hE => ?_) (fun n0 => ?_)
    · subst hE
      refine zr_catch cx ⟨by decide, by decide⟩ [] ⟨0, 10, 13, 13⟩ [⟨0, 10, 17, 15⟩] htab (fun z hz => nomatch hz) rfl (by decide) zw_594 (List.mem_of_getElem? (i := 0) rfl) (fun q9 => ?_)
      refine zr_astore (pc' := 15) cx rfl (lv' := [(4, .ref q9), (0, .ref (zad Y 0)), (1, .int (i32 a1)), (2, .int (i32 a2)), (3, .ref (zad Y 500))]) dL_faultAt_13 (by decide) rfl ?_
      refine zr_iconst (pc' := 16) cx rfl dL_faultAt_15 ?_
      exact zr_iretW cx dL_faultAt_16
    · refine zx_case (fun hE => ?_) (fun n1 => ?_)
      · subst hE
        refine zr_catch cx ⟨by decide, by decide⟩ [⟨0, 10, 13, 13⟩] ⟨0, 10, 17, 15⟩ [] htab (List.forall_mem_cons.mpr ⟨⟨1, by decide, by decide, zw_594⟩, fun z hz => nomatch hz⟩) rfl (by decide) zw_595 (List.mem_of_getElem? (i := 1) rfl) (fun q9 => ?_)
        refine zr_astore (pc' := 19) cx rfl (lv' := [(4, .ref q9), (0, .ref (zad Y 0)), (1, .int (i32 a1)), (2, .int (i32 a2)), (3, .ref (zad Y 500))]) dL_faultAt_17 (by decide) rfl ?_
        refine zr_iconst (pc' := 20) cx rfl dL_faultAt_19 ?_
        exact zr_iretW cx dL_faultAt_20
      · intro r hr; cases hr
theorem mL_faultAt (l : Launch) (hl0 : l.stackTraces = false) (Y : zLy) (g : zSt) (a1 : Int) (a2 : Int) : ∀ q, fL_faultAt g a1 a2 = some q → zMw l yL_faultAt cL_faultAt 5 [(0, 10, 13, 13), (0, 10, 17, 15)] 7 [.ref (zad Y 0), .int (i32 a1), .int (i32 a2), .ref (zad Y 500)] Y g q := by
  intro q hv
  refine zmetw_of RL rfl (by decide +kernel) (Nat.le_of_ble_eq_true rfl) ?_
  intro p e s m below meth c cx htab H locs ls hH hS hl
  exact wL_faultAt cx hl0 htab g a1 a2 q hv H locs ls hH hS hl
def fL_count (g : zSt) (a1 : Int) : Option (Int × zSt) := zbx (fX7_count g a1) (fun v E g2 => (if E = 0 then zlet (zwl g2 1 (i32 v).toInt64) (fun g3 => some (0, g3)) else (if E = 2 then some (1, g2) else none)))
theorem wL_count (cx : zCx Y p s m args meth c RL cL_count 4 (some .int)) (hl0 : l.stackTraces = false) (htab : c.exceptionTable.toList = tableOf [(0, 9, 12, 15)]) (g : zSt) (a1 : Int) : zWo (ρ := Int × zSt) Y p l e (zrx 7) s m args below meth c 4 0 0 (fun q => vx_MQ below (zQw Y q) (vx_X (S := Unit) (fun _ => False) (fun _ _ _ => True) (zA Y)) args s 1 6 (zA Y)) g [(0, .ref (zad Y 0)), (1, .int (i32 a1)), (2, .ref (zad Y 500))] [] 0 (fL_count g a1) := by
  unfold fL_count
  refine zr_aload_n (pc' := 1) cx rfl 2 dL_count_0 rfl rfl ?_
  refine zr_iconst (pc' := 2) cx rfl dL_count_1 ?_
  refine zr_aload_n (pc' := 3) cx rfl 0 dL_count_2 rfl rfl ?_
  refine zr_iload_n (pc' := 4) cx rfl 1 dL_count_3 rfl rfl ?_
  refine zr_callX (pc' := 7) cx rfl (an := 1) (As := [.int (i32 a1)]) 8 zkc_0 (by decide) rfl (fun q hq => mX7_count l hl0 Y g a1 q hq) (zG_V zw_915 zw_916 zw_917 zw_101 zw_918) (by decide +kernel) ⟨Nat.le_of_ble_eq_true rfl, Nat.le_of_ble_eq_true rfl⟩ ⟨Nat.le_of_ble_eq_true rfl, Nat.le_of_ble_eq_true rfl⟩ rfl rfl (Nat.le_of_ble_eq_true rfl) dL_count_4 ?_ ?_
  · intro v g2
    refine zr_case0 rfl ?_
    refine zr_i2l (pc' := 8) cx rfl dL_count_7 ?_
    refine zr_last (pc' := 9) cx rfl zkc_500 zk31_one dL_count_8 ?_
    refine zr_letS (fun g3 => ?_)
    refine zr_goto cx (tgt := 15) dL_count_9 rfl ?_
    refine zr_iconst (pc' := 16) cx rfl dL_count_15 ?_
    exact zr_iretW cx dL_count_16
  · intro E v g2 h1 h2
    refine zx_case (fun hE => absurd hE (by omega)) (fun _ => ?_)
    refine zx_case (fun hE => ?_) (fun n0 => ?_)
    · subst hE
      refine zr_catch cx ⟨by decide, by decide⟩ [] ⟨0, 9, 12, 15⟩ [] htab (fun z hz => nomatch hz) rfl (by decide) zw_595 (List.mem_of_getElem? (i := 1) rfl) (fun q9 => ?_)
      refine zr_astore_n (pc' := 13) cx rfl (lv' := [(3, .ref q9), (0, .ref (zad Y 0)), (1, .int (i32 a1)), (2, .ref (zad Y 500))]) dL_count_12 rfl (by decide) rfl ?_
      refine zr_iconst (pc' := 14) cx rfl dL_count_13 ?_
      exact zr_iretW cx dL_count_14
    · intro r hr; cases hr
theorem mL_count (l : Launch) (hl0 : l.stackTraces = false) (Y : zLy) (g : zSt) (a1 : Int) : ∀ q, fL_count g a1 = some q → zMw l yL_count cL_count 4 [(0, 9, 12, 15)] 7 [.ref (zad Y 0), .int (i32 a1), .ref (zad Y 500)] Y g q := by
  intro q hv
  refine zmetw_of RL rfl (by decide +kernel) (Nat.le_of_ble_eq_true rfl) ?_
  intro p e s m below meth c cx htab H locs ls hH hS hl
  exact wL_count cx hl0 htab g a1 q hv H locs ls hH hS hl
def fL_lamp (g : zSt) (a1 : Int) : Option (Int × zSt) := zbx (fX7_lamp g a1) (fun v E g2 => (if E = 0 then zlet (zwl g2 1 (i32 v).toInt64) (fun g3 => some (0, g3)) else (if E = 1 then some (1, g2) else none)))
theorem wL_lamp (cx : zCx Y p s m args meth c RL cL_lamp 4 (some .int)) (hl0 : l.stackTraces = false) (htab : c.exceptionTable.toList = tableOf [(0, 9, 12, 13)]) (g : zSt) (a1 : Int) : zWo (ρ := Int × zSt) Y p l e (zrx 7) s m args below meth c 4 0 0 (fun q => vx_MQ below (zQw Y q) (vx_X (S := Unit) (fun _ => False) (fun _ _ _ => True) (zA Y)) args s 1 6 (zA Y)) g [(0, .ref (zad Y 0)), (1, .int (i32 a1)), (2, .ref (zad Y 500))] [] 0 (fL_lamp g a1) := by
  unfold fL_lamp
  refine zr_aload_n (pc' := 1) cx rfl 2 dL_lamp_0 rfl rfl ?_
  refine zr_iconst (pc' := 2) cx rfl dL_lamp_1 ?_
  refine zr_aload_n (pc' := 3) cx rfl 0 dL_lamp_2 rfl rfl ?_
  refine zr_iload_n (pc' := 4) cx rfl 1 dL_lamp_3 rfl rfl ?_
  refine zr_callX (pc' := 7) cx rfl (an := 1) (As := [.int (i32 a1)]) 8 zkc_0 (by decide) rfl (fun q hq => mX7_lamp l hl0 Y g a1 q hq) (zG_V zw_923 zw_924 zw_925 zw_101 zw_926) (by decide +kernel) ⟨Nat.le_of_ble_eq_true rfl, Nat.le_of_ble_eq_true rfl⟩ ⟨Nat.le_of_ble_eq_true rfl, Nat.le_of_ble_eq_true rfl⟩ rfl rfl (Nat.le_of_ble_eq_true rfl) dL_lamp_4 ?_ ?_
  · intro v g2
    refine zr_case0 rfl ?_
    refine zr_i2l (pc' := 8) cx rfl dL_lamp_7 ?_
    refine zr_last (pc' := 9) cx rfl zkc_500 zk31_one dL_lamp_8 ?_
    refine zr_letS (fun g3 => ?_)
    refine zr_goto cx (tgt := 15) dL_lamp_9 rfl ?_
    refine zr_iconst (pc' := 16) cx rfl dL_lamp_15 ?_
    exact zr_iretW cx dL_lamp_16
  · intro E v g2 h1 h2
    refine zx_case (fun hE => absurd hE (by omega)) (fun _ => ?_)
    refine zx_case (fun hE => ?_) (fun n0 => ?_)
    · subst hE
      refine zr_catch cx ⟨by decide, by decide⟩ [] ⟨0, 9, 12, 13⟩ [] htab (fun z hz => nomatch hz) rfl (by decide) zw_594 (List.mem_of_getElem? (i := 0) rfl) (fun q9 => ?_)
      refine zr_astore_n (pc' := 13) cx rfl (lv' := [(3, .ref q9), (0, .ref (zad Y 0)), (1, .int (i32 a1)), (2, .ref (zad Y 500))]) dL_lamp_12 rfl (by decide) rfl ?_
      refine zr_iconst (pc' := 14) cx rfl dL_lamp_13 ?_
      exact zr_iretW cx dL_lamp_14
    · intro r hr; cases hr
theorem mL_lamp (l : Launch) (hl0 : l.stackTraces = false) (Y : zLy) (g : zSt) (a1 : Int) : ∀ q, fL_lamp g a1 = some q → zMw l yL_lamp cL_lamp 4 [(0, 9, 12, 13)] 7 [.ref (zad Y 0), .int (i32 a1), .ref (zad Y 500)] Y g q := by
  intro q hv
  refine zmetw_of RL rfl (by decide +kernel) (Nat.le_of_ble_eq_true rfl) ?_
  intro p e s m below meth c cx htab H locs ls hH hS hl
  exact wL_lamp cx hl0 htab g a1 q hv H locs ls hH hS hl
def fL_locate (g : zSt) (a1 : Int) : Option (Int × zSt) := zbx (fX7_locate g a1) (fun v E g2 => (if E = 0 then zlet (zwl g2 1 (i32 v).toInt64) (fun g3 => some (0, g3)) else (if E = 1 then some (1, g2) else none)))
theorem wL_locate (cx : zCx Y p s m args meth c RL cL_locate 4 (some .int)) (hl0 : l.stackTraces = false) (htab : c.exceptionTable.toList = tableOf [(0, 9, 12, 13)]) (g : zSt) (a1 : Int) : zWo (ρ := Int × zSt) Y p l e (zrx 7) s m args below meth c 4 0 0 (fun q => vx_MQ below (zQw Y q) (vx_X (S := Unit) (fun _ => False) (fun _ _ _ => True) (zA Y)) args s 1 6 (zA Y)) g [(0, .ref (zad Y 0)), (1, .int (i32 a1)), (2, .ref (zad Y 500))] [] 0 (fL_locate g a1) := by
  unfold fL_locate
  refine zr_aload_n (pc' := 1) cx rfl 2 dL_locate_0 rfl rfl ?_
  refine zr_iconst (pc' := 2) cx rfl dL_locate_1 ?_
  refine zr_aload_n (pc' := 3) cx rfl 0 dL_locate_2 rfl rfl ?_
  refine zr_iload_n (pc' := 4) cx rfl 1 dL_locate_3 rfl rfl ?_
  refine zr_callX (pc' := 7) cx rfl (an := 1) (As := [.int (i32 a1)]) 8 zkc_0 (by decide) rfl (fun q hq => mX7_locate l hl0 Y g a1 q hq) (zG_V zw_934 zw_935 zw_936 zw_101 zw_937) (by decide +kernel) ⟨Nat.le_of_ble_eq_true rfl, Nat.le_of_ble_eq_true rfl⟩ ⟨Nat.le_of_ble_eq_true rfl, Nat.le_of_ble_eq_true rfl⟩ rfl rfl (Nat.le_of_ble_eq_true rfl) dL_locate_4 ?_ ?_
  · intro v g2
    refine zr_case0 rfl ?_
    refine zr_i2l (pc' := 8) cx rfl dL_locate_7 ?_
    refine zr_last (pc' := 9) cx rfl zkc_500 zk31_one dL_locate_8 ?_
    refine zr_letS (fun g3 => ?_)
    refine zr_goto cx (tgt := 15) dL_locate_9 rfl ?_
    refine zr_iconst (pc' := 16) cx rfl dL_locate_15 ?_
    exact zr_iretW cx dL_locate_16
  · intro E v g2 h1 h2
    refine zx_case (fun hE => absurd hE (by omega)) (fun _ => ?_)
    refine zx_case (fun hE => ?_) (fun n0 => ?_)
    · subst hE
      refine zr_catch cx ⟨by decide, by decide⟩ [] ⟨0, 9, 12, 13⟩ [] htab (fun z hz => nomatch hz) rfl (by decide) zw_594 (List.mem_of_getElem? (i := 0) rfl) (fun q9 => ?_)
      refine zr_astore_n (pc' := 13) cx rfl (lv' := [(3, .ref q9), (0, .ref (zad Y 0)), (1, .int (i32 a1)), (2, .ref (zad Y 500))]) dL_locate_12 rfl (by decide) rfl ?_
      refine zr_iconst (pc' := 14) cx rfl dL_locate_13 ?_
      exact zr_iretW cx dL_locate_14
    · intro r hr; cases hr
theorem mL_locate (l : Launch) (hl0 : l.stackTraces = false) (Y : zLy) (g : zSt) (a1 : Int) : ∀ q, fL_locate g a1 = some q → zMw l yL_locate cL_locate 4 [(0, 9, 12, 13)] 7 [.ref (zad Y 0), .int (i32 a1), .ref (zad Y 500)] Y g q := by
  intro q hv
  refine zmetw_of RL rfl (by decide +kernel) (Nat.le_of_ble_eq_true rfl) ?_
  intro p e s m below meth c cx htab H locs ls hH hS hl
  exact wL_locate cx hl0 htab g a1 q hv H locs ls hH hS hl
def fL_ifFault (g : zSt) (a1 : Int) (a2 : Int) (a3 : Int) (a4 : Int) : Option (Int × zSt) := zbx (fX7_ifFault g a1 a2 a3 a4) (fun v E g2 => (if E = 0 then zlet (zwl g2 1 (i32 v).toInt64) (fun g3 => some (0, g3)) else (if E = 1 then some (1, g2) else (if E = 2 then some (2, g2) else none))))
theorem wL_ifFault (cx : zCx Y p s m args meth c RL cL_ifFault 7 (some .int)) (hl0 : l.stackTraces = false) (htab : c.exceptionTable.toList = tableOf [(0, 14, 17, 13), (0, 14, 21, 15)]) (g : zSt) (a1 : Int) (a2 : Int) (a3 : Int) (a4 : Int) : zWo (ρ := Int × zSt) Y p l e (zrx 7) s m args below meth c 7 0 0 (fun q => vx_MQ below (zQw Y q) (vx_X (S := Unit) (fun _ => False) (fun _ _ _ => True) (zA Y)) args s 1 6 (zA Y)) g [(0, .ref (zad Y 0)), (1, .int (i32 a1)), (2, .int (i32 a2)), (3, .int (i32 a3)), (4, .int (i32 a4)), (5, .ref (zad Y 500))] [] 0 (fL_ifFault g a1 a2 a3 a4) := by
  unfold fL_ifFault
  refine zr_aload (pc' := 2) cx rfl 5 dL_ifFault_0 rfl ?_
  refine zr_iconst (pc' := 3) cx rfl dL_ifFault_2 ?_
  refine zr_aload_n (pc' := 4) cx rfl 0 dL_ifFault_3 rfl rfl ?_
  refine zr_iload_n (pc' := 5) cx rfl 1 dL_ifFault_4 rfl rfl ?_
  refine zr_iload_n (pc' := 6) cx rfl 2 dL_ifFault_5 rfl rfl ?_
  refine zr_iload_n (pc' := 7) cx rfl 3 dL_ifFault_6 rfl rfl ?_
  refine zr_iload (pc' := 9) cx rfl 4 dL_ifFault_7 rfl ?_
  refine zr_callX (pc' := 12) cx rfl (an := 4) (As := [.int (i32 a1), .int (i32 a2), .int (i32 a3), .int (i32 a4)]) 8 zkc_0 (by decide) rfl (fun q hq => mX7_ifFault l hl0 Y g a1 a2 a3 a4 q hq) (zG_V zw_941 zw_942 zw_943 zw_101 zw_944) (by decide +kernel) ⟨Nat.le_of_ble_eq_true rfl, Nat.le_of_ble_eq_true rfl⟩ ⟨Nat.le_of_ble_eq_true rfl, Nat.le_of_ble_eq_true rfl⟩ rfl rfl (Nat.le_of_ble_eq_true rfl) dL_ifFault_9 ?_ ?_
  · intro v g2
    refine zr_case0 rfl ?_
    refine zr_i2l (pc' := 13) cx rfl dL_ifFault_12 ?_
    refine zr_last (pc' := 14) cx rfl zkc_500 zk31_one dL_ifFault_13 ?_
    refine zr_letS (fun g3 => ?_)
    refine zr_goto cx (tgt := 25) dL_ifFault_14 rfl ?_
    refine zr_iconst (pc' := 26) cx rfl dL_ifFault_25 ?_
    exact zr_iretW cx dL_ifFault_26
  · intro E v g2 h1 h2
    refine zx_case (fun hE => absurd hE (by omega)) (fun _ => ?_)
    refine zx_case (fun hE => ?_) (fun n0 => ?_)
    · subst hE
      refine zr_catch cx ⟨by decide, by decide⟩ [] ⟨0, 14, 17, 13⟩ [⟨0, 14, 21, 15⟩] htab (fun z hz => nomatch hz) rfl (by decide) zw_594 (List.mem_of_getElem? (i := 0) rfl) (fun q9 => ?_)
      refine zr_astore (pc' := 19) cx rfl (lv' := [(6, .ref q9), (0, .ref (zad Y 0)), (1, .int (i32 a1)), (2, .int (i32 a2)), (3, .int (i32 a3)), (4, .int (i32 a4)), (5, .ref (zad Y 500))]) dL_ifFault_17 (by decide) rfl ?_
      refine zr_iconst (pc' := 20) cx rfl dL_ifFault_19 ?_
      exact zr_iretW cx dL_ifFault_20
    · refine zx_case (fun hE => ?_) (fun n1 => ?_)
      · subst hE
        refine zr_catch cx ⟨by decide, by decide⟩ [⟨0, 14, 17, 13⟩] ⟨0, 14, 21, 15⟩ [] htab (List.forall_mem_cons.mpr ⟨⟨1, by decide, by decide, zw_594⟩, fun z hz => nomatch hz⟩) rfl (by decide) zw_595 (List.mem_of_getElem? (i := 1) rfl) (fun q9 => ?_)
        refine zr_astore (pc' := 23) cx rfl (lv' := [(6, .ref q9), (0, .ref (zad Y 0)), (1, .int (i32 a1)), (2, .int (i32 a2)), (3, .int (i32 a3)), (4, .int (i32 a4)), (5, .ref (zad Y 500))]) dL_ifFault_21 (by decide) rfl ?_
        refine zr_iconst (pc' := 24) cx rfl dL_ifFault_23 ?_
        exact zr_iretW cx dL_ifFault_24
      · intro r hr; cases hr
theorem mL_ifFault (l : Launch) (hl0 : l.stackTraces = false) (Y : zLy) (g : zSt) (a1 : Int) (a2 : Int) (a3 : Int) (a4 : Int) : ∀ q, fL_ifFault g a1 a2 a3 a4 = some q → zMw l yL_ifFault cL_ifFault 7 [(0, 14, 17, 13), (0, 14, 21, 15)] 7 [.ref (zad Y 0), .int (i32 a1), .int (i32 a2), .int (i32 a3), .int (i32 a4), .ref (zad Y 500)] Y g q := by
  intro q hv
  refine zmetw_of RL rfl (by decide +kernel) (Nat.le_of_ble_eq_true rfl) ?_
  intro p e s m below meth c cx htab H locs ls hH hS hl
  exact wL_ifFault cx hl0 htab g a1 a2 a3 a4 q hv H locs ls hH hS hl
def fL_ifToggled (g : zSt) (a1 : Int) : Option (Int × zSt) := zbx (fX7_ifToggled g a1) (fun v E g2 => (if E = 0 then zlet (zwl g2 1 (i32 v).toInt64) (fun g3 => some (0, g3)) else (if E = 1 then some (1, g2) else none)))
theorem wL_ifToggled (cx : zCx Y p s m args meth c RL cL_ifToggled 4 (some .int)) (hl0 : l.stackTraces = false) (htab : c.exceptionTable.toList = tableOf [(0, 9, 12, 13)]) (g : zSt) (a1 : Int) : zWo (ρ := Int × zSt) Y p l e (zrx 7) s m args below meth c 4 0 0 (fun q => vx_MQ below (zQw Y q) (vx_X (S := Unit) (fun _ => False) (fun _ _ _ => True) (zA Y)) args s 1 6 (zA Y)) g [(0, .ref (zad Y 0)), (1, .int (i32 a1)), (2, .ref (zad Y 500))] [] 0 (fL_ifToggled g a1) := by
  unfold fL_ifToggled
  refine zr_aload_n (pc' := 1) cx rfl 2 dL_ifToggled_0 rfl rfl ?_
  refine zr_iconst (pc' := 2) cx rfl dL_ifToggled_1 ?_
  refine zr_aload_n (pc' := 3) cx rfl 0 dL_ifToggled_2 rfl rfl ?_
  refine zr_iload_n (pc' := 4) cx rfl 1 dL_ifToggled_3 rfl rfl ?_
  refine zr_callX (pc' := 7) cx rfl (an := 1) (As := [.int (i32 a1)]) 8 zkc_0 (by decide) rfl (fun q hq => mX7_ifToggled l hl0 Y g a1 q hq) (zG_V zw_949 zw_950 zw_951 zw_101 zw_952) (by decide +kernel) ⟨Nat.le_of_ble_eq_true rfl, Nat.le_of_ble_eq_true rfl⟩ ⟨Nat.le_of_ble_eq_true rfl, Nat.le_of_ble_eq_true rfl⟩ rfl rfl (Nat.le_of_ble_eq_true rfl) dL_ifToggled_4 ?_ ?_
  · intro v g2
    refine zr_case0 rfl ?_
    refine zr_i2l (pc' := 8) cx rfl dL_ifToggled_7 ?_
    refine zr_last (pc' := 9) cx rfl zkc_500 zk31_one dL_ifToggled_8 ?_
    refine zr_letS (fun g3 => ?_)
    refine zr_goto cx (tgt := 15) dL_ifToggled_9 rfl ?_
    refine zr_iconst (pc' := 16) cx rfl dL_ifToggled_15 ?_
    exact zr_iretW cx dL_ifToggled_16
  · intro E v g2 h1 h2
    refine zx_case (fun hE => absurd hE (by omega)) (fun _ => ?_)
    refine zx_case (fun hE => ?_) (fun n0 => ?_)
    · subst hE
      refine zr_catch cx ⟨by decide, by decide⟩ [] ⟨0, 9, 12, 13⟩ [] htab (fun z hz => nomatch hz) rfl (by decide) zw_594 (List.mem_of_getElem? (i := 0) rfl) (fun q9 => ?_)
      refine zr_astore_n (pc' := 13) cx rfl (lv' := [(3, .ref q9), (0, .ref (zad Y 0)), (1, .int (i32 a1)), (2, .ref (zad Y 500))]) dL_ifToggled_12 rfl (by decide) rfl ?_
      refine zr_iconst (pc' := 14) cx rfl dL_ifToggled_13 ?_
      exact zr_iretW cx dL_ifToggled_14
    · intro r hr; cases hr
theorem mL_ifToggled (l : Launch) (hl0 : l.stackTraces = false) (Y : zLy) (g : zSt) (a1 : Int) : ∀ q, fL_ifToggled g a1 = some q → zMw l yL_ifToggled cL_ifToggled 4 [(0, 9, 12, 13)] 7 [.ref (zad Y 0), .int (i32 a1), .ref (zad Y 500)] Y g q := by
  intro q hv
  refine zmetw_of RL rfl (by decide +kernel) (Nat.le_of_ble_eq_true rfl) ?_
  intro p e s m below meth c cx htab H locs ls hH hS hl
  exact wL_ifToggled cx hl0 htab g a1 q hv H locs ls hH hS hl
def fL_neededRating (g : zSt) (a1 : Int) (a2 : Int) : Option (Int × zSt) := zbx (fX7_neededRating g a1 a2) (fun v E g2 => (if E = 0 then zlet (zwl g2 1 (i32 v).toInt64) (fun g3 => some (0, g3)) else (if E = 1 then some (1, g2) else none)))
theorem wL_neededRating (cx : zCx Y p s m args meth c RL cL_neededRating 5 (some .int)) (hl0 : l.stackTraces = false) (htab : c.exceptionTable.toList = tableOf [(0, 10, 13, 13)]) (g : zSt) (a1 : Int) (a2 : Int) : zWo (ρ := Int × zSt) Y p l e (zrx 7) s m args below meth c 5 0 0 (fun q => vx_MQ below (zQw Y q) (vx_X (S := Unit) (fun _ => False) (fun _ _ _ => True) (zA Y)) args s 1 6 (zA Y)) g [(0, .ref (zad Y 0)), (1, .int (i32 a1)), (2, .int (i32 a2)), (3, .ref (zad Y 500))] [] 0 (fL_neededRating g a1 a2) := by
  unfold fL_neededRating
  refine zr_aload_n (pc' := 1) cx rfl 3 dL_neededRating_0 rfl rfl ?_
  refine zr_iconst (pc' := 2) cx rfl dL_neededRating_1 ?_
  refine zr_aload_n (pc' := 3) cx rfl 0 dL_neededRating_2 rfl rfl ?_
  refine zr_iload_n (pc' := 4) cx rfl 1 dL_neededRating_3 rfl rfl ?_
  refine zr_iload_n (pc' := 5) cx rfl 2 dL_neededRating_4 rfl rfl ?_
  refine zr_callX (pc' := 8) cx rfl (an := 2) (As := [.int (i32 a1), .int (i32 a2)]) 8 zkc_0 (by decide) rfl (fun q hq => mX7_neededRating l hl0 Y g a1 a2 q hq) (zG_V zw_956 zw_957 zw_958 zw_101 zw_959) (by decide +kernel) ⟨Nat.le_of_ble_eq_true rfl, Nat.le_of_ble_eq_true rfl⟩ ⟨Nat.le_of_ble_eq_true rfl, Nat.le_of_ble_eq_true rfl⟩ rfl rfl (Nat.le_of_ble_eq_true rfl) dL_neededRating_5 ?_ ?_
  · intro v g2
    refine zr_case0 rfl ?_
    refine zr_i2l (pc' := 9) cx rfl dL_neededRating_8 ?_
    refine zr_last (pc' := 10) cx rfl zkc_500 zk31_one dL_neededRating_9 ?_
    refine zr_letS (fun g3 => ?_)
    refine zr_goto cx (tgt := 17) dL_neededRating_10 rfl ?_
    refine zr_iconst (pc' := 18) cx rfl dL_neededRating_17 ?_
    exact zr_iretW cx dL_neededRating_18
  · intro E v g2 h1 h2
    refine zx_case (fun hE => absurd hE (by omega)) (fun _ => ?_)
    refine zx_case (fun hE => ?_) (fun n0 => ?_)
    · subst hE
      refine zr_catch cx ⟨by decide, by decide⟩ [] ⟨0, 10, 13, 13⟩ [] htab (fun z hz => nomatch hz) rfl (by decide) zw_594 (List.mem_of_getElem? (i := 0) rfl) (fun q9 => ?_)
      refine zr_astore (pc' := 15) cx rfl (lv' := [(4, .ref q9), (0, .ref (zad Y 0)), (1, .int (i32 a1)), (2, .int (i32 a2)), (3, .ref (zad Y 500))]) dL_neededRating_13 (by decide) rfl ?_
      refine zr_iconst (pc' := 16) cx rfl dL_neededRating_15 ?_
      exact zr_iretW cx dL_neededRating_16
    · intro r hr; cases hr
theorem mL_neededRating (l : Launch) (hl0 : l.stackTraces = false) (Y : zLy) (g : zSt) (a1 : Int) (a2 : Int) : ∀ q, fL_neededRating g a1 a2 = some q → zMw l yL_neededRating cL_neededRating 5 [(0, 10, 13, 13)] 7 [.ref (zad Y 0), .int (i32 a1), .int (i32 a2), .ref (zad Y 500)] Y g q := by
  intro q hv
  refine zmetw_of RL rfl (by decide +kernel) (Nat.le_of_ble_eq_true rfl) ?_
  intro p e s m below meth c cx htab H locs ls hH hS hl
  exact wL_neededRating cx hl0 htab g a1 a2 q hv H locs ls hH hS hl
end ZHELP
