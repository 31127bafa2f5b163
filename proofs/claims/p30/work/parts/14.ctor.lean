section ZCTOR
/-- the links to nest mates' constructors -/
def zNL : List Cond := [.methodLinkNest "ShipLanterns" 11 ⟨"ShipLanterns$Ship", "<init>", "()V"⟩ "ShipLanterns", .methodLinkNest "ShipLanterns" 41 ⟨"ShipLanterns$PartReader", "<init>", "()V"⟩ "ShipLanterns", .methodLinkNest "ShipLanterns$History" 21 ⟨"ShipLanterns$Ship", "<init>", "()V"⟩ "ShipLanterns", .methodLinkNest "ShipLanterns$Ship" 20 ⟨"ShipLanterns$Lanterns", "<init>", "()V"⟩ "ShipLanterns", .methodLinkNest "ShipLanterns$Ship" 27 ⟨"ShipLanterns$Faults", "<init>", "()V"⟩ "ShipLanterns"]
def zCk (Y : zLy) (U : State) : Prop := va_K Y.2.1 zcl (ztys Y) U ∧ (∀ w ∈ zNL, va_Nw w U) ∧ va_AO RX5 U
theorem zCk.same {Y : zLy} {u U : State} (hv : u.vm = U.vm) (ha : u.vm.Alike U.vm) (h : zCk Y u) : zCk Y U := ⟨va_K.moved ha h.1, fun w hw => va_Nw.same (by
    simp only [zNL, List.mem_cons, List.not_mem_nil, or_false] at hw
    rcases hw with rfl | rfl | rfl | rfl | rfl <;> rfl) hv (h.2.1 w hw), va_AO.moved ha h.2.2⟩
theorem zCk.warm {Y : zLy} {s U : State} (hW : s.WarmedH U.vm) (h : zCk Y s) : zCk Y U := ⟨va_K.moved hW.alike h.1, fun w hw => by
    have k := h.2.1 w hw
    simp only [zNL, List.mem_cons, List.not_mem_nil, or_false] at hw
    rcases hw with rfl | rfl | rfl | rfl | rfl <;> exact va_Nw.warmM hW k, va_AO.moved hW.alike h.2.2⟩
abbrev zB (Y : zLy) : Nat := zbs Y
def zup (f : Nat → va_E) (k : Nat) (v : va_E) : Nat → va_E := fun i => if i = k then v else f i
theorem zup_eq {f : Nat → va_E} {k : Nat} {v : va_E} : zup f k v k = v := if_pos rfl
theorem zup_ne {f : Nat → va_E} {k i : Nat} {v : va_E} (h : i ≠ k) : zup f k v i = f i := if_neg h
/-- the heap's end holds n cells, by their places -/
def zR (Y : zLy) (n : Nat) (r : Nat → va_E) (H : Heap) : Prop := H.size = zB Y + n ∧ ∀ j, j < n → va_at Y.2.1 zcl (zB Y + j, r j) H
def zCv (Y : zLy) (p : Program) (s : State) (m : MethodId) (args : Array Value) (meth : Method) (c : Code) (own : String) (cc : ByteArray) (nl : Nat) (ret : Option FieldType) : Prop :=
  p.tables.exec = Jvm.exec ∧ c.code = cc ∧ c.maxLocals = nl ∧ meth.sig.returnType = ret ∧ meth.locks = false ∧ s.vm.findClass own = some m.cls ∧ (∀ w ∈ zG, w.before args s = true) ∧ zCk Y s ∧ zB Y ≤ s.heap.size
def zVo (Y : zLy) (p : Program) (l : Launch) (e : Env) (R : Room) (s : State) (m : MethodId) (args : Array Value) (below : List Frame) (meth : Method) (c : Code) (nl k ns : Nat) (Q : State → Prop) (n : Nat) (r : Nat → va_E) (lv : List (Nat × Value)) (st : List Value) (pc : Nat) : Prop :=
  ∀ (H : Heap) (locs : List Loc) (ls : Array Slot), zR Y n r H → va_S (zA Y) s.heap H locs → lv_has ls nl lv → W p l e R s m args below meth c H locs k ns Q (F0 m pc ls st)
def zMv (l : Launch) (y : MethodName) (cc : ByteArray) (nl d mc ms j : Nat) (Y : zLy) (n : Nat) (r : Nat → va_E) (n' : Nat) (r' : Nat → va_E) : Prop := Met l y (.code y cc nl none :: zG) { frames := d, cells := mc, slots := ms, locals := 40 * d } (va_Pc [.ref (zB Y + j)] (fun U => zCk Y U ∧ zR Y n r U.heap)) (va_Qv (S := Unit) (fun _ => True) (fun _ t => zR Y n' r' t.heap) (zA Y)) mc ms (zA Y)
theorem zR.upd {Y : zLy} {n j : Nat} {r : Nat → va_E} {v : va_E} {H H1 : Heap} (h : zR Y n r H) (hj : j < n) (hs : H1.size = H.size) (he : va_at Y.2.1 zcl (zB Y + j, v) H1) (oq : ∀ q : Nat, q ≠ zB Y + j → H1[q]? = H[q]?) : zR Y n (zup r j v) H1 := by
  refine ⟨hs.trans h.1, fun i hi => ?_⟩
  by_cases e : i = j
  · rw [e, zup_eq]; exact he
  · rw [zup_ne e]
    exact (h.2 i hi).kept (oq _ (show zB Y + i ≠ zB Y + j by omega))
theorem zR.push {Y : zLy} {n : Nat} {r : Nat → va_E} {v : va_E} {H H1 : Heap} (h : zR Y n r H) (hs : H1.size = H.size + 1) (he : va_at Y.2.1 zcl (zB Y + n, v) H1) (oq : ∀ q : Nat, q < H.size → H1[q]? = H[q]?) : zR Y (n + 1) (zup r n v) H1 := by
  have h1 := h.1
  refine ⟨by omega, fun i hi => ?_⟩
  by_cases e : i = n
  · rw [e, zup_eq]; exact he
  · rw [zup_ne e]
    exact (h.2 i (by omega)).kept (oq _ (show zB Y + i < H.size by omega))
theorem zS_push {Y : zLy} {s : State} {H H1 : Heap} {locs : List Loc} (hS : va_S (zA Y) s.heap H locs) (hs : H1.size = H.size + 1) (oq : ∀ q : Nat, q < H.size → H1[q]? = H[q]?) : va_S (zA Y) s.heap H1 locs :=
  ⟨Nat.le_trans hS.1 (by omega), fun x h1 h2 => (oq x (Nat.lt_of_lt_of_le h1 hS.1)).trans (hS.2.1 x h1 h2), hS.2.2⟩
theorem zmv_of {l : Launch} {Y : zLy} {y : MethodName} {cc : ByteArray} {nl d mc ms j n n' : Nat} {r r' : Nat → va_E} (own : String) (how : y.cls = own) (hin : y.name = "<init>") (hy : plainName y.cls = true) (hn : 1 ≤ nl)
    (body : ∀ (p : Program) (e : Env) (s : State) (m : MethodId) (below : List Frame) (meth : Method) (c : Code), zCv Y p s m #[.ref (zB Y + j)] meth c own cc nl none → meth.name = "<init>" → zVo Y p l e { frames := d, cells := mc, slots := ms, locals := 40 * d } s m #[.ref (zB Y + j)] below meth c nl 0 0 (MQ below (va_Qv (S := Unit) (fun _ => True) (fun _ t => zR Y n' r' t.heap) (zA Y)) #[.ref (zB Y + j)] s mc ms (zA Y)) n r [(0, .ref (zB Y + j))] [] 0) : zMv l y cc nl d mc ms j Y n r n' r' := by
  refine Met.ofW (cc := cc) (maxL := nl) (ret := none) hy rfl ?_
  intro p e s m args below meth c s₁ B hml hv
  obtain ⟨rfl, hck, hR⟩ := hv
  have hts := atoms_spec (ws := .code y cc nl none :: zG) B.pre
  have hown : s.vm.findClass own = some m.cls := how ▸ findClass_of_methodNamed B.named
  have hnm : meth.name = "<init>" := (name_of_methodNamed B.named B.method).1.trans hin
  rw [lg_entry_eq]
  exact body p e s m below meth c ⟨B.exec, B.bytes, hml, B.returns, B.notSynchronized, hown, fun w h => hts w (List.mem_cons_of_mem _ h), hck, by have := hR.1; omega⟩ hnm s.heap [] _ hR va_S.rf (lv_entry [.ref (zB Y + j)] (by exact hn))
variable {Y : zLy} {p : Program} {l : Launch} {e : Env} {R : Room} {s : State} {m : MethodId} {args : Array Value} {below : List Frame} {meth : Method} {c : Code} {nl k ns : Nat} {Q : State → Prop} {n : Nat} {r : Nat → va_E} {lv lv' : List (Nat × Value)} {rest : List Value} {pc pc' tgt : Nat} {off : Int} {own : String} {cc : ByteArray} {ret : Option FieldType}
theorem zv_iconst (cx : zCv Y p s m args meth c own cc nl ret) (hpc : pc + 1 = pc') {v : Int} {w : Int32} (hdg : decode cc pc = .ok (.iconst v, 1)) (hv : Int32.ofInt v = w) (kk : zVo Y p l e R s m args below meth c nl k ns Q n r lv (.int w :: rest) pc') : zVo Y p l e R s m args below meth c nl k ns Q n r lv (rest) pc := by
  obtain ⟨hx, hb, hml, hr0, hlk, hown, hts, hck, hB⟩ := id cx
  subst hpc
  intro H locs ls hR hS hl
  exact lv_iconst hx hb hdg hv (kk H locs ls hR hS hl)
theorem zv_bipush (cx : zCv Y p s m args meth c own cc nl ret) (hpc : pc + 2 = pc') {v : Int} {w : Int32} (hdg : decode cc pc = .ok (.bipush v, 2)) (hv : (Int8.ofInt v).toInt32 = w) (kk : zVo Y p l e R s m args below meth c nl k ns Q n r lv (.int w :: rest) pc') : zVo Y p l e R s m args below meth c nl k ns Q n r lv (rest) pc := by
  obtain ⟨hx, hb, hml, hr0, hlk, hown, hts, hck, hB⟩ := id cx
  subst hpc
  intro H locs ls hR hS hl
  exact lv_bipush hx hb hdg hv (kk H locs ls hR hS hl)
theorem zv_sipush (cx : zCv Y p s m args meth c own cc nl ret) (hpc : pc + 3 = pc') {v : Int} {w : Int32} (hdg : decode cc pc = .ok (.sipush v, 3)) (hv : (Int16.ofInt v).toInt32 = w) (kk : zVo Y p l e R s m args below meth c nl k ns Q n r lv (.int w :: rest) pc') : zVo Y p l e R s m args below meth c nl k ns Q n r lv (rest) pc := by
  obtain ⟨hx, hb, hml, hr0, hlk, hown, hts, hck, hB⟩ := id cx
  subst hpc
  intro H locs ls hR hS hl
  exact lv_sipush hx hb hdg hv (kk H locs ls hR hS hl)
theorem zv_aload_n (cx : zCv Y p s m args meth c own cc nl ret) (hpc : pc + 1 = pc') (pl : Nat) {j : Fin 4} {i x : Nat} (hdg : decode cc pc = .ok (.aload_n j, 1)) (hi : (j : Nat) = i) (hp : lv[pl]? = some (i, .ref x)) (kk : zVo Y p l e R s m args below meth c nl k ns Q n r lv (.ref x :: rest) pc') : zVo Y p l e R s m args below meth c nl k ns Q n r lv (rest) pc := by
  obtain ⟨hx, hb, hml, hr0, hlk, hown, hts, hck, hB⟩ := id cx
  subst hpc
  intro H locs ls hR hS hl
  exact lv_aload_n hx hb hdg hi (lv_at hl pl hp) (kk H locs ls hR hS hl)
theorem zv_iload_n (cx : zCv Y p s m args meth c own cc nl ret) (hpc : pc + 1 = pc') (pl : Nat) {j : Fin 4} {i : Nat} {x : Int32} (hdg : decode cc pc = .ok (.iload_n j, 1)) (hi : (j : Nat) = i) (hp : lv[pl]? = some (i, .int x)) (kk : zVo Y p l e R s m args below meth c nl k ns Q n r lv (.int x :: rest) pc') : zVo Y p l e R s m args below meth c nl k ns Q n r lv (rest) pc := by
  obtain ⟨hx, hb, hml, hr0, hlk, hown, hts, hck, hB⟩ := id cx
  subst hpc
  intro H locs ls hR hS hl
  exact lv_iload_n hx hb hdg hi (lv_at hl pl hp) (kk H locs ls hR hS hl)
theorem zv_istore_n (cx : zCv Y p s m args meth c own cc nl ret) (hpc : pc + 1 = pc') {j : Fin 4} {i : Nat} {x : Int32} (hdg : decode cc pc = .ok (.istore_n j, 1)) (hi : (j : Nat) = i) (hn : i < nl) (hl' : (i, .int x) :: lv.filter (fun q => !(q.1 == i) && !(q.1 + 1 == i && q.2.category == 2)) = lv') (kk : zVo Y p l e R s m args below meth c nl k ns Q n r lv' (rest) pc') : zVo Y p l e R s m args below meth c nl k ns Q n r lv (.int x :: rest) pc := by
  obtain ⟨hx, hb, hml, hr0, hlk, hown, hts, hck, hB⟩ := id cx
  subst hpc
  intro H locs ls hR hS hl
  exact lv_istore_n hx hb hdg hi hl hn hl' (fun ls hl => kk H locs ls hR hS hl)
theorem zv_istore (cx : zCv Y p s m args meth c own cc nl ret) (hpc : pc + 2 = pc') {i : Nat} {x : Int32} (hdg : decode cc pc = .ok (.istore i, 2)) (hn : i < nl) (hl' : (i, .int x) :: lv.filter (fun q => !(q.1 == i) && !(q.1 + 1 == i && q.2.category == 2)) = lv') (kk : zVo Y p l e R s m args below meth c nl k ns Q n r lv' (rest) pc') : zVo Y p l e R s m args below meth c nl k ns Q n r lv (.int x :: rest) pc := by
  obtain ⟨hx, hb, hml, hr0, hlk, hown, hts, hck, hB⟩ := id cx
  subst hpc
  intro H locs ls hR hS hl
  exact lv_istore hx hb hdg hl hn hl' (fun ls hl => kk H locs ls hR hS hl)
theorem zv_astore_n (cx : zCv Y p s m args meth c own cc nl ret) (hpc : pc + 1 = pc') {j : Fin 4} {i x : Nat} (hdg : decode cc pc = .ok (.astore_n j, 1)) (hi : (j : Nat) = i) (hn : i < nl) (hl' : (i, .ref x) :: lv.filter (fun q => !(q.1 == i) && !(q.1 + 1 == i && q.2.category == 2)) = lv') (kk : zVo Y p l e R s m args below meth c nl k ns Q n r lv' (rest) pc') : zVo Y p l e R s m args below meth c nl k ns Q n r lv (.ref x :: rest) pc := by
  obtain ⟨hx, hb, hml, hr0, hlk, hown, hts, hck, hB⟩ := id cx
  subst hpc
  intro H locs ls hR hS hl
  exact lv_astore_n hx hb hdg hi hl hn hl' (fun ls hl => kk H locs ls hR hS hl)
theorem zv_astore (cx : zCv Y p s m args meth c own cc nl ret) (hpc : pc + 2 = pc') {i x : Nat} (hdg : decode cc pc = .ok (.astore i, 2)) (hn : i < nl) (hl' : (i, .ref x) :: lv.filter (fun q => !(q.1 == i) && !(q.1 + 1 == i && q.2.category == 2)) = lv') (kk : zVo Y p l e R s m args below meth c nl k ns Q n r lv' (rest) pc') : zVo Y p l e R s m args below meth c nl k ns Q n r lv (.ref x :: rest) pc := by
  obtain ⟨hx, hb, hml, hr0, hlk, hown, hts, hck, hB⟩ := id cx
  subst hpc
  intro H locs ls hR hS hl
  exact lv_astore hx hb hdg hl hn hl' (fun ls hl => kk H locs ls hR hS hl)
theorem zv_iinc (cx : zCv Y p s m args meth c own cc nl ret) (hpc : pc + 3 = pc') (pl : Nat) {i : Nat} {v : Int} {x w : Int32} (hdg : decode cc pc = .ok (.iinc i v, 3)) (hp : lv[pl]? = some (i, .int x)) (hw : x + Int32.ofInt v = w) (hn : i < nl) (hl' : (i, Value.int w) :: lv.filter (fun q => !(q.1 == i) && !(q.1 + 1 == i && q.2.category == 2)) = lv') (kk : zVo Y p l e R s m args below meth c nl k ns Q n r lv' (rest) pc') : zVo Y p l e R s m args below meth c nl k ns Q n r lv (rest) pc := by
  obtain ⟨hx, hb, hml, hr0, hlk, hown, hts, hck, hB⟩ := id cx
  subst hpc
  intro H locs ls hR hS hl
  exact lv_iinc hx hb hdg hl (k := pl) hp hw hn hl' (fun ls hl => kk H locs ls hR hS hl)
theorem zv_dup (cx : zCv Y p s m args meth c own cc nl ret) (hpc : pc + 1 = pc') {a : Value} (hdg : decode cc pc = .ok (.dup, 1)) (ha : a.category = 1) (kk : zVo Y p l e R s m args below meth c nl k ns Q n r lv (a :: a :: rest) pc') : zVo Y p l e R s m args below meth c nl k ns Q n r lv (a :: rest) pc := by
  obtain ⟨hx, hb, hml, hr0, hlk, hown, hts, hck, hB⟩ := id cx
  subst hpc
  intro H locs ls hR hS hl
  exact lv_dup hx hb hdg ha (kk H locs ls hR hS hl)
theorem zv_goto (cx : zCv Y p s m args meth c own cc nl ret) (hdg : decode cc pc = .ok (.goto off, 3)) (ht : (pc : Int) + off = (tgt : Int)) (kk : zVo Y p l e R s m args below meth c nl k ns Q n r lv (rest) tgt) : zVo Y p l e R s m args below meth c nl k ns Q n r lv (rest) pc := by
  obtain ⟨hx, hb, hml, hr0, hlk, hown, hts, hck, hB⟩ := id cx
  intro H locs ls hR hS hl
  exact lv_goto hx hb hdg ht (kk H locs ls hR hS hl)
theorem zv_geT (cx : zCv Y p s m args meth c own cc nl ret) {x y : Int32} (hdg : decode cc pc = .ok (.if_icmp .ge off, 3)) (ht : (pc : Int) + off = (tgt : Int)) (hc : y ≤ x) (kk : zVo Y p l e R s m args below meth c nl k ns Q n r lv (rest) tgt) : zVo Y p l e R s m args below meth c nl k ns Q n r lv (.int y :: .int x :: rest) pc := by
  obtain ⟨hx, hb, hml, hr0, hlk, hown, hts, hck, hB⟩ := id cx
  intro H locs ls hR hS hl
  exact lv_icmp_ge hx hb hdg ht (fun _ => (kk H locs ls hR hS hl)) (fun h => absurd hc h)
theorem zv_geF (cx : zCv Y p s m args meth c own cc nl ret) (hpc : pc + 3 = pc') {x y : Int32} (hdg : decode cc pc = .ok (.if_icmp .ge off, 3)) (ht : (pc : Int) + off = (tgt : Int)) (hc : ¬ y ≤ x) (kk : zVo Y p l e R s m args below meth c nl k ns Q n r lv (rest) pc') : zVo Y p l e R s m args below meth c nl k ns Q n r lv (.int y :: .int x :: rest) pc := by
  obtain ⟨hx, hb, hml, hr0, hlk, hown, hts, hck, hB⟩ := id cx
  subst hpc
  intro H locs ls hR hS hl
  exact lv_icmp_ge hx hb hdg ht (fun h => absurd h hc) (fun _ => (kk H locs ls hR hS hl))
theorem zv_objInit (cx : zCv Y p s m args meth c own cc nl ret) (hpc : pc + 3 = pc') {j idx : Nat} (hl1 : Cond.methodLink own idx objectInit ∈ zG) (hl2 : Cond.instanceMethod objectInit ∈ zG) (hl3 : Cond.code objectInit ⟨#[0xb1]⟩ 1 none ∈ zG) (hf : 1 ≤ R.frames) (hlo : (rest.map fun v => v.category).sum + 12 ≤ R.locals) (hdg : decode cc pc = .ok (.invokespecial idx, 3)) (kk : zVo Y p l e R s m args below meth c nl k ns Q n r lv (rest) pc') : zVo Y p l e R s m args below meth c nl k ns Q n r lv (.ref j :: rest) pc := by
  obtain ⟨hx, hb, hml, hr0, hlk, hown, hts, hck, hB⟩ := id cx
  subst hpc
  intro H locs ls hR hS hl
  refine W.objInit hx hb hown (hts _ hl1) (hts _ hl2) (hts _ hl3) rfl (hl.1.trans hml.symm) rfl hdg hf (by show 2 * 0 + _ + 12 ≤ _; omega) ?_
  exact kk H locs ls hR hS hl
theorem zv_new (cx : zCv Y p s m args meth c own cc nl ret) (hpc : pc + 3 = pc') {C : String} {T : u_T} {N ci index : Nat} (hin : ∀ w ∈ u_ws C T N, w ∈ zG) (ty : Nat → FieldType) (hty : ∀ k, k < N → parseFieldDescriptor (T k).2.2.1 = some (ty k)) (hc : zcl[ci]? = some (C, T, N)) (hcl : Cond.classLink own index C ∈ zG) (hinst : Cond.instantiable C N ∈ zG) (hini : Cond.initialized C ∈ zG) {fs : List Value} (hfs : ∀ j, j < N → defaultValue (ty j) = vp_V fs j) (hk : k + 1 ≤ R.cells ∧ ns + N ≤ R.slots) (hdg : decode cc pc = .ok (.new index, 3)) (kk : zVo Y p l e R s m args below meth c nl (k + 1) (ns + N) Q (n + 1) (zup r n (.inr (ci, fs))) lv (.ref (zB Y + n) :: rest) pc') : zVo Y p l e R s m args below meth c nl k ns Q n r lv (rest) pc := by
  obtain ⟨hx, hb, hml, hr0, hlk, hown, hts, hck, hB⟩ := id cx
  subst hpc
  intro H locs ls hR hS hl
  have hKn := hck.1.1 ci _ hc
  have hsz := hR.1
  refine W.newcK hx hb hown (hts _ hcl) (hts _ hinst) (hts _ hini) rfl hdg hk.1 hk.2 hKn.2.1 hsz fun H1 kC hkC e1 z1 o1 => ?_
  have z2 : H1.size = H.size + 1 := by omega
  have o2 : ∀ q : Nat, q < H.size → H1[q]? = H[q]? := fun q hq => o1 q (by omega)
  exact kk H1 locs ls (hR.push z2 ⟨_, hc, (u_born ty hts hin hKn hkC e1 hty).to hfs⟩ o2) (zS_push hS z2 o2) hl
theorem zv_newaI (cx : zCv Y p s m args meth c own cc nl ret) (hpc : pc + 2 = pc') {w : Int32} {L : Nat} (harr : Cond.arrayClass .int ∈ zG) (h0 : ¬ w < 0) (hL : w.toNatClampNeg = L) (hby : L * componentBytes .int ≤ 536870912) (hk : k + 1 ≤ R.cells ∧ ns + L ≤ R.slots) (hdg : decode cc pc = .ok (.newarray .int, 2)) (kk : zVo Y p l e R s m args below meth c nl (k + 1) (ns + L) Q (n + 1) (zup r n (.inl (zcA Y 0, L, .inl (fun _ => 0)))) lv (.ref (zB Y + n) :: rest) pc') : zVo Y p l e R s m args below meth c nl k ns Q n r lv (.int w :: rest) pc := by
  obtain ⟨hx, hb, hml, hr0, hlk, hown, hts, hck, hB⟩ := id cx
  subst hpc
  intro H locs ls hR hS hl
  refine va_newaK hx hb (atype := .int) (hts _ harr) rfl hdg rfl h0 hL hby hk.1 hk.2 hR.1 fun H1 cA e1 z1 o1 hAr hNm => ?_
  have hsz := hR.1
  have hcA : cA = zcA Y 0 := Option.some.inj (hNm.symm.trans (hck.1.2 0 _ rfl).2)
  subst hcA
  have z2 : H1.size = H.size + 1 := by omega
  have o2 : ∀ q : Nat, q < H.size → H1[q]? = H[q]? := fun q hq => o1 q (by omega)
  exact kk H1 locs ls (hR.push z2 e1 o2) (zS_push hS z2 o2) hl
theorem zv_newaZ (cx : zCv Y p s m args meth c own cc nl ret) (hpc : pc + 2 = pc') {w : Int32} {L : Nat} (harr : Cond.arrayClass .boolean ∈ zG) (h0 : ¬ w < 0) (hL : w.toNatClampNeg = L) (hby : L * componentBytes .boolean ≤ 536870912) (hk : k + 1 ≤ R.cells ∧ ns + L ≤ R.slots) (hdg : decode cc pc = .ok (.newarray .boolean, 2)) (kk : zVo Y p l e R s m args below meth c nl (k + 1) (ns + L) Q (n + 1) (zup r n (.inl (zcA Y 1, L, .inl (fun _ => 0)))) lv (.ref (zB Y + n) :: rest) pc') : zVo Y p l e R s m args below meth c nl k ns Q n r lv (.int w :: rest) pc := by
  obtain ⟨hx, hb, hml, hr0, hlk, hown, hts, hck, hB⟩ := id cx
  subst hpc
  intro H locs ls hR hS hl
  refine va_newaK hx hb (atype := .boolean) (hts _ harr) rfl hdg rfl h0 hL hby hk.1 hk.2 hR.1 fun H1 cA e1 z1 o1 hAr hNm => ?_
  have hsz := hR.1
  have hcA : cA = zcA Y 1 := Option.some.inj (hNm.symm.trans (hck.1.2 1 _ rfl).2)
  subst hcA
  have z2 : H1.size = H.size + 1 := by omega
  have o2 : ∀ q : Nat, q < H.size → H1[q]? = H[q]? := fun q hq => o1 q (by omega)
  exact kk H1 locs ls (hR.push z2 e1 o2) (zS_push hS z2 o2) hl
theorem zv_newq (cx : zCv Y p s m args meth c own cc nl ret) (hpc : pc + 3 = pc') {w : Int32} {L index : Nat} (hcl : Cond.classLink own index RX5 ∈ zG) (h0 : ¬ w < 0) (hL : w.toNatClampNeg = L) (hby : L * 4 ≤ 536870912) (hk : k + 1 ≤ R.cells ∧ ns + L ≤ R.slots) (hdg : decode cc pc = .ok (.anewarray index, 3)) (kk : zVo Y p l e R s m args below meth c nl (k + 1) (ns + L) Q (n + 1) (zup r n (.inl (zcA Y 2, L, .inr (.inr (.inr (.inr (fun _ => none))))))) lv (.ref (zB Y + n) :: rest) pc') : zVo Y p l e R s m args below meth c nl k ns Q n r lv (.int w :: rest) pc := by
  obtain ⟨hx, hb, hml, hr0, hlk, hown, hts, hck, hB⟩ := id cx
  subst hpc
  intro H locs ls hR hS hl
  subst hL
  have hsz := hR.1
  refine W.anew hx hb hown (hts _ hcl) (va_AO.use hck.2.2) rfl hdg rfl h0 hby hk.1 hk.2 fun cA kA comp f1 f2 f3 f4 => ?_
  generalize hH1 : H.push ({ cls := cA, slots := Array.replicate w.toNatClampNeg .null, vm := .none } : Cell) = H1
  have z1 : H1.size = H.size + 1 := by rw [← hH1, Array.size_push]
  have e1 : H1[H.size]? = some (arrV cA w.toNatClampNeg (fun _ => .null)) := by rw [← hH1, Array.getElem?_push_size, ← arrV_new]
  have o1 : ∀ q : Nat, q < H.size → H1[q]? = H[q]? := fun q hq => by rw [← hH1, Array.getElem?_push, if_neg (Nat.ne_of_lt hq)]
  obtain ⟨kA', comp', g1, g2, g3, g4⟩ := (hck.1.2 2 _ rfl).2
  have hcA : cA = zcA Y 2 := Option.some.inj (f1.symm.trans g4)
  subst hcA
  rw [hsz] at e1 ⊢
  refine kk H1 locs ls (hR.push z1 ?_ o1) (zS_push hS z1 o1) hl
  show H1[zB Y + n]? = some (vp_cell _ _)
  rw [vp_cell_q]
  exact e1
theorem zv_put (cx : zCv Y p s m args meth c own cc nl ret) (hpc : pc + 3 = pc') (j : Nat) (hj : j < n) {ci : Nat} {fs : List Value} (hr : r j = .inr (ci, fs)) {C : String} {T : u_T} {N : Nat} (hc : zcl[ci]? = some (C, T, N)) (hin : ∀ w ∈ u_ws C T N, w ∈ zG) (ty0 : Nat → FieldType) (hty : ∀ k, k < N → parseFieldDescriptor (T k).2.2.1 = some (ty0 k)) (hnm : ∀ a, a < N → ∀ b, b < N → a ≠ b → (T a).2.1 ≠ (T b).2.1) (i : Nat) (hi : i < N) {index : Nat} (hlink : Cond.fieldLink own index C (T i).2.1 (T i).2.2.1 ∈ zG) (hT : (T i).1 = C) (hfin : (T i).2.2.2 = false) {ty : FieldType} {v : Value} (hd : parseFieldDescriptor (T i).2.2.1 = some ty) (hn : narrow ty v = v) (hfit : fits ty v = true) (hl0 : i < fs.length) (hdg : decode cc pc = .ok (.putfield index, 3)) (kk : zVo Y p l e R s m args below meth c nl k ns Q n (zup r j (.inr (ci, fs.set i v))) lv (rest) pc') : zVo Y p l e R s m args below meth c nl k ns Q n r lv (v :: .ref (zB Y + j) :: rest) pc := by
  obtain ⟨hx, hb, hml, hr0, hlk, hown, hts, hck, hB⟩ := id cx
  subst hpc
  intro H locs ls hR hS hl
  obtain ⟨r1, h1, cell, q1, q2, q3, q4⟩ := (hr ▸ hR.2 j hj : va_at Y.2.1 zcl (zB Y + j, .inr (ci, fs)) H)
  have hr1 : r1 = (C, T, N) := Option.some.inj (h1.symm.trans hc)
  subst hr1
  obtain ⟨hSl, hfc, kC, hkC, hkind⟩ := hck.1.1 ci _ hc
  obtain ⟨cf, kf, fi, f, hif, hsl⟩ := hSl i hi
  have hlay := hts _ (hin _ (u_in_lay hi))
  unfold u_lay at hlay
  rw [if_neg (by rw [hfin]; decide)] at hlay
  have hst := (u_facts hfc hkC (u_lays hts hin hi) hif).1
  have hap := va_apart (own := own) hts hin ty0 hty hnm hck.1 hc
  have hi2 : s.fieldFound? C (T i).2.1 (T i).2.2.1 = some (cf, kf, fi, f) := hT ▸ hif
  have h6 := u_store hfc hkC hkind hlay hif hd hn hfit
  refine W.putK hx hb (f := f) ⟨hown, hts _ hlink, ⟨_, _, _, hi2⟩, hst⟩ (by rw [q2]; exact h6) q1 q3 (by rw [hsl]; exact k2_hasslot (q4 i hi)) rfl rfl hdg fun H' e1 e2 e3 => ?_
  rw [hsl] at e1 ⊢
  refine kk H' _ ls (hR.upd hj e2 ⟨_, hc, t_OB.to (V := updV (vp_V fs) i v) ⟨_, e1, q2, q3, t_set q4 hap hi v⟩ (fun x _ => vp_updV_set hl0 v x)⟩ e3) (hS.put e2 e3 (Nat.le_add_right _ _)) hl
theorem zv_putF (cx : zCv Y p s m args meth c own cc nl ret) (hpc : pc + 3 = pc') (j : Nat) (hj : j < n) {ci : Nat} {fs : List Value} (hr : r j = .inr (ci, fs)) {C : String} {T : u_T} {N : Nat} (hc : zcl[ci]? = some (C, T, N)) (hin : ∀ w ∈ u_ws C T N, w ∈ zG) (ty0 : Nat → FieldType) (hty : ∀ k, k < N → parseFieldDescriptor (T k).2.2.1 = some (ty0 k)) (hnm : ∀ a, a < N → ∀ b, b < N → a ≠ b → (T a).2.1 ≠ (T b).2.1) (i : Nat) (hi : i < N) {index : Nat} (hlink : Cond.fieldLink own index C (T i).2.1 (T i).2.2.1 ∈ zG) (hT : (T i).1 = C) (hfin : (T i).2.2.2 = true) (hini : meth.name = "<init>") (hdecl : C = own) {ty : FieldType} {v : Value} (hd : parseFieldDescriptor (T i).2.2.1 = some ty) (hn : narrow ty v = v) (hfit : fits ty v = true) (hl0 : i < fs.length) (hdg : decode cc pc = .ok (.putfield index, 3)) (kk : zVo Y p l e R s m args below meth c nl k ns Q n (zup r j (.inr (ci, fs.set i v))) lv (rest) pc') : zVo Y p l e R s m args below meth c nl k ns Q n r lv (v :: .ref (zB Y + j) :: rest) pc := by
  obtain ⟨hx, hb, hml, hr0, hlk, hown, hts, hck, hB⟩ := id cx
  subst hpc
  intro H locs ls hR hS hl
  obtain ⟨r1, h1, cell, q1, q2, q3, q4⟩ := (hr ▸ hR.2 j hj : va_at Y.2.1 zcl (zB Y + j, .inr (ci, fs)) H)
  have hr1 : r1 = (C, T, N) := Option.some.inj (h1.symm.trans hc)
  subst hr1
  obtain ⟨hSl, hfc, kC, hkC, hkind⟩ := hck.1.1 ci _ hc
  obtain ⟨cf, kf, fi, f, hif, hsl⟩ := hSl i hi
  have hlay := hts _ (hin _ (u_in_lay hi))
  unfold u_lay at hlay
  rw [if_pos hfin] at hlay
  have hst := (u_facts hfc hkC (u_lays hts hin hi) hif).1
  have hap := va_apart (own := own) hts hin ty0 hty hnm hck.1 hc
  have hi2 : s.fieldFound? C (T i).2.1 (T i).2.2.1 = some (cf, kf, fi, f) := hT ▸ hif
  have hcf : m.cls = cf := by
    obtain ⟨_, _, c', _, _, _, -, -, hf', -, -, -, hown2, -⟩ := Cond.laysFinal_spec hlay
    have e1 : c' = cf := by have := hif.symm.trans hf'; simp at this; exact this.1.symm
    rw [hT, hdecl] at hown2
    rw [← e1]; exact Option.some.inj (hown.symm.trans hown2)
  have h6 := u_fits hfc hkC hkind (Or.inr hlay) hif hd hn hfit
  refine W.putFinK hx hb hown (hts _ hlink) hi2 hst hcf hini (by rw [q2]; exact h6) q1 q3 (by rw [hsl]; exact k2_hasslot (q4 i hi)) rfl rfl hdg fun H' e1 e2 e3 => ?_
  rw [hsl] at e1 ⊢
  refine kk H' _ ls (hR.upd hj e2 ⟨_, hc, t_OB.to (V := updV (vp_V fs) i v) ⟨_, e1, q2, q3, t_set q4 hap hi v⟩ (fun x _ => vp_updV_set hl0 v x)⟩ e3) (hS.put e2 e3 (Nat.le_add_right _ _)) hl
theorem zv_get (cx : zCv Y p s m args meth c own cc nl ret) (hpc : pc + 3 = pc') (j : Nat) (hj : j < n) {ci : Nat} {fs : List Value} (hr : r j = .inr (ci, fs)) {C : String} {T : u_T} {N : Nat} (hc : zcl[ci]? = some (C, T, N)) (hin : ∀ w ∈ u_ws C T N, w ∈ zG) (i : Nat) (hi : i < N) {index : Nat} (hlink : Cond.fieldLink own index C (T i).2.1 (T i).2.2.1 ∈ zG) (hT : (T i).1 = C) {v : Value} (hv : fs[i]? = some v) (hdg : decode cc pc = .ok (.getfield index, 3)) (kk : zVo Y p l e R s m args below meth c nl k ns Q n r lv (v :: rest) pc') : zVo Y p l e R s m args below meth c nl k ns Q n r lv (.ref (zB Y + j) :: rest) pc := by
  obtain ⟨hx, hb, hml, hr0, hlk, hown, hts, hck, hB⟩ := id cx
  subst hpc
  intro H locs ls hR hS hl
  have hP : va_P Y.2.1 zcl [(zB Y + j, .inr (ci, fs))] H := fun q x hq => by
    match q, hq with
    | 0, hq => cases hq; exact hr ▸ hR.2 j hj
  exact va_get hx hb hts hin hown hck.1 hP 0 rfl hc i hi (hts _ hlink) (fun x h => hT ▸ h) hv hdg (kk H locs ls hR hS hl)
theorem zv_iast (cx : zCv Y p s m args meth c own cc nl ret) (hpc : pc + 1 = pc') (j : Nat) (hj : j < n) {L : Nat} {f : Nat → Int32} (hr : r j = .inl (zcA Y 0, L, .inl f)) {i x : Int32} {q0 : Nat} (hin : vp_in i L) (hq0 : i.toNatClampNeg = q0) (hdg : decode cc pc = .ok (.iastore, 1)) (kk : zVo Y p l e R s m args below meth c nl k ns Q n (zup r j (.inl (zcA Y 0, L, .inl (upd f q0 x)))) lv (rest) pc') : zVo Y p l e R s m args below meth c nl k ns Q n r lv (.int x :: .int i :: .ref (zB Y + j) :: rest) pc := by
  obtain ⟨hx, hb, hml, hr0, hlk, hown, hts, hck, hB⟩ := id cx
  subst hpc
  intro H locs ls hR hS hl
  subst hq0
  have hP : H[zB Y + j]? = some (vp_cell (zcA Y 0) (L, .inl f)) := (hr ▸ hR.2 j hj : va_at Y.2.1 zcl (zB Y + j, .inl (zcA Y 0, L, .inl f)) H)
  refine W.iast hx hb hP ((hck.1.2 0 _ rfl).1 L (fun j => .int (f j))) (fun q => by cases q) (by show ¬ (i < 0 ∨ (arrV _ _ _).slots.size ≤ _); rw [arrV_size]; exact hin) rfl rfl hdg fun H1 e z oq => ?_
  refine kk H1 _ ls (hR.upd hj z ?_ oq) (hS.put z oq (Nat.le_add_right _ _)) hl
  show H1[zB Y + j]? = some (vp_cell _ _)
  rw [e]
  rw [vp_cell_i, vp_cell_i, arrV_store]
  congr 2
  funext q
  by_cases hq : q = i.toNatClampNeg
  · subst hq
    simp [updV, upd]
  · simp [updV, upd, hq]
theorem zv_aast (cx : zCv Y p s m args meth c own cc nl ret) (hpc : pc + 1 = pc') (j : Nat) (hj : j < n) {L : Nat} {f : Nat → Option Nat} (hr : r j = .inl (zcA Y 2, L, .inr (.inr (.inr (.inr f))))) {i : Int32} {q0 : Nat} (j2 : Nat) (hj2 : j2 < n) {vs : List Value} (hr2 : r j2 = .inr (5, vs)) (hin : vp_in i L) (hq0 : i.toNatClampNeg = q0) (hdg : decode cc pc = .ok (.aastore, 1)) (kk : zVo Y p l e R s m args below meth c nl k ns Q n (zup r j (.inl (zcA Y 2, L, .inr (.inr (.inr (.inr (va_up f q0 (some (zB Y + j2))))))))) lv (rest) pc') : zVo Y p l e R s m args below meth c nl k ns Q n r lv (.ref (zB Y + j2) :: .int i :: .ref (zB Y + j) :: rest) pc := by
  obtain ⟨hx, hb, hml, hr0, hlk, hown, hts, hck, hB⟩ := id cx
  subst hpc
  intro H locs ls hR hS hl
  subst hq0
  have hP : H[zB Y + j]? = some (vp_cell (zcA Y 2) (L, .inr (.inr (.inr (.inr f))))) := (hr ▸ hR.2 j hj : va_at Y.2.1 zcl (zB Y + j, .inl (zcA Y 2, L, .inr (.inr (.inr (.inr f))))) H)
  obtain ⟨r', hr', cellV, g1, g2, g3, -⟩ := (hr2 ▸ hR.2 j2 hj2 : va_at Y.2.1 zcl (zB Y + j2, .inr (5, vs)) H)
  have hcls := (hck.1.1 5 (RX5, TX5, 8) rfl).2
  obtain ⟨kA, comp, k1, k2, k3, -⟩ := (hck.1.2 2 _ rfl).2
  have hcomp : comp = Y.2.1.1 5 := Option.some.inj (k3.symm.trans hcls.1)
  subst hcomp
  have hcl2 := hcls
  obtain ⟨-, kC, hkC, -⟩ := hcl2
  have hin6 : ¬ i < 0 ∧ i.toNatClampNeg < L := ⟨fun q => hin (Or.inl q), Nat.not_le.mp fun q => hin (Or.inr q)⟩
  refine W.aast hx hb hP (fun q h => by cases h) (fun h => by cases h) k1 k2 rfl hkC ⟨hin6.1, by show _ < (arrV _ _ _).slots.size; rw [arrV_size]; exact hin6.2⟩ g1 (fun q h => by rw [g3] at h; cases h) (by rw [g2]; exact hkC) (by rw [g2]; exact va_assign hcls) rfl rfl hdg fun H1 e z oq => ?_
  refine kk H1 _ ls (hR.upd hj z ?_ oq) (hS.put z oq (Nat.le_add_right _ _)) hl
  show H1[zB Y + j]? = some (vp_cell _ _)
  rw [e]
  rw [vp_cell_q, vp_cell_q, arrV_store]
  congr 2
  funext q
  by_cases hq : q = i.toNatClampNeg
  · subst hq
    simp [updV, va_up, va_rf]
  · simp [updV, va_up, hq]
theorem zvpre (cx : zCv Y p s m args meth c own cc nl ret) {H : Heap} (hR : zR Y n r H) {Pa : List Value} (U : State) (hU : U.heap = H) (hW : s.WarmedH U.vm) : va_Pc Pa (fun U => zCk Y U ∧ zR Y n r U.heap) Pa.toArray U := by
  obtain ⟨hx, hb, hml, hr0, hlk, hown, hts, hck, hB⟩ := id cx
  exact ⟨rfl, zCk.warm hW hck, hU ▸ hR⟩
theorem zvblind {Pa : List Value} : FrameBlind (va_Pc Pa (fun U => zCk Y U ∧ zR Y n r U.heap)) := fun a U g mk q => ⟨q.1, zCk.same (u := U) (U := U.calling g mk a) rfl (Vm.Alike.refl U.vm) q.2.1, q.2.2⟩
theorem zv_call (cx : zCv Y p s m args meth c own cc nl ret) (hpc : pc + 3 = pc') {y : MethodName} {code : ByteArray} {ml d' mc ms j n' idx : Nat} {r' : Nat → va_E} (hM : zMv l y code ml d' mc ms j Y n r n' r') (hl1 : Cond.methodLink own idx y ∈ zG) (hl2 : Cond.instanceMethod y ∈ zG) (hcode : Cond.code y code ml none ∈ zG) (hini : Cond.initialized y.cls ∈ zG) (hy1 : y.name = "<init>") (hd : y.cls ≠ "java/lang/invoke/MethodHandle" ∧ y.cls ≠ "java/lang/invoke/VarHandle" ∧ (parseMethodDescriptor y.desc).map (fun d => d.parameters.length) = some 0) (hRR : d' + 1 ≤ R.frames ∧ 8 + (ml + 11) + 40 * d' ≤ R.locals) (hk : k + mc ≤ R.cells ∧ ns + ms ≤ R.slots) (hrest : (rest.map fun v => v.category).sum ≤ 8) (hdg : decode cc pc = .ok (.invokespecial idx, 3)) (kk : zVo Y p l e R s m args below meth c nl (k + mc) (ns + ms) Q n' r' lv (rest) pc') : zVo Y p l e R s m args below meth c nl k ns Q n r lv (.ref (zB Y + j) :: rest) pc := by
  obtain ⟨hx, hb, hml, hr0, hlk, hown, hts, hck, hB⟩ := id cx
  subst hpc
  intro H locs ls hR hS hl
  refine va_callv (va_runI (As := []) (rest := rest) ⟨hx, hb, hml, hown, hts⟩ hM (cwI 0 hts (zG_in (w0 := .tt) (zG_call hcode)) rfl rfl rfl (hts _ hini) (hts _ hl1) (hts _ hl2) hy1 hd ⟨hRR.1, hRR.2⟩) ⟨zvblind, fun U hU hW => zvpre cx hR U hU hW⟩ rfl rfl hl.1 rfl (lv_room hrest) hdg hk) hS (fun q _ h => h) (fun q h => h) (fun u t H1 locs ht hvm hw hB2 hz1 hk1 hS => ?_)
  exact kk H1 locs ls (ht ▸ hB2) hS hl
theorem zv_callN (cx : zCv Y p s m args meth c own cc nl ret) (hpc : pc + 3 = pc') {y : MethodName} {code : ByteArray} {ml d' mc ms j n' idx : Nat} {r' : Nat → va_E} (hM : zMv l y code ml d' mc ms j Y n r n' r') (hl1 : Cond.methodLinkNest own idx y "ShipLanterns" ∈ zNL) (hl2 : Cond.instanceMethod y ∈ zG) (hcode : Cond.code y code ml none ∈ zG) (hini : Cond.initialized y.cls ∈ zG) (hy1 : y.name = "<init>") (hd : y.cls ≠ "java/lang/invoke/MethodHandle" ∧ y.cls ≠ "java/lang/invoke/VarHandle" ∧ (parseMethodDescriptor y.desc).map (fun d => d.parameters.length) = some 0) (hRR : d' + 1 ≤ R.frames ∧ 8 + (ml + 11) + 40 * d' ≤ R.locals) (hk : k + mc ≤ R.cells ∧ ns + ms ≤ R.slots) (hrest : (rest.map fun v => v.category).sum ≤ 8) (hdg : decode cc pc = .ok (.invokespecial idx, 3)) (kk : zVo Y p l e R s m args below meth c nl (k + mc) (ns + ms) Q n' r' lv (rest) pc') : zVo Y p l e R s m args below meth c nl k ns Q n r lv (.ref (zB Y + j) :: rest) pc := by
  obtain ⟨hx, hb, hml, hr0, hlk, hown, hts, hck, hB⟩ := id cx
  subst hpc
  intro H locs ls hR hS hl
  refine va_callv (va_runIN (As := []) (rest := rest) ⟨hx, hb, hml, hown, hts⟩ hM ⟨va_cnB 0 hts (zG_in (w0 := .tt) (zG_call hcode)) rfl rfl rfl (hck.2.1 _ hl1) (hts _ hini) hd ⟨hRR.1, hRR.2⟩, hy1, hts _ hl2⟩ ⟨zvblind, fun U hU hW => zvpre cx hR U hU hW⟩ rfl rfl hl.1 rfl (lv_room hrest) hdg hk) hS (fun q _ h => h) (fun q h => h) (fun u t H1 locs ht hvm hw hB2 hz1 hk1 hS => ?_)
  exact kk H1 locs ls (ht ▸ hB2) hS hl
theorem zv_cs {k' ns' : Nat} {st0 : List Value} (hk : k = k') (hn : ns = ns') (kk : zVo Y p l e R s m args below meth c nl k' ns' Q n r lv (st0) pc) : zVo Y p l e R s m args below meth c nl k ns Q n r lv (st0) pc := by
  subst hk; subst hn; exact kk
theorem zv_nn {n2 : Nat} {st0 : List Value} (hn : n = n2) (kk : zVo Y p l e R s m args below meth c nl k ns Q n2 r lv (st0) pc) : zVo Y p l e R s m args below meth c nl k ns Q n r lv (st0) pc := by
  subst hn; exact kk
theorem zv_ret (cx : zCv Y p s m args meth c own cc nl none) (hdg : decode cc pc = .ok (.return_, 1)) : zVo Y p l e R s m args below meth c nl k ns (MQ below (va_Qv (S := Unit) (fun _ => True) (fun _ t => zR Y n r t.heap) (zA Y)) args s k ns (zA Y)) n r lv [] pc := by
  obtain ⟨hx, hb, hml, hr0, hlk, hown, hts, hck, hB⟩ := id cx
  intro H locs ls hR hS hl
  exact W.vret hx hb hr0 (fun t ht hW => ⟨⟨(), rfl, trivial, (show zR Y n r t.heap from ht ▸ hR)⟩, hS.F ht⟩) hS.2.2 hdg hlk
end ZCTOR
