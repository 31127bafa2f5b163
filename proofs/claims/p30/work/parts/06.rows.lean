section ZROWS
theorem i32_add (x y : Int) : i32 x + i32 y = i32 (x + y) := (Int32.ofInt_add x y).symm
theorem i32_sub (x y : Int) : i32 x - i32 y = i32 (x - y) := (Int32.ofInt_sub x y).symm
theorem i32_mul (x y : Int) : i32 x * i32 y = i32 (x * y) := (Int32.ofInt_mul x y).symm
theorem i32_of (x : Int32) : i32 x.toInt = x := Int32.ofInt_toInt x
def zdv (x y : Int) : Int := (i32 x / i32 y).toInt
def zmo (x y : Int) : Int := (i32 x - i32 x / i32 y * i32 y).toInt
def zan (x y : Int) : Int := (i32 x &&& i32 y).toInt
def zor (x y : Int) : Int := (i32 x ||| i32 y).toInt
def zsl (x y : Int) : Int := (i32 x <<< (i32 y &&& 31)).toInt
def zsr (x y : Int) : Int := (i32 x >>> (i32 y &&& 31)).toInt
def zus (x y : Int) : Int := ((i32 x).toUInt32 >>> ((i32 y).toUInt32 &&& Int32.toUInt32 31)).toInt32.toInt
def zdc (x y : UInt64) (op : CmpOp) : Int := (Op.cmpValue (FP.dcmp x y) op).toInt
def zlc (x y : Int64) : Int := (lg_cmp x y).toInt
def znb (r : UInt64) : Bool := decide (r &&& 0x7fffffffffffffff ≤ 0x7ff0000000000000)
theorem znb_n {r : UInt64} (h : znb r = true) : vf_n64 r := by
  unfold znb at h
  have h1 := of_decide_eq_true h
  exact h1
theorem i32_in {i : Int} {N : Nat} (h : 0 ≤ i ∧ i < (N : Int)) (hN : N < 2 ^ 31) : vp_in (i32 i) N ∧ (i32 i).toNatClampNeg = i.toNat := by
  obtain ⟨j, rfl⟩ := Int.eq_ofNat_of_zero_le h.1
  have hj : j < N := by omega
  have e : i32 (j : Int) = nI j := rfl
  rw [e]
  exact ⟨vp_in_nI hj hN, by rw [nI_clamp (by omega)]; rfl⟩
theorem zlen_lt (k : Nat) : zlen k < 2 ^ 31 := by unfold zlen; split <;> decide
variable {ρ : Type} {Y : zLy} {p : Program} {l : Launch} {e : Env} {R : Room} {s : State} {m : MethodId} {args : Array Value} {below : List Frame} {meth : Method} {c : Code} {nl k n : Nat} {kq : ρ → State → Prop} {σ : zSt} {lv lv' : List (Nat × Value)} {rest : List Value} {pc tgt : Nat} {off : Int} {o ot oe : Option ρ} {own : String} {cc : ByteArray} {ret : Option FieldType}
theorem zr_iconst (cx : zCx Y p s m args meth c own cc nl ret) {pc' : Nat} (hpc : pc + 1 = pc') {v : Int} (hdg : decode cc pc = .ok (.iconst v, 1)) (kk : zWo Y p l e R s m args below meth c nl k n kq σ lv (.int (i32 v) :: rest) pc' (o)) : zWo Y p l e R s m args below meth c nl k n kq σ lv (rest) pc (o) := by
  subst hpc
  intro r hr H locs ls hH hS hl
  exact lv_iconst cx.1 cx.2.1 hdg rfl (kk r hr H locs ls hH hS hl)
theorem zr_bipush (cx : zCx Y p s m args meth c own cc nl ret) {pc' : Nat} (hpc : pc + 2 = pc') {v : Int} (hdg : decode cc pc = .ok (.bipush v, 2)) (hv : (Int8.ofInt v).toInt32 = i32 v) (kk : zWo Y p l e R s m args below meth c nl k n kq σ lv (.int (i32 v) :: rest) pc' (o)) : zWo Y p l e R s m args below meth c nl k n kq σ lv (rest) pc (o) := by
  subst hpc
  intro r hr H locs ls hH hS hl
  exact lv_bipush cx.1 cx.2.1 hdg hv (kk r hr H locs ls hH hS hl)
theorem zr_sipush (cx : zCx Y p s m args meth c own cc nl ret) {pc' : Nat} (hpc : pc + 3 = pc') {v : Int} (hdg : decode cc pc = .ok (.sipush v, 3)) (hv : (Int16.ofInt v).toInt32 = i32 v) (kk : zWo Y p l e R s m args below meth c nl k n kq σ lv (.int (i32 v) :: rest) pc' (o)) : zWo Y p l e R s m args below meth c nl k n kq σ lv (rest) pc (o) := by
  subst hpc
  intro r hr H locs ls hH hS hl
  exact lv_sipush cx.1 cx.2.1 hdg hv (kk r hr H locs ls hH hS hl)
theorem zr_ldc (cx : zCx Y p s m args meth c own cc nl ret) {pc' : Nat} (hpc : pc + 2 = pc') {v : Int} {i : Nat} {w : Int32} (hdg : decode cc pc = .ok (.ldc i, 2)) (hc : Cond.constant own i w ∈ zG) (hw : w = i32 v) (kk : zWo Y p l e R s m args below meth c nl k n kq σ lv (.int (i32 v) :: rest) pc' (o)) : zWo Y p l e R s m args below meth c nl k n kq σ lv (rest) pc (o) := by
  subst hpc
  intro r hr H locs ls hH hS hl
  obtain ⟨hx, hb, hml, hr0, hlk, hown, hts, hok, hz⟩ := id cx
  subst hw
  exact lv_ldc hx hb hown (hts _ hc) hdg (kk r hr H locs ls hH hS hl)
theorem zr_ldcw (cx : zCx Y p s m args meth c own cc nl ret) {pc' : Nat} (hpc : pc + 3 = pc') {v : Int} {i : Nat} {w : Int32} (hdg : decode cc pc = .ok (.ldc_w i, 3)) (hc : Cond.constant own i w ∈ zG) (hw : w = i32 v) (kk : zWo Y p l e R s m args below meth c nl k n kq σ lv (.int (i32 v) :: rest) pc' (o)) : zWo Y p l e R s m args below meth c nl k n kq σ lv (rest) pc (o) := by
  subst hpc
  intro r hr H locs ls hH hS hl
  obtain ⟨hx, hb, hml, hr0, hlk, hown, hts, hok, hz⟩ := id cx
  subst hw
  exact lv_ldcw hx hb hown (hts _ hc) hdg (kk r hr H locs ls hH hS hl)
theorem zr_lconst (cx : zCx Y p s m args meth c own cc nl ret) {pc' : Nat} (hpc : pc + 1 = pc') {j : Fin 2} {v : Int64} (hdg : decode cc pc = .ok (.lconst j, 1)) (hv : Int64.ofNat (j : Nat) = v) (kk : zWo Y p l e R s m args below meth c nl k n kq σ lv (.long v :: rest) pc' (o)) : zWo Y p l e R s m args below meth c nl k n kq σ lv (rest) pc (o) := by
  subst hpc
  intro r hr H locs ls hH hS hl
  exact lv_lconst cx.1 cx.2.1 hdg hv (kk r hr H locs ls hH hS hl)
theorem zr_ldc2 (cx : zCx Y p s m args meth c own cc nl ret) {pc' : Nat} (hpc : pc + 3 = pc') {i : Nat} {v : Int64} (hdg : decode cc pc = .ok (.ldc2_w i, 3)) (hc : Cond.constantLong own i v ∈ zG) (kk : zWo Y p l e R s m args below meth c nl k n kq σ lv (.long v :: rest) pc' (o)) : zWo Y p l e R s m args below meth c nl k n kq σ lv (rest) pc (o) := by
  subst hpc
  intro r hr H locs ls hH hS hl
  obtain ⟨hx, hb, hml, hr0, hlk, hown, hts, hok, hz⟩ := id cx
  exact lv_ldc2 hx hb hown (hts _ hc) hdg (kk r hr H locs ls hH hS hl)
theorem zr_ldc2d (cx : zCx Y p s m args meth c own cc nl ret) {pc' : Nat} (hpc : pc + 3 = pc') {i : Nat} {v : UInt64} (hdg : decode cc pc = .ok (.ldc2_w i, 3)) (hc : Cond.constantDouble own i v ∈ zG) (kk : zWo Y p l e R s m args below meth c nl k n kq σ lv (.double v :: rest) pc' (o)) : zWo Y p l e R s m args below meth c nl k n kq σ lv (rest) pc (o) := by
  subst hpc
  intro r hr H locs ls hH hS hl
  obtain ⟨hx, hb, hml, hr0, hlk, hown, hts, hok, hz⟩ := id cx
  exact lv_ldc2d hx hb hown (hts _ hc) hdg (kk r hr H locs ls hH hS hl)
theorem zr_dconst0 (cx : zCx Y p s m args meth c own cc nl ret) {pc' : Nat} (hpc : pc + 1 = pc') (hdg : decode cc pc = .ok (.dconst 0, 1)) (kk : zWo Y p l e R s m args below meth c nl k n kq σ lv (.double FP.dconst0 :: rest) pc' (o)) : zWo Y p l e R s m args below meth c nl k n kq σ lv (rest) pc (o) := by
  subst hpc
  intro r hr H locs ls hH hS hl
  exact lv_dconst0 cx.1 cx.2.1 hdg (kk r hr H locs ls hH hS hl)
theorem zr_dconst1 (cx : zCx Y p s m args meth c own cc nl ret) {pc' : Nat} (hpc : pc + 1 = pc') (hdg : decode cc pc = .ok (.dconst 1, 1)) (kk : zWo Y p l e R s m args below meth c nl k n kq σ lv (.double FP.dconst1 :: rest) pc' (o)) : zWo Y p l e R s m args below meth c nl k n kq σ lv (rest) pc (o) := by
  subst hpc
  intro r hr H locs ls hH hS hl
  exact lv_dconst1 cx.1 cx.2.1 hdg (kk r hr H locs ls hH hS hl)
theorem zr_iload_n (cx : zCx Y p s m args meth c own cc nl ret) {pc' : Nat} (hpc : pc + 1 = pc') (pl : Nat) {j : Fin 4} {i : Nat} {x : Int} (hdg : decode cc pc = .ok (.iload_n j, 1)) (hi : (j : Nat) = i) (hp : lv[pl]? = some (i, .int (i32 x))) (kk : zWo Y p l e R s m args below meth c nl k n kq σ lv (.int (i32 x) :: rest) pc' (o)) : zWo Y p l e R s m args below meth c nl k n kq σ lv (rest) pc (o) := by
  subst hpc
  intro r hr H locs ls hH hS hl
  exact lv_iload_n cx.1 cx.2.1 hdg hi (lv_at hl pl hp) (kk r hr H locs ls hH hS hl)
theorem zr_iload (cx : zCx Y p s m args meth c own cc nl ret) {pc' : Nat} (hpc : pc + 2 = pc') (pl : Nat) {i : Nat} {x : Int} (hdg : decode cc pc = .ok (.iload i, 2)) (hp : lv[pl]? = some (i, .int (i32 x))) (kk : zWo Y p l e R s m args below meth c nl k n kq σ lv (.int (i32 x) :: rest) pc' (o)) : zWo Y p l e R s m args below meth c nl k n kq σ lv (rest) pc (o) := by
  subst hpc
  intro r hr H locs ls hH hS hl
  exact lv_iload cx.1 cx.2.1 hdg (lv_at hl pl hp) (kk r hr H locs ls hH hS hl)
theorem zr_istore_n (cx : zCx Y p s m args meth c own cc nl ret) {pc' : Nat} (hpc : pc + 1 = pc') {j : Fin 4} {i : Nat} {x : Int} (hdg : decode cc pc = .ok (.istore_n j, 1)) (hi : (j : Nat) = i) (hn : i < nl) (hl' : (i, .int (i32 x)) :: lv.filter (fun q => !(q.1 == i) && !(q.1 + 1 == i && q.2.category == 2)) = lv') (kk : zWo Y p l e R s m args below meth c nl k n kq σ lv' (rest) pc' (o)) : zWo Y p l e R s m args below meth c nl k n kq σ lv (.int (i32 x) :: rest) pc (o) := by
  subst hpc
  intro r hr H locs ls hH hS hl
  exact lv_istore_n cx.1 cx.2.1 hdg hi hl hn hl' (fun ls hl => (kk r hr H locs ls hH hS hl))
theorem zr_istore (cx : zCx Y p s m args meth c own cc nl ret) {pc' : Nat} (hpc : pc + 2 = pc') {i : Nat} {x : Int} (hdg : decode cc pc = .ok (.istore i, 2)) (hn : i < nl) (hl' : (i, .int (i32 x)) :: lv.filter (fun q => !(q.1 == i) && !(q.1 + 1 == i && q.2.category == 2)) = lv') (kk : zWo Y p l e R s m args below meth c nl k n kq σ lv' (rest) pc' (o)) : zWo Y p l e R s m args below meth c nl k n kq σ lv (.int (i32 x) :: rest) pc (o) := by
  subst hpc
  intro r hr H locs ls hH hS hl
  exact lv_istore cx.1 cx.2.1 hdg hl hn hl' (fun ls hl => (kk r hr H locs ls hH hS hl))
theorem zr_lload_n (cx : zCx Y p s m args meth c own cc nl ret) {pc' : Nat} (hpc : pc + 1 = pc') (pl : Nat) {j : Fin 4} {i : Nat} {x : Int64} (hdg : decode cc pc = .ok (.lload_n j, 1)) (hi : (j : Nat) = i) (hp : lv[pl]? = some (i, .long x)) (kk : zWo Y p l e R s m args below meth c nl k n kq σ lv (.long x :: rest) pc' (o)) : zWo Y p l e R s m args below meth c nl k n kq σ lv (rest) pc (o) := by
  subst hpc
  intro r hr H locs ls hH hS hl
  exact lv_lload_n cx.1 cx.2.1 hdg hi (lv_at hl pl hp) (kk r hr H locs ls hH hS hl)
theorem zr_lload (cx : zCx Y p s m args meth c own cc nl ret) {pc' : Nat} (hpc : pc + 2 = pc') (pl : Nat) {i : Nat} {x : Int64} (hdg : decode cc pc = .ok (.lload i, 2)) (hp : lv[pl]? = some (i, .long x)) (kk : zWo Y p l e R s m args below meth c nl k n kq σ lv (.long x :: rest) pc' (o)) : zWo Y p l e R s m args below meth c nl k n kq σ lv (rest) pc (o) := by
  subst hpc
  intro r hr H locs ls hH hS hl
  exact lv_lload cx.1 cx.2.1 hdg (lv_at hl pl hp) (kk r hr H locs ls hH hS hl)
theorem zr_lstore_n (cx : zCx Y p s m args meth c own cc nl ret) {pc' : Nat} (hpc : pc + 1 = pc') {j : Fin 4} {i : Nat} {x : Int64} (hdg : decode cc pc = .ok (.lstore_n j, 1)) (hi : (j : Nat) = i) (hn : i + 1 < nl) (hl' : (i, .long x) :: lv.filter (fun q => !(q.1 == i) && (!(q.1 == i + 1) && !(q.1 + 1 == i && q.2.category == 2))) = lv') (kk : zWo Y p l e R s m args below meth c nl k n kq σ lv' (rest) pc' (o)) : zWo Y p l e R s m args below meth c nl k n kq σ lv (.long x :: rest) pc (o) := by
  subst hpc
  intro r hr H locs ls hH hS hl
  exact lv_lstore_n cx.1 cx.2.1 hdg hi hl hn hl' (fun ls hl => (kk r hr H locs ls hH hS hl))
theorem zr_lstore (cx : zCx Y p s m args meth c own cc nl ret) {pc' : Nat} (hpc : pc + 2 = pc') {i : Nat} {x : Int64} (hdg : decode cc pc = .ok (.lstore i, 2)) (hn : i + 1 < nl) (hl' : (i, .long x) :: lv.filter (fun q => !(q.1 == i) && (!(q.1 == i + 1) && !(q.1 + 1 == i && q.2.category == 2))) = lv') (kk : zWo Y p l e R s m args below meth c nl k n kq σ lv' (rest) pc' (o)) : zWo Y p l e R s m args below meth c nl k n kq σ lv (.long x :: rest) pc (o) := by
  subst hpc
  intro r hr H locs ls hH hS hl
  exact lv_lstore cx.1 cx.2.1 hdg hl hn hl' (fun ls hl => (kk r hr H locs ls hH hS hl))
theorem zr_dload_n (cx : zCx Y p s m args meth c own cc nl ret) {pc' : Nat} (hpc : pc + 1 = pc') (pl : Nat) {j : Fin 4} {i : Nat} {x : UInt64} (hdg : decode cc pc = .ok (.dload_n j, 1)) (hi : (j : Nat) = i) (hp : lv[pl]? = some (i, .double x)) (kk : zWo Y p l e R s m args below meth c nl k n kq σ lv (.double x :: rest) pc' (o)) : zWo Y p l e R s m args below meth c nl k n kq σ lv (rest) pc (o) := by
  subst hpc
  intro r hr H locs ls hH hS hl
  exact lv_dload_n cx.1 cx.2.1 hdg hi (lv_at hl pl hp) (kk r hr H locs ls hH hS hl)
theorem zr_dload (cx : zCx Y p s m args meth c own cc nl ret) {pc' : Nat} (hpc : pc + 2 = pc') (pl : Nat) {i : Nat} {x : UInt64} (hdg : decode cc pc = .ok (.dload i, 2)) (hp : lv[pl]? = some (i, .double x)) (kk : zWo Y p l e R s m args below meth c nl k n kq σ lv (.double x :: rest) pc' (o)) : zWo Y p l e R s m args below meth c nl k n kq σ lv (rest) pc (o) := by
  subst hpc
  intro r hr H locs ls hH hS hl
  exact lv_dload cx.1 cx.2.1 hdg (lv_at hl pl hp) (kk r hr H locs ls hH hS hl)
theorem zr_dstore_n (cx : zCx Y p s m args meth c own cc nl ret) {pc' : Nat} (hpc : pc + 1 = pc') {j : Fin 4} {i : Nat} {x : UInt64} (hdg : decode cc pc = .ok (.dstore_n j, 1)) (hi : (j : Nat) = i) (hn : i + 1 < nl) (hl' : (i, .double x) :: lv.filter (fun q => !(q.1 == i) && (!(q.1 == i + 1) && !(q.1 + 1 == i && q.2.category == 2))) = lv') (kk : zWo Y p l e R s m args below meth c nl k n kq σ lv' (rest) pc' (o)) : zWo Y p l e R s m args below meth c nl k n kq σ lv (.double x :: rest) pc (o) := by
  subst hpc
  intro r hr H locs ls hH hS hl
  exact lv_dstore_n cx.1 cx.2.1 hdg hi hl hn hl' (fun ls hl => (kk r hr H locs ls hH hS hl))
theorem zr_dstore (cx : zCx Y p s m args meth c own cc nl ret) {pc' : Nat} (hpc : pc + 2 = pc') {i : Nat} {x : UInt64} (hdg : decode cc pc = .ok (.dstore i, 2)) (hn : i + 1 < nl) (hl' : (i, .double x) :: lv.filter (fun q => !(q.1 == i) && (!(q.1 == i + 1) && !(q.1 + 1 == i && q.2.category == 2))) = lv') (kk : zWo Y p l e R s m args below meth c nl k n kq σ lv' (rest) pc' (o)) : zWo Y p l e R s m args below meth c nl k n kq σ lv (.double x :: rest) pc (o) := by
  subst hpc
  intro r hr H locs ls hH hS hl
  exact lv_dstore cx.1 cx.2.1 hdg hl hn hl' (fun ls hl => (kk r hr H locs ls hH hS hl))
theorem zr_aload_n (cx : zCx Y p s m args meth c own cc nl ret) {pc' : Nat} (hpc : pc + 1 = pc') (pl : Nat) {j : Fin 4} {i : Nat} {x : Nat} (hdg : decode cc pc = .ok (.aload_n j, 1)) (hi : (j : Nat) = i) (hp : lv[pl]? = some (i, .ref x)) (kk : zWo Y p l e R s m args below meth c nl k n kq σ lv (.ref x :: rest) pc' (o)) : zWo Y p l e R s m args below meth c nl k n kq σ lv (rest) pc (o) := by
  subst hpc
  intro r hr H locs ls hH hS hl
  exact lv_aload_n cx.1 cx.2.1 hdg hi (lv_at hl pl hp) (kk r hr H locs ls hH hS hl)
theorem zr_aload (cx : zCx Y p s m args meth c own cc nl ret) {pc' : Nat} (hpc : pc + 2 = pc') (pl : Nat) {i : Nat} {x : Nat} (hdg : decode cc pc = .ok (.aload i, 2)) (hp : lv[pl]? = some (i, .ref x)) (kk : zWo Y p l e R s m args below meth c nl k n kq σ lv (.ref x :: rest) pc' (o)) : zWo Y p l e R s m args below meth c nl k n kq σ lv (rest) pc (o) := by
  subst hpc
  intro r hr H locs ls hH hS hl
  exact lv_aload cx.1 cx.2.1 hdg (lv_at hl pl hp) (kk r hr H locs ls hH hS hl)
theorem zr_astore_n (cx : zCx Y p s m args meth c own cc nl ret) {pc' : Nat} (hpc : pc + 1 = pc') {j : Fin 4} {i : Nat} {x : Nat} (hdg : decode cc pc = .ok (.astore_n j, 1)) (hi : (j : Nat) = i) (hn : i < nl) (hl' : (i, .ref x) :: lv.filter (fun q => !(q.1 == i) && !(q.1 + 1 == i && q.2.category == 2)) = lv') (kk : zWo Y p l e R s m args below meth c nl k n kq σ lv' (rest) pc' (o)) : zWo Y p l e R s m args below meth c nl k n kq σ lv (.ref x :: rest) pc (o) := by
  subst hpc
  intro r hr H locs ls hH hS hl
  exact lv_astore_n cx.1 cx.2.1 hdg hi hl hn hl' (fun ls hl => (kk r hr H locs ls hH hS hl))
theorem zr_astore (cx : zCx Y p s m args meth c own cc nl ret) {pc' : Nat} (hpc : pc + 2 = pc') {i : Nat} {x : Nat} (hdg : decode cc pc = .ok (.astore i, 2)) (hn : i < nl) (hl' : (i, .ref x) :: lv.filter (fun q => !(q.1 == i) && !(q.1 + 1 == i && q.2.category == 2)) = lv') (kk : zWo Y p l e R s m args below meth c nl k n kq σ lv' (rest) pc' (o)) : zWo Y p l e R s m args below meth c nl k n kq σ lv (.ref x :: rest) pc (o) := by
  subst hpc
  intro r hr H locs ls hH hS hl
  exact lv_astore cx.1 cx.2.1 hdg hl hn hl' (fun ls hl => (kk r hr H locs ls hH hS hl))
theorem zr_iinc (cx : zCx Y p s m args meth c own cc nl ret) {pc' : Nat} (hpc : pc + 3 = pc') (pl : Nat) {i : Nat} {v : Int} {x : Int} (hdg : decode cc pc = .ok (.iinc i v, 3)) (hp : lv[pl]? = some (i, .int (i32 x))) (hn : i < nl) (hl' : (i, Value.int (i32 (x + v))) :: lv.filter (fun q => !(q.1 == i) && !(q.1 + 1 == i && q.2.category == 2)) = lv') (kk : zWo Y p l e R s m args below meth c nl k n kq σ lv' (rest) pc' (o)) : zWo Y p l e R s m args below meth c nl k n kq σ lv (rest) pc (o) := by
  subst hpc
  intro r hr H locs ls hH hS hl
  exact lv_iinc cx.1 cx.2.1 hdg hl (k := pl) hp (v := i32 (x + v)) (i32_add x v) hn hl' (fun ls hl => (kk r hr H locs ls hH hS hl))
theorem zr_iadd (cx : zCx Y p s m args meth c own cc nl ret) {pc' : Nat} (hpc : pc + 1 = pc') {x y : Int} (hdg : decode cc pc = .ok (.iadd, 1)) (kk : zWo Y p l e R s m args below meth c nl k n kq σ lv (.int (i32 (x + y)) :: rest) pc' (o)) : zWo Y p l e R s m args below meth c nl k n kq σ lv (.int (i32 y) :: .int (i32 x) :: rest) pc (o) := by
  subst hpc
  intro r hr H locs ls hH hS hl
  exact lv_iadd cx.1 cx.2.1 hdg (i32_add x y ▸ (kk r hr H locs ls hH hS hl))
theorem zr_isub (cx : zCx Y p s m args meth c own cc nl ret) {pc' : Nat} (hpc : pc + 1 = pc') {x y : Int} (hdg : decode cc pc = .ok (.isub, 1)) (kk : zWo Y p l e R s m args below meth c nl k n kq σ lv (.int (i32 (x - y)) :: rest) pc' (o)) : zWo Y p l e R s m args below meth c nl k n kq σ lv (.int (i32 y) :: .int (i32 x) :: rest) pc (o) := by
  subst hpc
  intro r hr H locs ls hH hS hl
  exact lv_isub cx.1 cx.2.1 hdg (i32_sub x y ▸ (kk r hr H locs ls hH hS hl))
theorem zr_imul (cx : zCx Y p s m args meth c own cc nl ret) {pc' : Nat} (hpc : pc + 1 = pc') {x y : Int} (hdg : decode cc pc = .ok (.imul, 1)) (kk : zWo Y p l e R s m args below meth c nl k n kq σ lv (.int (i32 (x * y)) :: rest) pc' (o)) : zWo Y p l e R s m args below meth c nl k n kq σ lv (.int (i32 y) :: .int (i32 x) :: rest) pc (o) := by
  subst hpc
  intro r hr H locs ls hH hS hl
  exact lv_imul cx.1 cx.2.1 hdg (i32_mul x y ▸ (kk r hr H locs ls hH hS hl))
theorem zr_idiv (cx : zCx Y p s m args meth c own cc nl ret) {pc' : Nat} (hpc : pc + 1 = pc') {x y : Int} (h0 : ¬ i32 y = 0) (hdg : decode cc pc = .ok (.idiv, 1)) (kk : zWo Y p l e R s m args below meth c nl k n kq σ lv (.int (i32 (zdv x y)) :: rest) pc' (o)) : zWo Y p l e R s m args below meth c nl k n kq σ lv (.int (i32 y) :: .int (i32 x) :: rest) pc (o) := by
  subst hpc
  intro r hr H locs ls hH hS hl
  refine lv_idiv cx.1 cx.2.1 hdg h0 ?_
  have h := (kk r hr H locs ls hH hS hl)
  rw [zdv, i32_of] at h
  exact h
theorem zr_irem (cx : zCx Y p s m args meth c own cc nl ret) {pc' : Nat} (hpc : pc + 1 = pc') {x y : Int} (h0 : ¬ i32 y = 0) (hdg : decode cc pc = .ok (.irem, 1)) (kk : zWo Y p l e R s m args below meth c nl k n kq σ lv (.int (i32 (zmo x y)) :: rest) pc' (o)) : zWo Y p l e R s m args below meth c nl k n kq σ lv (.int (i32 y) :: .int (i32 x) :: rest) pc (o) := by
  subst hpc
  intro r hr H locs ls hH hS hl
  refine lv_irem cx.1 cx.2.1 hdg h0 ?_
  have h := (kk r hr H locs ls hH hS hl)
  rw [zmo, i32_of] at h
  exact h
theorem zr_iand (cx : zCx Y p s m args meth c own cc nl ret) {pc' : Nat} (hpc : pc + 1 = pc') {x y : Int}  (hdg : decode cc pc = .ok (.iand, 1)) (kk : zWo Y p l e R s m args below meth c nl k n kq σ lv (.int (i32 (zan x y)) :: rest) pc' (o)) : zWo Y p l e R s m args below meth c nl k n kq σ lv (.int (i32 y) :: .int (i32 x) :: rest) pc (o) := by
  subst hpc
  intro r hr H locs ls hH hS hl
  refine lv_iand cx.1 cx.2.1 hdg ?_
  have h := (kk r hr H locs ls hH hS hl)
  rw [zan, i32_of] at h
  exact h
theorem zr_ior (cx : zCx Y p s m args meth c own cc nl ret) {pc' : Nat} (hpc : pc + 1 = pc') {x y : Int}  (hdg : decode cc pc = .ok (.ior, 1)) (kk : zWo Y p l e R s m args below meth c nl k n kq σ lv (.int (i32 (zor x y)) :: rest) pc' (o)) : zWo Y p l e R s m args below meth c nl k n kq σ lv (.int (i32 y) :: .int (i32 x) :: rest) pc (o) := by
  subst hpc
  intro r hr H locs ls hH hS hl
  refine lv_ior cx.1 cx.2.1 hdg ?_
  have h := (kk r hr H locs ls hH hS hl)
  rw [zor, i32_of] at h
  exact h
theorem zr_ishl (cx : zCx Y p s m args meth c own cc nl ret) {pc' : Nat} (hpc : pc + 1 = pc') {x y : Int}  (hdg : decode cc pc = .ok (.ishl, 1)) (kk : zWo Y p l e R s m args below meth c nl k n kq σ lv (.int (i32 (zsl x y)) :: rest) pc' (o)) : zWo Y p l e R s m args below meth c nl k n kq σ lv (.int (i32 y) :: .int (i32 x) :: rest) pc (o) := by
  subst hpc
  intro r hr H locs ls hH hS hl
  refine lv_ishl cx.1 cx.2.1 hdg ?_
  have h := (kk r hr H locs ls hH hS hl)
  rw [zsl, i32_of] at h
  exact h
theorem zr_ishr (cx : zCx Y p s m args meth c own cc nl ret) {pc' : Nat} (hpc : pc + 1 = pc') {x y : Int}  (hdg : decode cc pc = .ok (.ishr, 1)) (kk : zWo Y p l e R s m args below meth c nl k n kq σ lv (.int (i32 (zsr x y)) :: rest) pc' (o)) : zWo Y p l e R s m args below meth c nl k n kq σ lv (.int (i32 y) :: .int (i32 x) :: rest) pc (o) := by
  subst hpc
  intro r hr H locs ls hH hS hl
  refine lv_ishr cx.1 cx.2.1 hdg ?_
  have h := (kk r hr H locs ls hH hS hl)
  rw [zsr, i32_of] at h
  exact h
theorem zr_iushr (cx : zCx Y p s m args meth c own cc nl ret) {pc' : Nat} (hpc : pc + 1 = pc') {x y : Int} (hdg : decode cc pc = .ok (.iushr, 1)) (kk : zWo Y p l e R s m args below meth c nl k n kq σ lv (.int (i32 (zus x y)) :: rest) pc' (o)) : zWo Y p l e R s m args below meth c nl k n kq σ lv (.int (i32 y) :: .int (i32 x) :: rest) pc (o) := by
  subst hpc
  intro r hr H locs ls hH hS hl
  refine lv_iushr cx.1 cx.2.1 hdg rfl ?_
  have h := (kk r hr H locs ls hH hS hl)
  rw [zus, i32_of] at h
  exact h
theorem zr_iremC (cx : zCx Y p s m args meth c own cc nl ret) {pc' : Nat} (hpc : pc + 1 = pc') {x y : Int} (hdg : decode cc pc = .ok (.irem, 1)) (kk : zWo Y p l e R s m args below meth c nl k n kq σ lv (.int (i32 (zmo x y)) :: rest) pc' (o)) : zWo Y p l e R s m args below meth c nl k n kq σ lv (.int (i32 y) :: .int (i32 x) :: rest) pc ((zck (¬ i32 y = i32 0) o)) := by
  subst hpc
  intro r hr H locs ls hH hS hl
  obtain ⟨h0, hr⟩ := zck_some hr
  refine lv_irem cx.1 cx.2.1 hdg h0 ?_
  have h := (kk r hr H locs ls hH hS hl)
  rw [zmo, i32_of] at h
  exact h
theorem zr_ladd (cx : zCx Y p s m args meth c own cc nl ret) {pc' : Nat} (hpc : pc + 1 = pc') {x y : Int64} (hdg : decode cc pc = .ok (.ladd, 1)) (kk : zWo Y p l e R s m args below meth c nl k n kq σ lv (.long (x + y) :: rest) pc' (o)) : zWo Y p l e R s m args below meth c nl k n kq σ lv (.long y :: .long x :: rest) pc (o) := by
  subst hpc
  intro r hr H locs ls hH hS hl
  exact lv_ladd cx.1 cx.2.1 hdg (kk r hr H locs ls hH hS hl)
theorem zr_lmul (cx : zCx Y p s m args meth c own cc nl ret) {pc' : Nat} (hpc : pc + 1 = pc') {x y : Int64} (hdg : decode cc pc = .ok (.lmul, 1)) (kk : zWo Y p l e R s m args below meth c nl k n kq σ lv (.long (x * y) :: rest) pc' (o)) : zWo Y p l e R s m args below meth c nl k n kq σ lv (.long y :: .long x :: rest) pc (o) := by
  subst hpc
  intro r hr H locs ls hH hS hl
  exact lv_lmul cx.1 cx.2.1 hdg (kk r hr H locs ls hH hS hl)
theorem zr_lsub (cx : zCx Y p s m args meth c own cc nl ret) {pc' : Nat} (hpc : pc + 1 = pc') {x y : Int64} (hdg : decode cc pc = .ok (.lsub, 1)) (kk : zWo Y p l e R s m args below meth c nl k n kq σ lv (.long (x - y) :: rest) pc' (o)) : zWo Y p l e R s m args below meth c nl k n kq σ lv (.long y :: .long x :: rest) pc (o) := by
  subst hpc
  intro r hr H locs ls hH hS hl
  exact lv_lsub cx.1 cx.2.1 hdg (kk r hr H locs ls hH hS hl)
theorem zr_lshl (cx : zCx Y p s m args meth c own cc nl ret) {pc' : Nat} (hpc : pc + 1 = pc') {x : Int64} {y : Int} (hdg : decode cc pc = .ok (.lshl, 1)) (kk : zWo Y p l e R s m args below meth c nl k n kq σ lv (.long (x <<< ((i32 y).toInt64 &&& 63)) :: rest) pc' (o)) : zWo Y p l e R s m args below meth c nl k n kq σ lv (.int (i32 y) :: .long x :: rest) pc (o) := by
  subst hpc
  intro r hr H locs ls hH hS hl
  exact lv_lshl cx.1 cx.2.1 hdg rfl (kk r hr H locs ls hH hS hl)
theorem zr_i2l (cx : zCx Y p s m args meth c own cc nl ret) {pc' : Nat} (hpc : pc + 1 = pc') {x : Int} (hdg : decode cc pc = .ok (.i2l, 1)) (kk : zWo Y p l e R s m args below meth c nl k n kq σ lv (.long (i32 x).toInt64 :: rest) pc' (o)) : zWo Y p l e R s m args below meth c nl k n kq σ lv (.int (i32 x) :: rest) pc (o) := by
  subst hpc
  intro r hr H locs ls hH hS hl
  exact lv_i2l cx.1 cx.2.1 hdg rfl (kk r hr H locs ls hH hS hl)
theorem zr_lcmp (cx : zCx Y p s m args meth c own cc nl ret) {pc' : Nat} (hpc : pc + 1 = pc') {x y : Int64} (hdg : decode cc pc = .ok (.lcmp, 1)) (kk : zWo Y p l e R s m args below meth c nl k n kq σ lv (.int (i32 (zlc x y)) :: rest) pc' (o)) : zWo Y p l e R s m args below meth c nl k n kq σ lv (.long y :: .long x :: rest) pc (o) := by
  subst hpc
  intro r hr H locs ls hH hS hl
  refine W.lcmp cx.1 cx.2.1 hdg ?_
  have h := (kk r hr H locs ls hH hS hl)
  rw [zlc, i32_of] at h
  exact h
theorem zr_dcmp (cx : zCx Y p s m args meth c own cc nl ret) {pc' : Nat} (hpc : pc + 1 = pc') {x y : UInt64} {op : CmpOp} (hdg : decode cc pc = .ok (.dcmp op, 1)) (kk : zWo Y p l e R s m args below meth c nl k n kq σ lv (.int (i32 (zdc x y op)) :: rest) pc' (o)) : zWo Y p l e R s m args below meth c nl k n kq σ lv (.double y :: .double x :: rest) pc (o) := by
  subst hpc
  intro r hr H locs ls hH hS hl
  refine lv_dcmp cx.1 cx.2.1 hdg ?_
  have h := (kk r hr H locs ls hH hS hl)
  rw [zdc, i32_of] at h
  exact h
theorem zr_i2d (cx : zCx Y p s m args meth c own cc nl ret) {pc' : Nat} (hpc : pc + 1 = pc') {x : Int} (hdg : decode cc pc = .ok (.i2d, 1)) (kk : zWo Y p l e R s m args below meth c nl k n kq σ lv (.double (FP.i2d (i32 x)) :: rest) pc' (o)) : zWo Y p l e R s m args below meth c nl k n kq σ lv (.int (i32 x) :: rest) pc (o) := by
  subst hpc
  intro r hr H locs ls hH hS hl
  exact lv_i2d cx.1 cx.2.1 hdg (kk r hr H locs ls hH hS hl)
theorem zr_d2l (cx : zCx Y p s m args meth c own cc nl ret) {pc' : Nat} (hpc : pc + 1 = pc') {x : UInt64} (hdg : decode cc pc = .ok (.d2l, 1)) (kk : zWo Y p l e R s m args below meth c nl k n kq σ lv (.long (FP.d2l x) :: rest) pc' (o)) : zWo Y p l e R s m args below meth c nl k n kq σ lv (.double x :: rest) pc (o) := by
  subst hpc
  intro r hr H locs ls hH hS hl
  exact lv_d2l cx.1 cx.2.1 hdg (kk r hr H locs ls hH hS hl)
theorem zr_dmul (cx : zCx Y p s m args meth c own cc nl ret) {pc' : Nat} (hpc : pc + 1 = pc') {x y : UInt64} (hdg : decode cc pc = .ok (.dmul, 1)) (kk : zWo Y p l e R s m args below meth c nl k n kq σ lv (.double (FP.dmul x y) :: rest) pc' (o)) : zWo Y p l e R s m args below meth c nl k n kq σ lv (.double y :: .double x :: rest) pc ((zck (znb (FP.dmul x y) = true) o)) := by
  subst hpc
  intro r hr H locs ls hH hS hl
  obtain ⟨h, hr⟩ := zck_some hr
  exact lv_dmul cx.1 cx.2.1 hdg (znb_n h) (kk r hr H locs ls hH hS hl)
theorem zr_ddiv (cx : zCx Y p s m args meth c own cc nl ret) {pc' : Nat} (hpc : pc + 1 = pc') {x y : UInt64} (hdg : decode cc pc = .ok (.ddiv, 1)) (kk : zWo Y p l e R s m args below meth c nl k n kq σ lv (.double (FP.ddiv x y) :: rest) pc' (o)) : zWo Y p l e R s m args below meth c nl k n kq σ lv (.double y :: .double x :: rest) pc ((zck (znb (FP.ddiv x y) = true) o)) := by
  subst hpc
  intro r hr H locs ls hH hS hl
  obtain ⟨h, hr⟩ := zck_some hr
  exact lv_ddiv cx.1 cx.2.1 hdg (znb_n h) (kk r hr H locs ls hH hS hl)
theorem zr_dsub (cx : zCx Y p s m args meth c own cc nl ret) {pc' : Nat} (hpc : pc + 1 = pc') {x y : UInt64} (hdg : decode cc pc = .ok (.dsub, 1)) (kk : zWo Y p l e R s m args below meth c nl k n kq σ lv (.double (FP.dsub x y) :: rest) pc' (o)) : zWo Y p l e R s m args below meth c nl k n kq σ lv (.double y :: .double x :: rest) pc ((zck (znb (FP.dsub x y) = true) o)) := by
  subst hpc
  intro r hr H locs ls hH hS hl
  obtain ⟨h, hr⟩ := zck_some hr
  exact lv_dsub cx.1 cx.2.1 hdg (znb_n h) (kk r hr H locs ls hH hS hl)
theorem zr_dup (cx : zCx Y p s m args meth c own cc nl ret) {pc' : Nat} (hpc : pc + 1 = pc') {a : Value} (hdg : decode cc pc = .ok (.dup, 1)) (ha : a.category = 1) (kk : zWo Y p l e R s m args below meth c nl k n kq σ lv (a :: a :: rest) pc' (o)) : zWo Y p l e R s m args below meth c nl k n kq σ lv (a :: rest) pc (o) := by
  subst hpc
  intro r hr H locs ls hH hS hl
  exact lv_dup cx.1 cx.2.1 hdg ha (kk r hr H locs ls hH hS hl)
theorem zr_dup2 (cx : zCx Y p s m args meth c own cc nl ret) {pc' : Nat} (hpc : pc + 1 = pc') {a b : Value} (hdg : decode cc pc = .ok (.dup2, 1)) (ha : a.category = 1) (hb : b.category = 1) (kk : zWo Y p l e R s m args below meth c nl k n kq σ lv (a :: b :: a :: b :: rest) pc' (o)) : zWo Y p l e R s m args below meth c nl k n kq σ lv (a :: b :: rest) pc (o) := by
  subst hpc
  intro r hr H locs ls hH hS hl
  exact lv_dup2_11 cx.1 cx.2.1 hdg ha hb (kk r hr H locs ls hH hS hl)
theorem zr_pop (cx : zCx Y p s m args meth c own cc nl ret) {pc' : Nat} (hpc : pc + 1 = pc') {a : Value} (hdg : decode cc pc = .ok (.pop, 1)) (ha : a.category = 1) (kk : zWo Y p l e R s m args below meth c nl k n kq σ lv (rest) pc' (o)) : zWo Y p l e R s m args below meth c nl k n kq σ lv (a :: rest) pc (o) := by
  subst hpc
  intro r hr H locs ls hH hS hl
  exact lv_pop cx.1 cx.2.1 hdg ha (kk r hr H locs ls hH hS hl)
theorem zr_goto (cx : zCx Y p s m args meth c own cc nl ret) (hdg : decode cc pc = .ok (.goto off, 3)) (ht : (pc : Int) + off = (tgt : Int)) (kk : zWo Y p l e R s m args below meth c nl k n kq σ lv (rest) tgt (o)) : zWo Y p l e R s m args below meth c nl k n kq σ lv (rest) pc (o) := by
  intro r hr H locs ls hH hS hl
  exact lv_goto cx.1 cx.2.1 hdg ht (kk r hr H locs ls hH hS hl)
theorem zr_gotoS (cx : zCx Y p s m args meth c own cc nl ret) {st0 : List Value} (hdg : decode cc pc = .ok (.goto off, 3)) (ht : (pc : Int) + off = (tgt : Int)) (kk : zWo Y p l e R s m args below meth c nl k n kq σ lv (st0) tgt (o)) : zWo Y p l e R s m args below meth c nl k n kq σ lv (st0) pc (o) := by
  intro r hr H locs ls hH hS hl
  exact lv_goto cx.1 cx.2.1 hdg ht (kk r hr H locs ls hH hS hl)
theorem zr_if_eq (cx : zCx Y p s m args meth c own cc nl ret) {pc' : Nat} (hpc : pc + 3 = pc') {x : Int} (hdg : decode cc pc = .ok (.ifCond .eq off, 3)) (ht : (pc : Int) + off = (tgt : Int)) (kt : zWo Y p l e R s m args below meth c nl k n kq σ lv (rest) tgt (ot)) (kf : zWo Y p l e R s m args below meth c nl k n kq σ lv (rest) pc' (oe)) : zWo Y p l e R s m args below meth c nl k n kq σ lv (.int (i32 x) :: rest) pc ((if i32 x = i32 0 then ot else oe)) := by
  subst hpc
  intro r hr H locs ls hH hS hl
  exact lv_if_eq cx.1 cx.2.1 hdg ht (fun h => kt r ((hr.symm.trans (if_pos h)).symm) H locs ls hH hS hl) (fun h => kf r ((hr.symm.trans (if_neg h)).symm) H locs ls hH hS hl)
theorem zr_icmp_eq (cx : zCx Y p s m args meth c own cc nl ret) {pc' : Nat} (hpc : pc + 3 = pc') {x y : Int} (hdg : decode cc pc = .ok (.if_icmp .eq off, 3)) (ht : (pc : Int) + off = (tgt : Int)) (kt : zWo Y p l e R s m args below meth c nl k n kq σ lv (rest) tgt (ot)) (kf : zWo Y p l e R s m args below meth c nl k n kq σ lv (rest) pc' (oe)) : zWo Y p l e R s m args below meth c nl k n kq σ lv (.int (i32 y) :: .int (i32 x) :: rest) pc ((if i32 x = i32 y then ot else oe)) := by
  subst hpc
  intro r hr H locs ls hH hS hl
  exact lv_icmp_eq cx.1 cx.2.1 hdg ht (fun h => kt r ((hr.symm.trans (if_pos h)).symm) H locs ls hH hS hl) (fun h => kf r ((hr.symm.trans (if_neg h)).symm) H locs ls hH hS hl)
theorem zr_if_ne (cx : zCx Y p s m args meth c own cc nl ret) {pc' : Nat} (hpc : pc + 3 = pc') {x : Int} (hdg : decode cc pc = .ok (.ifCond .ne off, 3)) (ht : (pc : Int) + off = (tgt : Int)) (kt : zWo Y p l e R s m args below meth c nl k n kq σ lv (rest) tgt (ot)) (kf : zWo Y p l e R s m args below meth c nl k n kq σ lv (rest) pc' (oe)) : zWo Y p l e R s m args below meth c nl k n kq σ lv (.int (i32 x) :: rest) pc ((if i32 x = i32 0 then oe else ot)) := by
  subst hpc
  intro r hr H locs ls hH hS hl
  exact lv_if_ne cx.1 cx.2.1 hdg ht (fun h => kt r ((hr.symm.trans (if_neg h)).symm) H locs ls hH hS hl) (fun h => kf r ((hr.symm.trans (if_pos h)).symm) H locs ls hH hS hl)
theorem zr_icmp_ne (cx : zCx Y p s m args meth c own cc nl ret) {pc' : Nat} (hpc : pc + 3 = pc') {x y : Int} (hdg : decode cc pc = .ok (.if_icmp .ne off, 3)) (ht : (pc : Int) + off = (tgt : Int)) (kt : zWo Y p l e R s m args below meth c nl k n kq σ lv (rest) tgt (ot)) (kf : zWo Y p l e R s m args below meth c nl k n kq σ lv (rest) pc' (oe)) : zWo Y p l e R s m args below meth c nl k n kq σ lv (.int (i32 y) :: .int (i32 x) :: rest) pc ((if i32 x = i32 y then oe else ot)) := by
  subst hpc
  intro r hr H locs ls hH hS hl
  exact lv_icmp_ne cx.1 cx.2.1 hdg ht (fun h => kt r ((hr.symm.trans (if_neg h)).symm) H locs ls hH hS hl) (fun h => kf r ((hr.symm.trans (if_pos h)).symm) H locs ls hH hS hl)
theorem zr_if_lt (cx : zCx Y p s m args meth c own cc nl ret) {pc' : Nat} (hpc : pc + 3 = pc') {x : Int} (hdg : decode cc pc = .ok (.ifCond .lt off, 3)) (ht : (pc : Int) + off = (tgt : Int)) (kt : zWo Y p l e R s m args below meth c nl k n kq σ lv (rest) tgt (ot)) (kf : zWo Y p l e R s m args below meth c nl k n kq σ lv (rest) pc' (oe)) : zWo Y p l e R s m args below meth c nl k n kq σ lv (.int (i32 x) :: rest) pc ((if i32 x < i32 0 then ot else oe)) := by
  subst hpc
  intro r hr H locs ls hH hS hl
  exact lv_if_lt cx.1 cx.2.1 hdg ht (fun h => kt r ((hr.symm.trans (if_pos h)).symm) H locs ls hH hS hl) (fun h => kf r ((hr.symm.trans (if_neg h)).symm) H locs ls hH hS hl)
theorem zr_icmp_lt (cx : zCx Y p s m args meth c own cc nl ret) {pc' : Nat} (hpc : pc + 3 = pc') {x y : Int} (hdg : decode cc pc = .ok (.if_icmp .lt off, 3)) (ht : (pc : Int) + off = (tgt : Int)) (kt : zWo Y p l e R s m args below meth c nl k n kq σ lv (rest) tgt (ot)) (kf : zWo Y p l e R s m args below meth c nl k n kq σ lv (rest) pc' (oe)) : zWo Y p l e R s m args below meth c nl k n kq σ lv (.int (i32 y) :: .int (i32 x) :: rest) pc ((if i32 x < i32 y then ot else oe)) := by
  subst hpc
  intro r hr H locs ls hH hS hl
  exact lv_icmp_lt cx.1 cx.2.1 hdg ht (fun h => kt r ((hr.symm.trans (if_pos h)).symm) H locs ls hH hS hl) (fun h => kf r ((hr.symm.trans (if_neg h)).symm) H locs ls hH hS hl)
theorem zr_if_ge (cx : zCx Y p s m args meth c own cc nl ret) {pc' : Nat} (hpc : pc + 3 = pc') {x : Int} (hdg : decode cc pc = .ok (.ifCond .ge off, 3)) (ht : (pc : Int) + off = (tgt : Int)) (kt : zWo Y p l e R s m args below meth c nl k n kq σ lv (rest) tgt (ot)) (kf : zWo Y p l e R s m args below meth c nl k n kq σ lv (rest) pc' (oe)) : zWo Y p l e R s m args below meth c nl k n kq σ lv (.int (i32 x) :: rest) pc ((if i32 x < i32 0 then oe else ot)) := by
  subst hpc
  intro r hr H locs ls hH hS hl
  exact lv_if_ge cx.1 cx.2.1 hdg ht (fun h => kt r ((hr.symm.trans (if_neg (Int32.not_lt.mpr h))).symm) H locs ls hH hS hl) (fun h => kf r ((hr.symm.trans (if_pos (Int32.not_le.mp h))).symm) H locs ls hH hS hl)
theorem zr_icmp_ge (cx : zCx Y p s m args meth c own cc nl ret) {pc' : Nat} (hpc : pc + 3 = pc') {x y : Int} (hdg : decode cc pc = .ok (.if_icmp .ge off, 3)) (ht : (pc : Int) + off = (tgt : Int)) (kt : zWo Y p l e R s m args below meth c nl k n kq σ lv (rest) tgt (ot)) (kf : zWo Y p l e R s m args below meth c nl k n kq σ lv (rest) pc' (oe)) : zWo Y p l e R s m args below meth c nl k n kq σ lv (.int (i32 y) :: .int (i32 x) :: rest) pc ((if i32 x < i32 y then oe else ot)) := by
  subst hpc
  intro r hr H locs ls hH hS hl
  exact lv_icmp_ge cx.1 cx.2.1 hdg ht (fun h => kt r ((hr.symm.trans (if_neg (Int32.not_lt.mpr h))).symm) H locs ls hH hS hl) (fun h => kf r ((hr.symm.trans (if_pos (Int32.not_le.mp h))).symm) H locs ls hH hS hl)
theorem zr_if_gt (cx : zCx Y p s m args meth c own cc nl ret) {pc' : Nat} (hpc : pc + 3 = pc') {x : Int} (hdg : decode cc pc = .ok (.ifCond .gt off, 3)) (ht : (pc : Int) + off = (tgt : Int)) (kt : zWo Y p l e R s m args below meth c nl k n kq σ lv (rest) tgt (ot)) (kf : zWo Y p l e R s m args below meth c nl k n kq σ lv (rest) pc' (oe)) : zWo Y p l e R s m args below meth c nl k n kq σ lv (.int (i32 x) :: rest) pc ((if i32 0 < i32 x then ot else oe)) := by
  subst hpc
  intro r hr H locs ls hH hS hl
  exact lv_if_gt cx.1 cx.2.1 hdg ht (fun h => kt r ((hr.symm.trans (if_pos h)).symm) H locs ls hH hS hl) (fun h => kf r ((hr.symm.trans (if_neg h)).symm) H locs ls hH hS hl)
theorem zr_icmp_gt (cx : zCx Y p s m args meth c own cc nl ret) {pc' : Nat} (hpc : pc + 3 = pc') {x y : Int} (hdg : decode cc pc = .ok (.if_icmp .gt off, 3)) (ht : (pc : Int) + off = (tgt : Int)) (kt : zWo Y p l e R s m args below meth c nl k n kq σ lv (rest) tgt (ot)) (kf : zWo Y p l e R s m args below meth c nl k n kq σ lv (rest) pc' (oe)) : zWo Y p l e R s m args below meth c nl k n kq σ lv (.int (i32 y) :: .int (i32 x) :: rest) pc ((if i32 y < i32 x then ot else oe)) := by
  subst hpc
  intro r hr H locs ls hH hS hl
  exact lv_icmp_gt cx.1 cx.2.1 hdg ht (fun h => kt r ((hr.symm.trans (if_pos h)).symm) H locs ls hH hS hl) (fun h => kf r ((hr.symm.trans (if_neg h)).symm) H locs ls hH hS hl)
theorem zr_if_le (cx : zCx Y p s m args meth c own cc nl ret) {pc' : Nat} (hpc : pc + 3 = pc') {x : Int} (hdg : decode cc pc = .ok (.ifCond .le off, 3)) (ht : (pc : Int) + off = (tgt : Int)) (kt : zWo Y p l e R s m args below meth c nl k n kq σ lv (rest) tgt (ot)) (kf : zWo Y p l e R s m args below meth c nl k n kq σ lv (rest) pc' (oe)) : zWo Y p l e R s m args below meth c nl k n kq σ lv (.int (i32 x) :: rest) pc ((if i32 0 < i32 x then oe else ot)) := by
  subst hpc
  intro r hr H locs ls hH hS hl
  exact lv_if_le cx.1 cx.2.1 hdg ht (fun h => kt r ((hr.symm.trans (if_neg (Int32.not_lt.mpr h))).symm) H locs ls hH hS hl) (fun h => kf r ((hr.symm.trans (if_pos (Int32.not_le.mp h))).symm) H locs ls hH hS hl)
theorem zr_icmp_le (cx : zCx Y p s m args meth c own cc nl ret) {pc' : Nat} (hpc : pc + 3 = pc') {x y : Int} (hdg : decode cc pc = .ok (.if_icmp .le off, 3)) (ht : (pc : Int) + off = (tgt : Int)) (kt : zWo Y p l e R s m args below meth c nl k n kq σ lv (rest) tgt (ot)) (kf : zWo Y p l e R s m args below meth c nl k n kq σ lv (rest) pc' (oe)) : zWo Y p l e R s m args below meth c nl k n kq σ lv (.int (i32 y) :: .int (i32 x) :: rest) pc ((if i32 y < i32 x then oe else ot)) := by
  subst hpc
  intro r hr H locs ls hH hS hl
  exact lv_icmp_le cx.1 cx.2.1 hdg ht (fun h => kt r ((hr.symm.trans (if_neg (Int32.not_lt.mpr h))).symm) H locs ls hH hS hl) (fun h => kf r ((hr.symm.trans (if_pos (Int32.not_le.mp h))).symm) H locs ls hH hS hl)
theorem zr_sub (is : List Nat) (hs : lv_pick lv is = lv') (kk : zWo Y p l e R s m args below meth c nl k n kq σ lv' (rest) pc (o)) : zWo Y p l e R s m args below meth c nl k n kq σ lv (rest) pc (o) := by
  intro r hr H locs ls hH hS hl
  exact kk r hr H locs ls hH hS (lv_sub hl is hs)
theorem zr_leti {v : Int} {f : Int → Option ρ} (kk : ∀ x : Int, zWo Y p l e R s m args below meth c nl k n kq σ lv (.int (i32 x) :: rest) pc (f x)) : zWo Y p l e R s m args below meth c nl k n kq σ lv (.int (i32 v) :: rest) pc (zlet v f) := kk v
theorem zr_letl {v : Int64} {f : Int64 → Option ρ} (kk : ∀ x : Int64, zWo Y p l e R s m args below meth c nl k n kq σ lv (.long x :: rest) pc (f x)) : zWo Y p l e R s m args below meth c nl k n kq σ lv (.long v :: rest) pc (zlet v f) := kk v
theorem zr_letd {v : UInt64} {f : UInt64 → Option ρ} (kk : ∀ x : UInt64, zWo Y p l e R s m args below meth c nl k n kq σ lv (.double x :: rest) pc (f x)) : zWo Y p l e R s m args below meth c nl k n kq σ lv (.double v :: rest) pc (zlet v f) := kk v
theorem zr_letS {f : zSt → Option ρ} (kk : ∀ σ' : zSt, zWo Y p l e R s m args below meth c nl k n kq σ' lv (rest) pc (f σ')) : zWo Y p l e R s m args below meth c nl k n kq σ lv (rest) pc (zlet σ f) := kk σ
theorem zr_letr {v : Nat} (hv : zV Y v = 6) {f : Nat → Option ρ} (kk : ∀ r : Nat, zV Y r = 6 → zWo Y p l e R s m args below meth c nl k n kq σ lv (.ref (zad Y r) :: rest) pc (f r)) : zWo Y p l e R s m args below meth c nl k n kq σ lv (.ref (zad Y v) :: rest) pc (zlet v f) := kk v hv
theorem zne {x k : Int} (h : ¬ i32 x = i32 k) (hk : (i32 k).toInt = k) : (i32 x).toInt ≠ k := fun q => h (Int32.toInt_inj.mp (q.trans hk.symm))
theorem zr_none {st0 : List Value} : zWo Y p l e R s m args below meth c nl k n kq σ lv (st0) pc (none) := fun r hr => nomatch hr
theorem zr_tabOut (cx : zCx Y p s m args meth c own cc nl ret) {x dflt lo hi : Int} {offs : Array Int} {len : Nat} (hdg : decode cc pc = .ok (.tableswitch dflt lo hi offs, len)) (h : (i32 x).toInt < lo ∨ hi < (i32 x).toInt) (ht : (pc : Int) + dflt = (tgt : Int)) (kk : zWo Y p l e R s m args below meth c nl k n kq σ lv (rest) tgt (o)) : zWo Y p l e R s m args below meth c nl k n kq σ lv (.int (i32 x) :: rest) pc (o) := by
  intro r hr H locs ls hH hS hl
  exact lv_tableOut cx.1 cx.2.1 hdg h ht (kk r hr H locs ls hH hS hl)
theorem zr_tabIn (cx : zCx Y p s m args meth c own cc nl ret) {x dflt lo hi : Int} {offs : Array Int} {len : Nat} (hdg : decode cc pc = .ok (.tableswitch dflt lo hi offs, len)) {v : Int} (hv : (i32 x).toInt = v) (h1 : lo ≤ v ∧ v ≤ hi) (ho : offs[(v - lo).toNat]? = some off) (ht : (pc : Int) + off = (tgt : Int)) (kk : zWo Y p l e R s m args below meth c nl k n kq σ lv (rest) tgt (o)) : zWo Y p l e R s m args below meth c nl k n kq σ lv (.int (i32 x) :: rest) pc (o) := by
  intro r hr H locs ls hH hS hl
  subst hv
  exact lv_tableIn cx.1 cx.2.1 hdg (Int.not_lt.mpr h1.1) (Int.not_lt.mpr h1.2) ho ht (kk r hr H locs ls hH hS hl)
theorem zr_look (cx : zCx Y p s m args meth c own cc nl ret) {x dflt : Int} {ps : Array (Int × Int)} {len : Nat} (hdg : decode cc pc = .ok (.lookupswitch dflt ps, len)) (hp : (ps.toList.zip (ps.toList.drop 1)).all (fun (a, next) => a.1 < next.1) = true) (ho : Op.lookupswitch.offset ps.toList dflt (i32 x).toInt = off) (ht : (pc : Int) + off = (tgt : Int)) (kk : zWo Y p l e R s m args below meth c nl k n kq σ lv (rest) tgt (o)) : zWo Y p l e R s m args below meth c nl k n kq σ lv (.int (i32 x) :: rest) pc (o) := by
  intro r hr H locs ls hH hS hl
  exact lv_lookup cx.1 cx.2.1 hdg hp ho ht (kk r hr H locs ls hH hS hl)
theorem zr_case {cnd : Prop} [Decidable cnd] {st0 : List Value} (kt : cnd → zWo Y p l e R s m args below meth c nl k n kq σ lv (st0) pc (ot)) (kf : ¬ cnd → zWo Y p l e R s m args below meth c nl k n kq σ lv (st0) pc (oe)) : zWo Y p l e R s m args below meth c nl k n kq σ lv (st0) pc ((if cnd then ot else oe)) := by
  intro r hr H locs ls hH hS hl
  by_cases h : cnd
  · rw [if_pos h] at hr
    exact kt h r hr H locs ls hH hS hl
  · rw [if_neg h] at hr
    exact kf h r hr H locs ls hH hS hl
end ZROWS
