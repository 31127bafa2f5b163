/-- the tables' good words: every method's list behind its own code -/
def zG : List Cond := lw_tbl.filter goodWord
theorem zG_good : ∀ w ∈ zG, goodWord w = true := fun w h => (List.mem_filter.mp h).2
theorem zG_mem {w : Cond} (i : Nat) (h : lw_tbl[i]? = some w) (g : goodWord w = true) : w ∈ zG := List.mem_filter.mpr ⟨List.mem_of_getElem? h, g⟩
theorem zG_in {w0 : Cond} {ws : List Cond} (h : ∀ w ∈ ws, w ∈ zG) : GoodIn zG ws := fun w hw => ⟨h w hw, good_of_word (zG_good w (h w hw))⟩
theorem zG_call {y : MethodName} {code : ByteArray} {n : Nat} {ret : Option FieldType} (h : Cond.code y code n ret ∈ zG) : ∀ w ∈ Cond.code y code n ret :: zG, w ∈ zG := fun w hw => (List.mem_cons.mp hw).elim (fun e => e ▸ h) id
