/-! my world: the cells from address B on, n of them, what each holds is told by a map of places; every contract speaks of the same words -/
def isNest : Cond → Bool
  | .fieldLinkNest _ _ _ _ _ _ => true
  | .methodLinkNest _ _ _ _ => true
  | _ => false
def bw : List Cond := lw_tbl.filter goodWord
def nst : List Cond := lw_tbl.filter isNest
def wb (y : MethodName) (c : ByteArray) (n : Nat) (r : Option FieldType) : List Cond := .code y c n r :: bw
theorem bw_of {w : Cond} {i : Nat} (h : tables_1[i]? = some w) (g : goodWord w = true) : w ∈ bw := List.mem_filter.mpr ⟨List.mem_append_right _ (List.mem_of_getElem? h), g⟩
theorem bw_ofS {w : Cond} {i : Nat} (h : (k2_sels lw_privs)[i]? = some w) (g : goodWord w = true) : w ∈ bw := List.mem_filter.mpr ⟨List.mem_append_left _ (List.mem_of_getElem? h), g⟩
theorem nst_of {w : Cond} {i : Nat} (h : tables_1[i]? = some w) (g : isNest w = true) : w ∈ nst := List.mem_filter.mpr ⟨List.mem_append_right _ (List.mem_of_getElem? h), g⟩
theorem good_bw : GoodIn bw bw := fun _ h => ⟨h, good_of_word (List.mem_filter.mp h).2⟩
theorem good_wb {y : MethodName} {c : ByteArray} {n : Nat} {r : Option FieldType} (h : Cond.code y c n r ∈ bw) : GoodIn bw (wb y c n r) := fun w hw => (List.mem_cons.mp hw).elim (fun e => e ▸ good_bw _ h) (good_bw w)
/-- a class's number, its words, types, names -/
def CIn (ci : Nat) (C : String) (T : u_T) (N : Nat) (ty0 : Nat → FieldType) : Prop := vwCl[ci]? = some (C, T, N) ∧ (∀ w ∈ u_ws C T N, w ∈ bw) ∧ (∀ k, k < N → parseFieldDescriptor (T k).2.2.1 = some (ty0 k)) ∧ (∀ a, a < N → ∀ b, b < N → a ≠ b → (T a).2.1 ≠ (T b).2.1)
def Kw (y : MethodName) (bytes : ByteArray) (maxL : Nat) (ret : Option FieldType) (na : Nat) : Prop := Cond.code y bytes maxL ret ∈ bw ∧ Cond.initialized y.cls ∈ bw ∧ (y.cls ≠ "java/lang/invoke/MethodHandle" ∧ y.cls ≠ "java/lang/invoke/VarHandle" ∧ (parseMethodDescriptor y.desc).map (fun d => d.parameters.length) = some na)
def KwV (y : MethodName) : Prop := Cond.instanceMethod y ∈ bw ∧ Cond.selects y.cls y y ∈ bw
def KwS (y : MethodName) : Prop := Cond.static y ∈ bw
def KwI (y : MethodName) : Prop := Cond.instanceMethod y ∈ bw ∧ y.name = "<init>"
