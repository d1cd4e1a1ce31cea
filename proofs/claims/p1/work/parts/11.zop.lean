/-! the machine over bounds: states, what a step's soundness is -/
abbrev ZS : Type := Nat × List (Nat × AV) × List AV × VS × T2 AC × Nat × Nat
abbrev ZO : Type := Nat × AV × VS × T2 AC × Nat × Nat
abbrev ZCall : Type := Nat → List AV → VS → T2 AC → Nat → Nat → Nat → Option (List ZO)
abbrev ZE : Type := ZCall × Nat × Nat × Nat × Nat × Bool
abbrev ZR : Type := Option (List ZS × List ZO)
abbrev ZH : Type := ZE → List (Nat × AV) → List AV → VS → T2 AC → Nat → Nat → ZR
abbrev ZM : Type := MethodName × ByteArray × Nat × Option FieldType × Nat × Nat × Nat
def z_bd {α β : Type} (o : Option α) (f : α → Option β) : Option β := match o with
  | some a => f a
  | none => none
def z_if {α : Type} (b : Bool) (o : Option α) : Option α := match b with
  | true => o
  | false => none
theorem z_bdI {α β : Type} {o : Option α} {f : α → Option β} {r : β} (h : z_bd o f = some r) : ∃ a, o = some a ∧ f a = some r := by
  cases o with
  | none => cases h
  | some a => exact ⟨a, rfl, h⟩
theorem z_ifI {α : Type} {b : Bool} {o : Option α} {r : α} (h : z_if b o = some r) : b = true ∧ o = some r := by
  cases b with
  | false => cases h
  | true => exact ⟨rfl, h⟩
def z_p1 (l : List AV) : Option (AV × List AV) := match l with
  | a :: r => some (a, r)
  | [] => none
theorem z_p1I {l : List AV} {q : AV × List AV} (h : z_p1 l = some q) : l = q.1 :: q.2 := by
  cases l with
  | nil => cases h
  | cons a r => cases h; rfl
def z_and (a b : Bool) : Bool := match a with
  | true => b
  | false => false
theorem z_andI {a b : Bool} (h : z_and a b = true) : a = true ∧ b = true := by cases a <;> cases b <;> simp_all [z_and]
def z_ri (k : Nat) : Instr := match k with
  | 0 => .return_
  | 1 => .ireturn
  | _ => .lreturn
def z_rv (k : Nat) (v : Value) : List Value := match k with
  | 0 => []
  | _ => [v]
/-- the world of a walk over bounds -/
def z_P (D : va_G) (K : Nat → ClassId) (B b : Nat) (s : State) (ν0 : Nat → Int) (nv0 k0 nL : Nat) (loc : List (Nat × AV)) (stk : List AV) (V : VS) (h : T2 AC) (n : Nat) (ν : Nat → Int) (σ : Nat → va_E) (H : Heap) (locs : List Loc) (ls : Array Slot) (vs : List Value) : Prop :=
  (∀ i, i < nv0 → ν i = ν0 i) ∧ nv0 ≤ z_len V ∧ k0 ≤ n ∧ z_sat ν V ∧ z_hm ν (z_len V) B b K h n σ ∧ z_lm ν (z_len V) B b loc ls nL ∧ z_fm (z_mt ν (z_len V) B b) stk vs ∧ hw D B n σ s H locs
def z_W (D : va_G) (K : Nat → ClassId) (B b : Nat) (p : Program) (l : Launch) (e : Env) (R : Room) (s : State) (m : MethodId) (args : Array Value) (below : List Frame) (meth : Method) (c : Code) (Q : State → Prop) (ν0 : Nat → Int) (nv0 k0 nL : Nat) (st : ZS) : Prop :=
  ∀ (ν : Nat → Int) (σ : Nat → va_E) (H : Heap) (locs : List Loc) (ls : Array Slot) (vs : List Value), z_P D K B b s ν0 nv0 k0 nL st.2.1 st.2.2.1 st.2.2.2.1 st.2.2.2.2.1 st.2.2.2.2.2.1 ν σ H locs ls vs → W p l e R s m args below meth c H locs (st.2.2.2.2.2.1 - k0) st.2.2.2.2.2.2 Q (F0 m st.1 ls vs)
/-- behind a return's value -/
def z_T (D : va_G) (K : Nat → ClassId) (B b : Nat) (p : Program) (l : Launch) (e : Env) (R : Room) (s : State) (m : MethodId) (args : Array Value) (below : List Frame) (meth : Method) (c : Code) (cc : ByteArray) (Q : State → Prop) (ν0 : Nat → Int) (nv0 k0 nL : Nat) (o : ZO) : Prop :=
  ∀ (ν : Nat → Int) (σ : Nat → va_E) (H : Heap) (locs : List Loc) (ls : Array Slot) (v : Value) (pc : Nat), z_P D K B b s ν0 nv0 k0 nL [] [] o.2.2.1 o.2.2.2.1 o.2.2.2.2.1 ν σ H locs ls [] → (o.1 ≠ 0 → z_mt ν (z_len o.2.2.1) B b o.2.1 v) → decode cc pc = .ok (z_ri o.1, 1) → W p l e R s m args below meth c H locs (o.2.2.2.2.1 - k0) o.2.2.2.2.2 Q (F0 m pc ls (z_rv o.1 v))
/-- what a call brings -/
def z_post (K : Nat → ClassId) (B b : Nat) (outs : List ZO) (ν : Nat → Int) (nv n' rk : Nat) (v : Value) (u : Nat → va_E) : Prop :=
  ∃ o ∈ outs, ∃ ν' : Nat → Int, (∀ i, i < nv → ν' i = ν i) ∧ nv ≤ z_len o.2.2.1 ∧ z_sat ν' o.2.2.1 ∧ z_hm ν' (z_len o.2.2.1) B b K o.2.2.2.1 n' u ∧ (rk ≠ 0 → z_mt ν' (z_len o.2.2.1) B b o.2.1 v) ∧ o.2.2.2.2.1 = n'
def z_Q (D : va_G) (K : Nat → ClassId) (B b : Nat) (outs : List ZO) (ν : Nat → Int) (nv n' rk : Nat) : Array Value → State → Outcome → State → Prop := match rk with
  | 0 => va_Qv (fun u => z_post K B b outs ν nv n' 0 .null u) (Bv D B n') (fr B)
  | 1 => va_Qi (fun r u => z_post K B b outs ν nv n' 1 (.int r) u) (Bv D B n') (fr B)
  | _ => va_Ql (fun r u => z_post K B b outs ν nv n' 2 (.long r) u) (Bv D B n') (fr B)
def z_M (ms : List ZM) (l : Launch) (D : va_G) (K : Nat → ClassId) (B b : Nat) (q : Nat) (args : List AV) (V : VS) (h : T2 AC) (n f lo : Nat) (outs : List ZO) : Prop :=
  ∃ M : ZM, z_nth ms q = some M ∧ ∀ (ν : Nat → Int) (σ : Nat → va_E) (av : List Value), z_sat ν V → z_hm ν (z_len V) B b K h n σ → z_fm (z_mt ν (z_len V) B b) args av →
    Met l M.1 (wb M.1 M.2.1 M.2.2.1 M.2.2.2.1) (rmOf f lo M.2.2.2.2.2.1 M.2.2.2.2.2.2) (va_Pc av (PZ D K B n σ)) (z_Q D K B b outs ν (z_len V) (n + M.2.2.2.2.2.1) M.2.2.2.2.1) M.2.2.2.2.2.1 M.2.2.2.2.2.2 (fr B)
/-- the law's script: numbers 0 .. 5 are its ints, number 6 its length -/
def z_law (s : State) (B b : Nat) (ν0 : Nat → Int) (nv0 : Nat) : Prop := ∃ (L : Nat) (xs : Nat → Int32), va_X b L xs s s.heap ∧ b < s.heap.size ∧ b < B ∧ 7 ≤ nv0 ∧ L ≤ 6 ∧ (∀ i, i < 6 → ν0 i = (xs i).toInt) ∧ ν0 6 = L
def z_C (ms : List ZM) (D : va_G) (K : Nat → ClassId) (B b : Nat) (p : Program) (l : Launch) (R : Room) (s : State) (m : MethodId) (args : Array Value) (meth : Method) (c : Code) (own mn : String) (cc : ByteArray) (ν0 : Nat → Int) (nv0 k0 nL : Nat) (E : ZE) : Prop :=
  CX p s m args c cc nL own D K ∧ meth.name = mn ∧ E.2.1 ≤ R.frames ∧ E.2.2.1 ≤ R.locals ∧ E.2.2.2.1 ≤ k0 + R.cells ∧ E.2.2.2.2.1 ≤ R.slots ∧ s.heap.size = B + k0 ∧ (E.2.2.2.2.2 = true → z_law s B b ν0 nv0) ∧ ∀ (q : Nat) (a : List AV) (V : VS) (h : T2 AC) (n f lo : Nat) (outs : List ZO), E.1 q a V h n f lo = some outs → z_M ms l D K B b q a V h n f lo outs
def z_sound (ms : List ZM) (own mn : String) (cc : ByteArray) (nL pc : Nat) (f : ZH) : Prop :=
  ∀ (D : va_G) (K : Nat → ClassId) (B b : Nat) (p : Program) (l : Launch) (e : Env) (R : Room) (s : State) (m : MethodId) (args : Array Value) (below : List Frame) (meth : Method) (c : Code) (Q : State → Prop) (ν0 : Nat → Int) (nv0 k0 : Nat) (E : ZE), z_C ms D K B b p l R s m args meth c own mn cc ν0 nv0 k0 nL E →
  ∀ (loc : List (Nat × AV)) (stk : List AV) (V : VS) (h : T2 AC) (n sl : Nat) (res : List ZS × List ZO), f E loc stk V h n sl = some res →
  (∀ st ∈ res.1, z_W D K B b p l e R s m args below meth c Q ν0 nv0 k0 nL st) → (∀ o ∈ res.2, z_T D K B b p l e R s m args below meth c cc Q ν0 nv0 k0 nL o) →
  z_W D K B b p l e R s m args below meth c Q ν0 nv0 k0 nL (pc, loc, stk, V, h, n, sl)
