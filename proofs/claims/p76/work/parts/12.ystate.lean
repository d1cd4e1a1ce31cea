/-! texts and statics below the world; states; what a step's soundness is -/
abbrev ZT : Type := String × Nat × String × List Int32
def z_XS (S : List ZT) (β : ZB) (U : State) (H : Heap) : Prop :=
  va_Z "java/lang/String" "COMPACT_STRINGS" "Z" (.int 1) (fr β.1) U H ∧ (va_Zq "jdk/internal/util/Preconditions" "SIOOBE_FORMATTER" "Ljava/util/function/BiFunction;" (fr β.1) U H ∧ va_T .int β.2.1 (β.2.2.1 999) (fun j => .int (Int32.ofNat (β.2.2.1 (1000 + j)))) (fr β.1) U H) ∧
  ∀ (i : Nat) (q : ZT), z_nth S i = some q → vk_R q.1 q.2.1 q.2.2.1 (β.2.2.1 i) U ∧ va_O "java/lang/String" (β.2.2.1 i) (fr β.1) U H ∧ va_OF "java/lang/String" "coder" "B" (.int 0) (β.2.2.1 i) (fr β.1) U H ∧ va_OF "java/lang/String" "value" "[B" (.ref (β.2.2.2 i)) (β.2.2.1 i) (fr β.1) U H ∧ va_T .byte (β.2.2.2 i) q.2.2.2.length (fun j => .int (q.2.2.2.getD j 0)) (fr β.1) U H
theorem z_XS.to {S : List ZT} {β : ZB} {s U : State} {H : Heap} {locs : List Loc} (h : z_XS S β s s.heap) (hS : va_S (fr β.1) s.heap H locs) (hU : U.heap = H) (hW : s.WarmedH U.vm) : z_XS S β U U.heap := by
  rw [hU]
  obtain ⟨h1, ⟨h2, hT⟩, h3⟩ := h
  refine ⟨(h1.kept hS.2.1).moved hW.alike, ⟨(h2.kept hS.2.1).moved hW.alike, va_T.moved hW.alike (hT.kept hS.2.1)⟩, fun i q hq => ?_⟩
  obtain ⟨g1, g2, g3, g4, g5⟩ := h3 i q hq
  exact ⟨g1.warm hW, va_O.moved hW.alike (g2.kept hS.2.1), va_OF.moved hW.alike (g3.kept hS.2.1), va_OF.moved hW.alike (g4.kept hS.2.1), va_T.moved hW.alike (g5.kept hS.2.1)⟩
def PS (S : List ZT) (D : va_G) (K : Nat → ClassId) (β : ZB) (n : Nat) (σ : Nat → va_E) : State → Prop := fun U => U.heap.size = β.1 + n ∧ hv D β.1 n σ U.heap ∧ KK D K U ∧ z_XS S β U U.heap
abbrev ZS : Type := Nat × List (Nat × AV) × List AV × VS × T2 AC × Nat × Nat
abbrev ZO : Type := Nat × AV × VS × T2 AC × Nat × Nat × List (Nat × AV) × Nat
abbrev ZCall : Type := Nat → List AV → VS → T2 AC → Nat → Nat → Nat → Option (List ZO)
abbrev ZE : Type := ZCall × Nat × Nat × Nat × Nat × Bool
abbrev ZR : Type := Option (List ZS × List ZO)
abbrev ZH : Type := ZE → List (Nat × AV) → List AV → VS → T2 AC → Nat → Nat → ZR
abbrev ZM : Type := MethodName × ByteArray × Nat × Option FieldType × Nat × Nat × Nat
def z_bd {α β : Type} (o : Option α) (f : α → Option β) : Option β := match o with
  | some a => f a
  | none => none
def z_if {α : Type} (b : Bool) (o : Option α) : Option α := match b with
  | true => o
  | false => none
theorem z_bdI {α β : Type} {o : Option α} {f : α → Option β} {r : β} (h : z_bd o f = some r) : ∃ a, o = some a ∧ f a = some r := by
  cases o with
  | none => cases h
  | some a => exact ⟨a, rfl, h⟩
theorem z_ifI {α : Type} {b : Bool} {o : Option α} {r : α} (h : z_if b o = some r) : b = true ∧ o = some r := by
  cases b with
  | false => cases h
  | true => exact ⟨rfl, h⟩
def z_p1 (l : List AV) : Option (AV × List AV) := match l with
  | a :: r => some (a, r)
  | [] => none
theorem z_p1I {l : List AV} {q : AV × List AV} (h : z_p1 l = some q) : l = q.1 :: q.2 := by
  cases l with
  | nil => cases h
  | cons a r => cases h; rfl
def z_and (a b : Bool) : Bool := match a with
  | true => b
  | false => false
theorem z_andI {a b : Bool} (h : z_and a b = true) : a = true ∧ b = true := by cases a <;> cases b <;> simp_all [z_and]
def z_ri (k : Nat) : Instr := match k with
  | 0 => .return_
  | 1 => .ireturn
  | _ => .lreturn
def z_rv (k : Nat) (v : Value) : List Value := match k with
  | 0 => []
  | _ => [v]
section YS
variable (D : va_G) (K : Nat → ClassId) (β : ZB) (p : Program) (l : Launch) (e : Env) (R : Room) (s : State) (m : MethodId) (args : Array Value) (below : List Frame) (meth : Method) (c : Code) (cc : ByteArray) (Q : State → Prop) (σ0 : Nat → va_E) (ν0 : Nat → Int) (nv0 k0 nL : Nat)
/-- the world of a walk -/
def z_P (loc : List (Nat × AV)) (stk : List AV) (V : VS) (h : T2 AC) (n : Nat) (ν : Nat → Int) (σ : Nat → va_E) (H : Heap) (locs : List Loc) (ls : Array Slot) (vs : List Value) : Prop :=
  (∀ i, i < nv0 → ν i = ν0 i) ∧ nv0 ≤ z_len V.1 ∧ k0 ≤ n ∧ z_sat ν V ∧ z_hm ν (z_len V.1) β K σ0 h n σ ∧ z_lm ν (z_len V.1) β loc ls nL ∧ z_fm (z_mt ν (z_len V.1) β) stk vs ∧ hw D β.1 n σ s H locs
def z_W (st : ZS) : Prop :=
  ∀ (ν : Nat → Int) (σ : Nat → va_E) (H : Heap) (locs : List Loc) (ls : Array Slot) (vs : List Value), z_P D K β s σ0 ν0 nv0 k0 nL st.2.1 st.2.2.1 st.2.2.2.1 st.2.2.2.2.1 st.2.2.2.2.2.1 ν σ H locs ls vs → W p l e R s m args below meth c H locs (st.2.2.2.2.2.1 - k0) st.2.2.2.2.2.2 Q (F0 m st.1 ls vs)
/-- behind a return's value; kinds of 10 and above: at a cut point -/
def z_T (o : ZO) : Prop := if o.1 < 10 then
  ∀ (ν : Nat → Int) (σ : Nat → va_E) (H : Heap) (locs : List Loc) (ls : Array Slot) (v : Value) (pc : Nat), z_P D K β s σ0 ν0 nv0 k0 nL [] [] o.2.2.1 o.2.2.2.1 o.2.2.2.2.1 ν σ H locs ls [] → (o.1 ≠ 0 → z_mt ν (z_len o.2.2.1.1) β o.2.1 v) → decode cc pc = .ok (z_ri o.1, 1) → W p l e R s m args below meth c H locs (o.2.2.2.2.1 - k0) o.2.2.2.2.2.1 Q (F0 m pc ls (z_rv o.1 v))
  else z_W D K β p l e R s m args below meth c Q σ0 ν0 nv0 k0 nL (o.2.2.2.2.2.2.2, o.2.2.2.2.2.2.1, [], o.2.2.1, o.2.2.2.1, o.2.2.2.2.1, o.2.2.2.2.2.1)
end YS
/-- what a call brings -/
def z_post (K : Nat → ClassId) (β : ZB) (σ0 : Nat → va_E) (outs : List ZO) (ν : Nat → Int) (nv n' rk : Nat) (v : Value) (u : Nat → va_E) : Prop :=
  ∃ o ∈ outs, ∃ ν' : Nat → Int, (∀ i, i < nv → ν' i = ν i) ∧ nv ≤ z_len o.2.2.1.1 ∧ z_sat ν' o.2.2.1 ∧ z_hm ν' (z_len o.2.2.1.1) β K σ0 o.2.2.2.1 n' u ∧ (rk ≠ 0 → z_mt ν' (z_len o.2.2.1.1) β o.2.1 v) ∧ o.2.2.2.2.1 = n'
def z_Q (D : va_G) (K : Nat → ClassId) (β : ZB) (σ0 : Nat → va_E) (outs : List ZO) (ν : Nat → Int) (nv n' rk : Nat) : Array Value → State → Outcome → State → Prop := match rk with
  | 0 => va_Qv (fun u => z_post K β σ0 outs ν nv n' 0 .null u) (Bv D β.1 n') (fr β.1)
  | 1 => va_Qi (fun r u => z_post K β σ0 outs ν nv n' 1 (.int r) u) (Bv D β.1 n') (fr β.1)
  | _ => va_Ql (fun r u => z_post K β σ0 outs ν nv n' 2 (.long r) u) (Bv D β.1 n') (fr β.1)
def z_M (S : List ZT) (ms : List ZM) (l : Launch) (D : va_G) (K : Nat → ClassId) (β : ZB) (q : Nat) (args : List AV) (V : VS) (h : T2 AC) (n f lo : Nat) (outs : List ZO) : Prop :=
  ∃ M : ZM, z_nth ms q = some M ∧ ∀ (ν : Nat → Int) (σ σ0 : Nat → va_E) (av : List Value), z_sat ν V → z_hm ν (z_len V.1) β K σ0 h n σ → z_fm (z_mt ν (z_len V.1) β) args av →
    Met l M.1 (wb M.1 M.2.1 M.2.2.1 M.2.2.2.1) (rmOf f lo M.2.2.2.2.2.1 M.2.2.2.2.2.2) (va_Pc av (PS S D K β n σ)) (z_Q D K β σ0 outs ν (z_len V.1) (n + M.2.2.2.2.2.1) M.2.2.2.2.1) M.2.2.2.2.2.1 M.2.2.2.2.2.2 (fr β.1)
def z_C (S : List ZT) (ms : List ZM) (D : va_G) (K : Nat → ClassId) (β : ZB) (p : Program) (l : Launch) (R : Room) (s : State) (m : MethodId) (args : Array Value) (meth : Method) (c : Code) (own mn : String) (cc : ByteArray) (k0 nL : Nat) (E : ZE) : Prop :=
  CX p s m args c cc nL own D K ∧ meth.name = mn ∧ E.2.1 ≤ R.frames ∧ E.2.2.1 ≤ R.locals ∧ E.2.2.2.1 ≤ k0 + R.cells ∧ E.2.2.2.2.1 ≤ R.slots ∧ s.heap.size = β.1 + k0 ∧ z_XS S β s s.heap ∧ ∀ (q : Nat) (a : List AV) (V : VS) (h : T2 AC) (n f lo : Nat) (outs : List ZO), E.1 q a V h n f lo = some outs → z_M S ms l D K β q a V h n f lo outs
def z_sound (S : List ZT) (ms : List ZM) (own mn : String) (cc : ByteArray) (nL pc : Nat) (f : ZH) : Prop :=
  ∀ (D : va_G) (K : Nat → ClassId) (β : ZB) (p : Program) (l : Launch) (e : Env) (R : Room) (s : State) (m : MethodId) (args : Array Value) (below : List Frame) (meth : Method) (c : Code) (Q : State → Prop) (σ0 : Nat → va_E) (ν0 : Nat → Int) (nv0 k0 : Nat) (E : ZE), z_C S ms D K β p l R s m args meth c own mn cc k0 nL E →
  ∀ (loc : List (Nat × AV)) (stk : List AV) (V : VS) (h : T2 AC) (n sl : Nat) (res : List ZS × List ZO), f E loc stk V h n sl = some res →
  (∀ st ∈ res.1, z_W D K β p l e R s m args below meth c Q σ0 ν0 nv0 k0 nL st) → (∀ o ∈ res.2, z_T D K β p l e R s m args below meth c cc Q σ0 ν0 nv0 k0 nL o) →
  z_W D K β p l e R s m args below meth c Q σ0 ν0 nv0 k0 nL (pc, loc, stk, V, h, n, sl)
