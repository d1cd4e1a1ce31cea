/-! contracts over my world, and calls -/
def PW (D : va_G) (K : Nat → ClassId) (B n : Nat) (σ : Nat → va_E) : State → Prop := fun U => hv D B n σ U.heap ∧ KK D K U
def PZ (D : va_G) (K : Nat → ClassId) (B n : Nat) (σ : Nat → va_E) : State → Prop := fun U => U.heap.size = B + n ∧ hv D B n σ U.heap ∧ KK D K U
abbrev rmOf (f lo mc ms : Nat) : Room := { frames := f, cells := mc, slots := ms, locals := lo }
abbrev Bv (D : va_G) (B n : Nat) : (Nat → va_E) → State → Prop := fun σ t => hv D B n σ t.heap
def Mi (l : Launch) (y : MethodName) (cc : ByteArray) (nL : Nat) (rt : FieldType) (f lo : Nat) (D : va_G) (K : Nat → ClassId) (B n : Nat) (av : List Value) (σ : Nat → va_E) (post : Int32 → (Nat → va_E) → Prop) : Prop :=
  Met l y (wb y cc nL (some rt)) (rmOf f lo 0 0) (va_Pc av (PW D K B n σ)) (va_Qi post (Bv D B n) (fr B)) 0 0 (fr B)
def Ml (l : Launch) (y : MethodName) (cc : ByteArray) (nL : Nat) (f lo : Nat) (D : va_G) (K : Nat → ClassId) (B n : Nat) (av : List Value) (σ : Nat → va_E) (post : Int64 → (Nat → va_E) → Prop) : Prop :=
  Met l y (wb y cc nL (some .long)) (rmOf f lo 0 0) (va_Pc av (PW D K B n σ)) (va_Ql post (Bv D B n) (fr B)) 0 0 (fr B)
def Mv (l : Launch) (y : MethodName) (cc : ByteArray) (nL : Nat) (f lo : Nat) (D : va_G) (K : Nat → ClassId) (B n : Nat) (av : List Value) (σ : Nat → va_E) (post : (Nat → va_E) → Prop) : Prop :=
  Met l y (wb y cc nL none) (rmOf f lo 0 0) (va_Pc av (PW D K B n σ)) (va_Qv post (Bv D B n) (fr B)) 0 0 (fr B)
/-- a constructor: cells come -/
def Mc (l : Launch) (y : MethodName) (cc : ByteArray) (nL : Nat) (f lo mc ms : Nat) (D : va_G) (K : Nat → ClassId) (B n : Nat) (av : List Value) (σ : Nat → va_E) (post : (Nat → va_E) → Prop) : Prop :=
  Met l y (wb y cc nL none) (rmOf f lo mc ms) (va_Pc av (PZ D K B n σ)) (va_Qv post (Bv D B (n + mc)) (fr B)) mc ms (fr B)
section HC
variable {p : Program} {l : Launch} {e : Env} {R : Room} {s : State} {m : MethodId} {args : Array Value} {below : List Frame} {meth : Method} {c : Code} {H : Heap} {locs : List Loc} {cells slots : Nat} {Q : State → Prop} {cc : ByteArray} {pc : Nat} {ls : Array Slot} {rest st0 : List Value} {D : va_G} {K : Nat → ClassId} {B n : Nat} {σ : Nat → va_E} {own : String} {nL : Nat}
  {y : MethodName} {bytes : ByteArray} {maxL mc ms na index f lo : Nat} {ret : Option FieldType} {Qc : Array Value → State → Outcome → State → Prop} {free : Addr → Prop} {host : String} {i ci : Nat} {As av : List Value} {T : u_T} {N : Nat} {fs : List Value}
theorem blindW : FrameBlind (va_Pc av (PW D K B n σ)) := fun _ _ _ _ q => ⟨q.1, q.2.1, q.2.2.calling⟩
theorem blindZ : FrameBlind (va_Pc av (PZ D K B n σ)) := fun _ _ _ _ q => ⟨q.1, q.2.1, q.2.2.1, q.2.2.2.calling⟩
theorem preW (X : CX p s m args c cc nL own D K) (hH : hw D B n σ s H locs) : ∀ U : State, U.heap = H → s.WarmedH U.vm → va_Pc av (PW D K B n σ) av.toArray U := fun U hU hW => ⟨rfl, by rw [hU]; exact hH.1, X.2.2.2.2.2.warm hW⟩
theorem preZ (X : CX p s m args c cc nL own D K) (hz : H.size = B + n) (hH : hw D B n σ s H locs) : ∀ U : State, U.heap = H → s.WarmedH U.vm → va_Pc av (PZ D K B n σ) av.toArray U := fun U hU hW => ⟨rfl, by rw [hU]; exact hz, by rw [hU]; exact hH.1, X.2.2.2.2.2.warm hW⟩
theorem recvW (X : CX p s m args c cc nL own D K) (hH : hw D B n σ s H locs) (hi : i < n) (he : σ i = .inr (ci, fs)) (hc : vwCl[ci]? = some (y.cls, T, N)) : ∃ cellB : Cell, H[B + i]? = some cellB ∧ cellB.vm.isStatics = false ∧ s.vm.findClass y.cls = some cellB.cls := va_recv X.vk hH.1 hc (wl_get hi he)
theorem cbW (X : CX p s m args c cc nL own D K) (J : Kw y bytes maxL ret na) (hl : Cond.methodLink own index y ∈ bw) (hR : f + 1 ≤ R.frames ∧ 8 + (maxL + 11) + lo ≤ R.locals) : CallB R s args own index y bytes maxL ret (wb y bytes maxL ret) (rmOf f lo mc ms) mc ms na :=
  callB_of na X.2.2.2.2.1 (good_wb J.1) rfl rfl rfl (X.w J.2.1) (X.w hl) J.2.2 hR
theorem cnW (X : CX p s m args c cc nL own D K) (J : Kw y bytes maxL ret na) (hl : Cond.methodLinkNest own index y host ∈ nst) (hR : f + 1 ≤ R.frames ∧ 8 + (maxL + 11) + lo ≤ R.locals) : va_CN R s args own index y host bytes maxL ret (wb y bytes maxL ret) (rmOf f lo mc ms) mc ms na :=
  va_cnB na X.2.2.2.2.1 (good_wb J.1) rfl rfl rfl (X.2.2.2.2.2.2.1 _ hl) (X.w J.2.1) J.2.2 hR
abbrev cfW (X : CX p s m args c cc nL own D K) : CallFix p m c cc nL s args bw own := ⟨X.1, X.2.1, X.2.2.1, X.2.2.2.1, X.2.2.2.2.1⟩
/-- a call of an instance method of the own class (link), of a nest mate's (N), of a static one, of a constructor -/
theorem hp_rV (X : CX p s m args c cc nL own D K) (hH : hw D B n σ s H locs) (hM : Met l y (wb y bytes maxL ret) (rmOf f lo 0 0) (va_Pc (.ref (B + i) :: As) (PW D K B n σ)) Qc 0 0 free) (J : Kw y bytes maxL ret na) (JV : KwV y) (hl : Cond.methodLink own index y ∈ bw) (hi : i < n) (he : σ i = .inr (ci, fs)) (hc : vwCl[ci]? = some (y.cls, T, N)) (hAs : As.length = na) (hst : st0 = As.reverse ++ .ref (B + i) :: rest) (hR : f + 1 ≤ R.frames ∧ 8 + (maxL + 11) + lo ≤ R.locals) (hls : ls.size = nL) (hcat : (rest.map fun v => v.category).sum ≤ 8) (hd : decode cc pc = .ok (.invokevirtual index, 3)) (hf : cells ≤ R.cells ∧ slots ≤ R.slots) :
    va_Run p l e R s m args below meth c H locs cells slots 0 0 (F0 m pc ls st0) rest (Qc (.ref (B + i) :: As).toArray) free :=
  va_runV (cfW X) hM ⟨cbW X J hl hR, X.w JV.1, X.w JV.2⟩ ⟨blindW, recvW X hH hi he hc, preW X hH⟩ rfl hAs hls hst (lv_room hcat) hd hf
theorem hp_rVN (X : CX p s m args c cc nL own D K) (hH : hw D B n σ s H locs) (hM : Met l y (wb y bytes maxL ret) (rmOf f lo 0 0) (va_Pc (.ref (B + i) :: As) (PW D K B n σ)) Qc 0 0 free) (J : Kw y bytes maxL ret na) (JV : KwV y) (hl : Cond.methodLinkNest own index y host ∈ nst) (hi : i < n) (he : σ i = .inr (ci, fs)) (hc : vwCl[ci]? = some (y.cls, T, N)) (hAs : As.length = na) (hst : st0 = As.reverse ++ .ref (B + i) :: rest) (hR : f + 1 ≤ R.frames ∧ 8 + (maxL + 11) + lo ≤ R.locals) (hls : ls.size = nL) (hcat : (rest.map fun v => v.category).sum ≤ 8) (hd : decode cc pc = .ok (.invokevirtual index, 3)) (hf : cells ≤ R.cells ∧ slots ≤ R.slots) :
    va_Run p l e R s m args below meth c H locs cells slots 0 0 (F0 m pc ls st0) rest (Qc (.ref (B + i) :: As).toArray) free :=
  va_runVN (cfW X) hM ⟨cnW X J hl hR, X.w JV.1, X.w JV.2⟩ ⟨blindW, recvW X hH hi he hc, preW X hH⟩ rfl hAs hls hst (lv_room hcat) hd hf
theorem hp_rS (X : CX p s m args c cc nL own D K) (hH : hw D B n σ s H locs) (hM : Met l y (wb y bytes maxL ret) (rmOf f lo 0 0) (va_Pc As (PW D K B n σ)) Qc 0 0 free) (J : Kw y bytes maxL ret na) (JV : KwS y) (hl : Cond.methodLink own index y ∈ bw) (hAs : As.length = na) (hst : st0 = As.reverse ++ rest) (hR : f + 1 ≤ R.frames ∧ 8 + (maxL + 11) + lo ≤ R.locals) (hls : ls.size = nL) (hcat : (rest.map fun v => v.category).sum ≤ 8) (hd : decode cc pc = .ok (.invokestatic index, 3)) (hf : cells ≤ R.cells ∧ slots ≤ R.slots) :
    va_Run p l e R s m args below meth c H locs cells slots 0 0 (F0 m pc ls st0) rest (Qc As.toArray) free :=
  va_runS (cfW X) hM ⟨cbW X J hl hR, X.w JV⟩ ⟨blindW, preW X hH⟩ rfl hAs hls hst (lv_room hcat) hd hf
theorem hp_rSN (X : CX p s m args c cc nL own D K) (hH : hw D B n σ s H locs) (hM : Met l y (wb y bytes maxL ret) (rmOf f lo 0 0) (va_Pc As (PW D K B n σ)) Qc 0 0 free) (J : Kw y bytes maxL ret na) (JV : KwS y) (hl : Cond.methodLinkNest own index y host ∈ nst) (hAs : As.length = na) (hst : st0 = As.reverse ++ rest) (hR : f + 1 ≤ R.frames ∧ 8 + (maxL + 11) + lo ≤ R.locals) (hls : ls.size = nL) (hcat : (rest.map fun v => v.category).sum ≤ 8) (hd : decode cc pc = .ok (.invokestatic index, 3)) (hf : cells ≤ R.cells ∧ slots ≤ R.slots) :
    va_Run p l e R s m args below meth c H locs cells slots 0 0 (F0 m pc ls st0) rest (Qc As.toArray) free :=
  va_runSN (cfW X) hM ⟨cnW X J hl hR, X.w JV, trivial⟩ ⟨blindW, preW X hH⟩ rfl hAs hls hst (lv_room hcat) hd hf
theorem hp_rI (X : CX p s m args c cc nL own D K) (hz : H.size = B + n) (hH : hw D B n σ s H locs) (hM : Met l y (wb y bytes maxL none) (rmOf f lo mc ms) (va_Pc (.ref (B + i) :: As) (PZ D K B n σ)) Qc mc ms free) (J : Kw y bytes maxL none na) (JV : KwI y) (hl : Cond.methodLink own index y ∈ bw) (hAs : As.length = na) (hst : st0 = As.reverse ++ .ref (B + i) :: rest) (hR : f + 1 ≤ R.frames ∧ 8 + (maxL + 11) + lo ≤ R.locals) (hls : ls.size = nL) (hcat : (rest.map fun v => v.category).sum ≤ 8) (hd : decode cc pc = .ok (.invokespecial index, 3)) (hf : cells + mc ≤ R.cells ∧ slots + ms ≤ R.slots) :
    va_Run p l e R s m args below meth c H locs cells slots mc ms (F0 m pc ls st0) rest (Qc (.ref (B + i) :: As).toArray) free :=
  va_runI (cfW X) hM ⟨cbW X J hl hR, JV.2, X.w JV.1⟩ ⟨blindZ, preZ X hz hH⟩ rfl hAs hls hst (lv_room hcat) hd hf
theorem hp_rIN (X : CX p s m args c cc nL own D K) (hz : H.size = B + n) (hH : hw D B n σ s H locs) (hM : Met l y (wb y bytes maxL none) (rmOf f lo mc ms) (va_Pc (.ref (B + i) :: As) (PZ D K B n σ)) Qc mc ms free) (J : Kw y bytes maxL none na) (JV : KwI y) (hl : Cond.methodLinkNest own index y host ∈ nst) (hAs : As.length = na) (hst : st0 = As.reverse ++ .ref (B + i) :: rest) (hR : f + 1 ≤ R.frames ∧ 8 + (maxL + 11) + lo ≤ R.locals) (hls : ls.size = nL) (hcat : (rest.map fun v => v.category).sum ≤ 8) (hd : decode cc pc = .ok (.invokespecial index, 3)) (hf : cells + mc ≤ R.cells ∧ slots + ms ≤ R.slots) :
    va_Run p l e R s m args below meth c H locs cells slots mc ms (F0 m pc ls st0) rest (Qc (.ref (B + i) :: As).toArray) free :=
  va_runIN (cfW X) hM ⟨cnW X J hl hR, JV.2, X.w JV.1⟩ ⟨blindZ, preZ X hz hH⟩ rfl hAs hls hst (lv_room hcat) hd hf
/-- behind a call -/
theorem hp_i {post : Int32 → (Nat → va_E) → Prop} {a : Array Value} (hr : va_Run p l e R s m args below meth c H locs cells slots 0 0 (F0 m pc ls st0) rest (va_Qi post (Bv D B n) (fr B) a) (fr B)) (hH : hw D B n σ s H locs)
    (kk : ∀ (r : Int32) (σ : Nat → va_E) (H : Heap) (locs : List Loc), post r σ → hw D B n σ s H locs → W p l e R s m args below meth c H locs cells slots Q (F0 m (pc + 3) ls (.int r :: rest))) : W p l e R s m args below meth c H locs cells slots Q (F0 m pc ls st0) :=
  va_calli hr hH.2 (fun _ _ h => h) (fun _ h => h) (fun r u t H1 locs1 ht _ hp hB _ _ hS => kk r u H1 locs1 hp ⟨by rw [← ht]; exact hB, hS⟩)
theorem hp_l {post : Int64 → (Nat → va_E) → Prop} {a : Array Value} (hr : va_Run p l e R s m args below meth c H locs cells slots 0 0 (F0 m pc ls st0) rest (va_Ql post (Bv D B n) (fr B) a) (fr B)) (hH : hw D B n σ s H locs)
    (kk : ∀ (r : Int64) (σ : Nat → va_E) (H : Heap) (locs : List Loc), post r σ → hw D B n σ s H locs → W p l e R s m args below meth c H locs cells slots Q (F0 m (pc + 3) ls (.long r :: rest))) : W p l e R s m args below meth c H locs cells slots Q (F0 m pc ls st0) :=
  va_calll hr hH.2 (fun _ _ h => h) (fun _ h => h) (fun r u t H1 locs1 ht _ hp hB _ _ hS => kk r u H1 locs1 hp ⟨by rw [← ht]; exact hB, hS⟩)
theorem hp_v {n' : Nat} {post : (Nat → va_E) → Prop} {a : Array Value} (hr : va_Run p l e R s m args below meth c H locs cells slots mc ms (F0 m pc ls st0) rest (va_Qv post (Bv D B n') (fr B) a) (fr B)) (hH : hw D B n σ s H locs)
    (kk : ∀ (σ : Nat → va_E) (H : Heap) (locs : List Loc), post σ → hw D B n' σ s H locs → W p l e R s m args below meth c H locs (cells + mc) (slots + ms) Q (F0 m (pc + 3) ls rest)) : W p l e R s m args below meth c H locs cells slots Q (F0 m pc ls st0) :=
  va_callv hr hH.2 (fun _ _ h => h) (fun _ h => h) (fun u t H1 locs1 ht _ hp hB _ _ hS => kk u H1 locs1 hp ⟨by rw [← ht]; exact hB, hS⟩)
end HC
section HM
variable {l : Launch} {y : MethodName} {cc : ByteArray} {nL : Nat} {rt : FieldType} {f lo mc ms : Nat} {D : va_G} {K : Nat → ClassId} {B n : Nat} {av : List Value} {σ : Nat → va_E}
theorem cx_of {p : Program} {e : Env} {s : State} {m : MethodId} {args : Array Value} {below : List Frame} {meth : Method} {c : Code} {s₁ : State} {ret : Option FieldType} {rm : Room} (X : BodyLoose p l y (headSpec (wb y cc nL ret) rm) cc nL ret e s m args below meth c s₁) (hml : c.maxLocals = nL) (hk : KK D K s) : CX p s m args c cc nL y.cls D K :=
  ⟨X.exec, X.bytes, hml, findClass_of_methodNamed X.named, fun w h => atoms_spec (ws := wb y cc nL ret) X.pre w (List.mem_cons_of_mem _ h), hk⟩
/-- a contract out of a walk from the entry -/
theorem Mi_of {post : Int32 → (Nat → va_E) → Prop} (hy : plainName y.cls = true) (hn : (lg_sl av).length ≤ nL) {lv : List (Nat × Value)} (hlv : lv_args 0 av = lv)
    (body : ∀ (p : Program) (e : Env) (s : State) (m : MethodId) (below : List Frame) (meth : Method) (c : Code), CX p s m av.toArray c cc nL y.cls D K → meth.sig.returnType = some rt → meth.locks = false → hw D B n σ s s.heap [] → ∀ ls : Array Slot, lv_has ls nL lv → W p l e (rmOf f lo 0 0) s m av.toArray below meth c s.heap [] 0 0 (MQ below (va_Qi post (Bv D B n) (fr B)) av.toArray s 0 0 (fr B)) (F0 m 0 ls [])) : Mi l y cc nL rt f lo D K B n av σ post := by
  refine Met.ofW (cc := cc) (maxL := nL) (ret := some rt) hy rfl ?_
  intro p e s m args below meth c s₁ X hml hv
  obtain ⟨rfl, hP, hk⟩ := hv
  rw [lg_entry_eq]
  subst hlv
  exact body p e s m below meth c (cx_of X hml hk) X.returns X.notSynchronized ⟨hP, va_S.rf⟩ _ (lv_entry av hn)
theorem Ml_of {post : Int64 → (Nat → va_E) → Prop} (hy : plainName y.cls = true) (hn : (lg_sl av).length ≤ nL) {lv : List (Nat × Value)} (hlv : lv_args 0 av = lv)
    (body : ∀ (p : Program) (e : Env) (s : State) (m : MethodId) (below : List Frame) (meth : Method) (c : Code), CX p s m av.toArray c cc nL y.cls D K → meth.sig.returnType = some .long → meth.locks = false → hw D B n σ s s.heap [] → ∀ ls : Array Slot, lv_has ls nL lv → W p l e (rmOf f lo 0 0) s m av.toArray below meth c s.heap [] 0 0 (MQ below (va_Ql post (Bv D B n) (fr B)) av.toArray s 0 0 (fr B)) (F0 m 0 ls [])) : Ml l y cc nL f lo D K B n av σ post := by
  refine Met.ofW (cc := cc) (maxL := nL) (ret := some .long) hy rfl ?_
  intro p e s m args below meth c s₁ X hml hv
  obtain ⟨rfl, hP, hk⟩ := hv
  rw [lg_entry_eq]
  subst hlv
  exact body p e s m below meth c (cx_of X hml hk) X.returns X.notSynchronized ⟨hP, va_S.rf⟩ _ (lv_entry av hn)
theorem Mv_of {post : (Nat → va_E) → Prop} (hy : plainName y.cls = true) (hn : (lg_sl av).length ≤ nL) {lv : List (Nat × Value)} (hlv : lv_args 0 av = lv)
    (body : ∀ (p : Program) (e : Env) (s : State) (m : MethodId) (below : List Frame) (meth : Method) (c : Code), CX p s m av.toArray c cc nL y.cls D K → meth.sig.returnType = none → meth.locks = false → hw D B n σ s s.heap [] → ∀ ls : Array Slot, lv_has ls nL lv → W p l e (rmOf f lo 0 0) s m av.toArray below meth c s.heap [] 0 0 (MQ below (va_Qv post (Bv D B n) (fr B)) av.toArray s 0 0 (fr B)) (F0 m 0 ls [])) : Mv l y cc nL f lo D K B n av σ post := by
  refine Met.ofW (cc := cc) (maxL := nL) (ret := none) hy rfl ?_
  intro p e s m args below meth c s₁ X hml hv
  obtain ⟨rfl, hP, hk⟩ := hv
  rw [lg_entry_eq]
  subst hlv
  exact body p e s m below meth c (cx_of X hml hk) X.returns X.notSynchronized ⟨hP, va_S.rf⟩ _ (lv_entry av hn)
theorem Mc_of {post : (Nat → va_E) → Prop} (hy : plainName y.cls = true) (hn : (lg_sl av).length ≤ nL) {lv : List (Nat × Value)} (hlv : lv_args 0 av = lv)
    (body : ∀ (p : Program) (e : Env) (s : State) (m : MethodId) (below : List Frame) (meth : Method) (c : Code), CX p s m av.toArray c cc nL y.cls D K → meth.sig.returnType = none → meth.locks = false → meth.name = y.name → s.heap.size = B + n → hw D B n σ s s.heap [] → ∀ ls : Array Slot, lv_has ls nL lv → W p l e (rmOf f lo mc ms) s m av.toArray below meth c s.heap [] 0 0 (MQ below (va_Qv post (Bv D B (n + mc)) (fr B)) av.toArray s mc ms (fr B)) (F0 m 0 ls [])) : Mc l y cc nL f lo mc ms D K B n av σ post := by
  refine Met.ofW (cc := cc) (maxL := nL) (ret := none) hy rfl ?_
  intro p e s m args below meth c s₁ X hml hv
  obtain ⟨rfl, hz, hP, hk⟩ := hv
  rw [lg_entry_eq]
  subst hlv
  exact body p e s m below meth c (cx_of X hml hk) X.returns X.notSynchronized (name_of_methodNamed X.named X.method).1 hz ⟨hP, va_S.rf⟩ _ (lv_entry av hn)
end HM
section HR
variable {p : Program} {l : Launch} {e : Env} {R : Room} {s : State} {m : MethodId} {args : Array Value} {below : List Frame} {meth : Method} {c : Code} {H : Heap} {locs : List Loc} {cells slots : Nat} {cc : ByteArray} {pc : Nat} {ls : Array Slot} {D : va_G} {K : Nat → ClassId} {B n n' : Nat} {σ : Nat → va_E} {own : String} {nL : Nat}
theorem hp_iret {post : Int32 → (Nat → va_E) → Prop} {rt : FieldType} {v : Int32} (X : CX p s m args c cc nL own D K) (hr : meth.sig.returnType = some rt) (hlk : meth.locks = false) (hn : narrow rt (.int v) = .int v) (hH : hw D B n σ s H locs) (hp : post v σ) (hd : decode cc pc = .ok (.ireturn, 1)) : W p l e R s m args below meth c H locs cells slots (MQ below (va_Qi post (Bv D B n) (fr B)) args s cells slots (fr B)) (F0 m pc ls [.int v]) :=
  W.zret X.1 X.2.1 hr hn (fun t ht _ => ⟨⟨v, σ, rfl, hp, by show hv _ _ _ _ t.heap; rw [ht]; exact hH.1⟩, hH.2.F ht⟩) hH.2.2.2 hd hlk
theorem hp_lret {post : Int64 → (Nat → va_E) → Prop} {v : Int64} (X : CX p s m args c cc nL own D K) (hr : meth.sig.returnType = some .long) (hlk : meth.locks = false) (hH : hw D B n σ s H locs) (hp : post v σ) (hd : decode cc pc = .ok (.lreturn, 1)) : W p l e R s m args below meth c H locs cells slots (MQ below (va_Ql post (Bv D B n) (fr B)) args s cells slots (fr B)) (F0 m pc ls [.long v]) :=
  W.lret X.1 X.2.1 hr (fun t ht _ => ⟨⟨v, σ, rfl, hp, by show hv _ _ _ _ t.heap; rw [ht]; exact hH.1⟩, hH.2.F ht⟩) hH.2.2.2 hd hlk
theorem hp_vret {post : (Nat → va_E) → Prop} (X : CX p s m args c cc nL own D K) (hr : meth.sig.returnType = none) (hlk : meth.locks = false) (hH : hw D B n σ s H locs) (hp : post σ) (hd : decode cc pc = .ok (.return_, 1)) : W p l e R s m args below meth c H locs cells slots (MQ below (va_Qv post (Bv D B n) (fr B)) args s cells slots (fr B)) (F0 m pc ls []) :=
  W.vret X.1 X.2.1 hr (fun t ht _ => ⟨⟨σ, rfl, hp, by show hv _ _ _ _ t.heap; rw [ht]; exact hH.1⟩, hH.2.F ht⟩) hH.2.2.2 hd hlk
end HR
