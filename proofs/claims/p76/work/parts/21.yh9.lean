/-! calls, Object's constructor, copies, returns -/
def z_cat : List AV → Nat
  | [] => 0
  | a :: l => match z_lg a with
    | true => Nat.add (z_cat l) 2
    | false => Nat.add (z_cat l) 1
theorem z_cat_ok {ν : Nat → Int} {nv : Nat} {β : ZB} {l : List AV} {vs : List Value} (q : z_fm (z_mt ν nv β) l vs) : (vs.map fun v => v.category).sum = z_cat l := by
  induction l generalizing vs with
  | nil => rw [z_fm_nil q]; rfl
  | cons a l ih =>
    obtain ⟨v, k, rfl, q1, q2⟩ := z_fm_cons q
    rw [List.map_cons, List.sum_cons, ih q2, z_mt_cat q1, show z_cat (a :: l) = (match z_lg a with | true => Nat.add (z_cat l) 2 | false => Nat.add (z_cat l) 1) from rfl]
    cases z_lg a with
    | true => show 2 + z_cat l = z_cat l + 2; omega
    | false => show 1 + z_cat l = z_cat l + 1; omega
def z_pops : Nat → List AV → List AV → Option (List AV × List AV)
  | 0, l, acc => some (acc, l)
  | k + 1, l, acc => match l with
    | a :: r => z_pops k r (a :: acc)
    | [] => none
theorem z_pops_ok {P : AV → Value → Prop} {k : Nat} {l acc : List AV} {vs accv : List Value} {r : List AV × List AV} (q : z_fm P l vs) (qa : z_fm P acc accv) (h : z_pops k l acc = some r) : ∃ pv rest, vs = pv ++ rest ∧ z_fm P r.1 (pv.reverse ++ accv) ∧ z_fm P r.2 rest ∧ pv.length = k := by
  induction k generalizing l acc vs accv with
  | zero => cases h; exact ⟨[], vs, rfl, qa, q, rfl⟩
  | succ k ih =>
    cases l with
    | nil => cases h
    | cons a l =>
      obtain ⟨v, k', rfl, q1, q2⟩ := z_fm_cons q
      obtain ⟨pv, rest, e1, e2, e3, e4⟩ := ih q2 (acc := a :: acc) (accv := v :: accv) ⟨q1, qa⟩ h
      exact ⟨v :: pv, rest, by rw [e1]; rfl, by simpa using e2, e3, by simp [e4]⟩
def z_outs (rk np : Nat) (loc : List (Nat × AV)) (rest : List AV) (n sl : Nat) : List ZO → List ZS
  | [] => []
  | o :: l => match rk with
    | 0 => (np, loc, rest, o.2.2.1, o.2.2.2.1, n, sl) :: z_outs rk np loc rest n sl l
    | _ + 1 => (np, loc, o.2.1 :: rest, o.2.2.1, o.2.2.2.1, n, sl) :: z_outs rk np loc rest n sl l
theorem z_outs0 {np : Nat} {loc : List (Nat × AV)} {rest : List AV} {n sl : Nat} {l : List ZO} {o : ZO} (h : o ∈ l) : (np, loc, rest, o.2.2.1, o.2.2.2.1, n, sl) ∈ z_outs 0 np loc rest n sl l := by
  induction l with
  | nil => cases h
  | cons a l ih =>
    rcases List.mem_cons.mp h with rfl | h
    · exact List.mem_cons_self
    · exact List.mem_cons_of_mem _ (ih h)
theorem z_outs1 {k np : Nat} {loc : List (Nat × AV)} {rest : List AV} {n sl : Nat} {l : List ZO} {o : ZO} (h : o ∈ l) : (np, loc, o.2.1 :: rest, o.2.2.1, o.2.2.2.1, n, sl) ∈ z_outs (k + 1) np loc rest n sl l := by
  induction l with
  | nil => cases h
  | cons a l ih =>
    rcases List.mem_cons.mp h with rfl | h
    · exact List.mem_cons_self
    · exact List.mem_cons_of_mem _ (ih h)
/-- the room of a call: frames, words, cells, slots -/
def z_room (E : ZE) (nL' mc msl n sl : Nat) (rest : List AV) : Bool := z_and (Nat.ble 1 E.2.1) (z_and (Nat.ble (Nat.add 19 nL') E.2.2.1) (z_and (Nat.ble (z_cat rest) 8) (z_and (Nat.ble (Nat.add n mc) E.2.2.2.1) (Nat.ble (Nat.add sl msl) E.2.2.2.2.1))))
def z_rcv (ci : Nat) (h : T2 AC) (as : List AV) : Bool := match as with
  | [] => false
  | a :: _ => match Nat.beq a.1 4 with
    | false => false
    | true => match z_g2 h a.2.1 with
      | none => false
      | some c => z_and (Nat.beq (Nat.mod c.1 100) 0) (Nat.beq c.2.1 ci)
def z_rc0 (as : List AV) : Bool := match as with
  | [] => false
  | a :: _ => Nat.beq a.1 4
def h_callS (q na nL' rk mc msl np : Nat) : ZH := fun E loc stk V h n sl => z_bd (z_pops na stk []) fun a => z_if (z_room E nL' mc msl n sl a.2) (z_bd (E.1 q a.1 V h n (Nat.sub E.2.1 1) (Nat.sub E.2.2.1 (Nat.add 19 nL'))) fun outs => some (z_outs rk np loc a.2 (Nat.add n mc) (Nat.add sl msl) outs, []))
def h_callV (ci q na nL' rk mc msl np : Nat) : ZH := fun E loc stk V h n sl => z_bd (z_pops (Nat.succ na) stk []) fun a => z_if (z_and (z_rcv ci h a.1) (z_room E nL' mc msl n sl a.2)) (z_bd (E.1 q a.1 V h n (Nat.sub E.2.1 1) (Nat.sub E.2.2.1 (Nat.add 19 nL'))) fun outs => some (z_outs rk np loc a.2 (Nat.add n mc) (Nat.add sl msl) outs, []))
def h_callI (q na nL' mc msl np : Nat) : ZH := fun E loc stk V h n sl => z_bd (z_pops (Nat.succ na) stk []) fun a => z_if (z_and (z_rc0 a.1) (z_room E nL' mc msl n sl a.2)) (z_bd (E.1 q a.1 V h n (Nat.sub E.2.1 1) (Nat.sub E.2.2.1 (Nat.add 19 nL'))) fun outs => some (z_outs 0 np loc a.2 (Nat.add n mc) (Nat.add sl msl) outs, []))
section LK0
variable {p : Program} {s : State} {m : MethodId} {args : Array Value} {c : Code} {H : Heap} {locs : List Loc} {cc : ByteArray} {S : List ZT} {D : va_G} {K : Nat → ClassId} {β : ZB} {n : Nat} {σ : Nat → va_E} {own : String} {nL : Nat} {av As : List Value} {l : Launch} {e : Env} {R : Room} {below : List Frame} {meth : Method} {cells slots : Nat} {pc : Nat} {ls : Array Slot} {rest st0 : List Value} {y : MethodName} {bytes : ByteArray} {maxL mc ms na index f lo i : Nat} {Qc : Array Value → State → Outcome → State → Prop} {free : Addr → Prop} {host : String}
theorem z_XS.calling {U : State} {g : JFrame} {mk : MethodId} {a : Array Value} (h : z_XS S β U U.heap) : z_XS S β (U.calling g mk a) (U.calling g mk a).heap := by
  obtain ⟨h1, ⟨h2, hT⟩, h3⟩ := h
  have hv : U.vm.Alike (U.calling g mk a).vm := Vm.Alike.refl U.vm
  refine ⟨va_Z.moved hv h1, ⟨va_Zq.moved hv h2, va_T.moved hv hT⟩, fun i q hq => ?_⟩
  obtain ⟨g1, g2, g3, g4, g5⟩ := h3 i q hq
  exact ⟨vk_R.same (u := U) (U := U.calling g mk a) rfl g1, va_O.moved hv g2, va_OF.moved hv g3, va_OF.moved hv g4, va_T.moved hv g5⟩
theorem blindS : FrameBlind (va_Pc av (PS S D K β n σ)) := fun _ _ _ _ q => ⟨q.1, q.2.1, q.2.2.1, q.2.2.2.1.calling, q.2.2.2.2.calling⟩
theorem preS (X : CX p s m args c cc nL own D K) (hx : z_XS S β s s.heap) (hz : H.size = β.1 + n) (hH : hw D β.1 n σ s H locs) : ∀ U : State, U.heap = H → s.WarmedH U.vm → va_Pc av (PS S D K β n σ) av.toArray U := fun U hU hW => ⟨rfl, by rw [hU]; exact hz, by rw [hU]; exact hH.1, X.2.2.2.2.2.warm hW, hx.to hH.2 hU hW⟩
theorem zp_rI (X : CX p s m args c cc nL own D K) (hx : z_XS S β s s.heap) (hz : H.size = β.1 + n) (hH : hw D β.1 n σ s H locs) (hM : Met l y (wb y bytes maxL none) (rmOf f lo mc ms) (va_Pc (.ref (β.1 + i) :: As) (PS S D K β n σ)) Qc mc ms free) (J : Kw y bytes maxL none na) (JV : KwI y) (hl : Cond.methodLink own index y ∈ bw) (hAs : As.length = na) (hst : st0 = As.reverse ++ .ref (β.1 + i) :: rest) (hR : f + 1 ≤ R.frames ∧ 8 + (maxL + 11) + lo ≤ R.locals) (hls : ls.size = nL) (hcat : (rest.map fun v => v.category).sum ≤ 8) (hd : decode cc pc = .ok (.invokespecial index, 3)) (hf : cells + mc ≤ R.cells ∧ slots + ms ≤ R.slots) :
    va_Run p l e R s m args below meth c H locs cells slots mc ms (F0 m pc ls st0) rest (Qc (.ref (β.1 + i) :: As).toArray) free :=
  va_runI (cfW X) hM ⟨cbW X J hl hR, JV.2, X.w JV.1⟩ ⟨blindS, preS X hx hz hH⟩ rfl hAs hls hst (lv_room hcat) hd hf
theorem zp_rIN (X : CX p s m args c cc nL own D K) (hx : z_XS S β s s.heap) (hz : H.size = β.1 + n) (hH : hw D β.1 n σ s H locs) (hM : Met l y (wb y bytes maxL none) (rmOf f lo mc ms) (va_Pc (.ref (β.1 + i) :: As) (PS S D K β n σ)) Qc mc ms free) (J : Kw y bytes maxL none na) (JV : KwI y) (hl : Cond.methodLinkNest own index y host ∈ nst) (hAs : As.length = na) (hst : st0 = As.reverse ++ .ref (β.1 + i) :: rest) (hR : f + 1 ≤ R.frames ∧ 8 + (maxL + 11) + lo ≤ R.locals) (hls : ls.size = nL) (hcat : (rest.map fun v => v.category).sum ≤ 8) (hd : decode cc pc = .ok (.invokespecial index, 3)) (hf : cells + mc ≤ R.cells ∧ slots + ms ≤ R.slots) :
    va_Run p l e R s m args below meth c H locs cells slots mc ms (F0 m pc ls st0) rest (Qc (.ref (β.1 + i) :: As).toArray) free :=
  va_runIN (cfW X) hM ⟨cnW X J hl hR, JV.2, X.w JV.1⟩ ⟨blindS, preS X hx hz hH⟩ rfl hAs hls hst (lv_room hcat) hd hf
end LK0
section LK
variable {p : Program} {l : Launch} {e : Env} {R : Room} {s : State} {m : MethodId} {args : Array Value} {below : List Frame} {meth : Method} {c : Code} {H : Heap} {locs : List Loc} {cells slots : Nat} {Q : State → Prop} {cc : ByteArray} {pc : Nat} {ls : Array Slot} {rest st0 : List Value} {S : List ZT} {D : va_G} {K : Nat → ClassId} {β : ZB} {n : Nat} {σ : Nat → va_E} {own : String} {nL : Nat}
  {y : MethodName} {bytes : ByteArray} {maxL mc ms na index f lo : Nat} {ret : Option FieldType} {Qc : Array Value → State → Outcome → State → Prop} {free : Addr → Prop} {host : String} {i ci : Nat} {As av : List Value} {T : u_T} {N : Nat} {fs : List Value}
theorem zp_rV (X : CX p s m args c cc nL own D K) (hx : z_XS S β s s.heap) (hz : H.size = β.1 + n) (hH : hw D β.1 n σ s H locs) (hM : Met l y (wb y bytes maxL ret) (rmOf f lo mc ms) (va_Pc (.ref (β.1 + i) :: As) (PS S D K β n σ)) Qc mc ms free) (J : Kw y bytes maxL ret na) (JV : KwV y) (hl : Cond.methodLink own index y ∈ bw) (hi : i < n) (he : σ i = .inr (ci, fs)) (hc : vwCl[ci]? = some (y.cls, T, N)) (hAs : As.length = na) (hst : st0 = As.reverse ++ .ref (β.1 + i) :: rest) (hR : f + 1 ≤ R.frames ∧ 8 + (maxL + 11) + lo ≤ R.locals) (hls : ls.size = nL) (hcat : (rest.map fun v => v.category).sum ≤ 8) (hd : decode cc pc = .ok (.invokevirtual index, 3)) (hf : cells + mc ≤ R.cells ∧ slots + ms ≤ R.slots) :
    va_Run p l e R s m args below meth c H locs cells slots mc ms (F0 m pc ls st0) rest (Qc (.ref (β.1 + i) :: As).toArray) free :=
  va_runV (cfW X) hM ⟨cbW X J hl hR, X.w JV.1, X.w JV.2⟩ ⟨blindS, recvW X hH hi he hc, preS X hx hz hH⟩ rfl hAs hls hst (lv_room hcat) hd hf
theorem zp_rVN (X : CX p s m args c cc nL own D K) (hx : z_XS S β s s.heap) (hz : H.size = β.1 + n) (hH : hw D β.1 n σ s H locs) (hM : Met l y (wb y bytes maxL ret) (rmOf f lo mc ms) (va_Pc (.ref (β.1 + i) :: As) (PS S D K β n σ)) Qc mc ms free) (J : Kw y bytes maxL ret na) (JV : KwV y) (hl : Cond.methodLinkNest own index y host ∈ nst) (hi : i < n) (he : σ i = .inr (ci, fs)) (hc : vwCl[ci]? = some (y.cls, T, N)) (hAs : As.length = na) (hst : st0 = As.reverse ++ .ref (β.1 + i) :: rest) (hR : f + 1 ≤ R.frames ∧ 8 + (maxL + 11) + lo ≤ R.locals) (hls : ls.size = nL) (hcat : (rest.map fun v => v.category).sum ≤ 8) (hd : decode cc pc = .ok (.invokevirtual index, 3)) (hf : cells + mc ≤ R.cells ∧ slots + ms ≤ R.slots) :
    va_Run p l e R s m args below meth c H locs cells slots mc ms (F0 m pc ls st0) rest (Qc (.ref (β.1 + i) :: As).toArray) free :=
  va_runVN (cfW X) hM ⟨cnW X J hl hR, X.w JV.1, X.w JV.2⟩ ⟨blindS, recvW X hH hi he hc, preS X hx hz hH⟩ rfl hAs hls hst (lv_room hcat) hd hf
theorem zp_rS (X : CX p s m args c cc nL own D K) (hx : z_XS S β s s.heap) (hz : H.size = β.1 + n) (hH : hw D β.1 n σ s H locs) (hM : Met l y (wb y bytes maxL ret) (rmOf f lo mc ms) (va_Pc As (PS S D K β n σ)) Qc mc ms free) (J : Kw y bytes maxL ret na) (JV : KwS y) (hl : Cond.methodLink own index y ∈ bw) (hAs : As.length = na) (hst : st0 = As.reverse ++ rest) (hR : f + 1 ≤ R.frames ∧ 8 + (maxL + 11) + lo ≤ R.locals) (hls : ls.size = nL) (hcat : (rest.map fun v => v.category).sum ≤ 8) (hd : decode cc pc = .ok (.invokestatic index, 3)) (hf : cells + mc ≤ R.cells ∧ slots + ms ≤ R.slots) :
    va_Run p l e R s m args below meth c H locs cells slots mc ms (F0 m pc ls st0) rest (Qc As.toArray) free :=
  va_runS (cfW X) hM ⟨cbW X J hl hR, X.w JV⟩ ⟨blindS, preS X hx hz hH⟩ rfl hAs hls hst (lv_room hcat) hd hf
theorem zp_rSN (X : CX p s m args c cc nL own D K) (hx : z_XS S β s s.heap) (hz : H.size = β.1 + n) (hH : hw D β.1 n σ s H locs) (hM : Met l y (wb y bytes maxL ret) (rmOf f lo mc ms) (va_Pc As (PS S D K β n σ)) Qc mc ms free) (J : Kw y bytes maxL ret na) (JV : KwS y) (hl : Cond.methodLinkNest own index y host ∈ nst) (hAs : As.length = na) (hst : st0 = As.reverse ++ rest) (hR : f + 1 ≤ R.frames ∧ 8 + (maxL + 11) + lo ≤ R.locals) (hls : ls.size = nL) (hcat : (rest.map fun v => v.category).sum ≤ 8) (hd : decode cc pc = .ok (.invokestatic index, 3)) (hf : cells + mc ≤ R.cells ∧ slots + ms ≤ R.slots) :
    va_Run p l e R s m args below meth c H locs cells slots mc ms (F0 m pc ls st0) rest (Qc As.toArray) free :=
  va_runSN (cfW X) hM ⟨cnW X J hl hR, X.w JV, trivial⟩ ⟨blindS, preS X hx hz hH⟩ rfl hAs hls hst (lv_room hcat) hd hf
/-- behind a call -/
theorem z_ret {σ0 : Nat → va_E} {nv n' rk : Nat} {outs : List ZO} {ν : Nat → Int} {a : Array Value} (hr : va_Run p l e R s m args below meth c H locs cells slots mc ms (F0 m pc ls st0) rest (z_Q D K β σ0 outs ν nv n' rk a) (fr β.1)) (hH : hw D β.1 n σ s H locs)
    (kk : ∀ (v : Value) (u : Nat → va_E) (H1 : Heap) (locs1 : List Loc), z_post K β σ0 outs ν nv n' rk v u → hw D β.1 n' u s H1 locs1 → W p l e R s m args below meth c H1 locs1 (cells + mc) (slots + ms) Q (F0 m (pc + 3) ls (z_rv rk v ++ rest))) : W p l e R s m args below meth c H locs cells slots Q (F0 m pc ls st0) := by
  match rk, hr, kk with
  | 0, hr, kk => exact va_callv (a := a) hr hH.2 (fun _ _ h => h) (fun _ h => h) (fun u t H1 locs1 ht _ hp hB _ _ hS => kk .null u H1 locs1 hp ⟨by rw [← ht]; exact hB, hS⟩)
  | 1, hr, kk => exact va_calli (a := a) hr hH.2 (fun _ _ h => h) (fun _ h => h) (fun r u t H1 locs1 ht _ hp hB _ _ hS => kk (.int r) u H1 locs1 hp ⟨by rw [← ht]; exact hB, hS⟩)
  | k + 2, hr, kk => exact va_calll (a := a) hr hH.2 (fun _ _ h => h) (fun _ h => h) (fun r u t H1 locs1 ht _ hp hB _ _ hS => kk (.long r) u H1 locs1 (by
      obtain ⟨o, ho, ν', g1, g2, g3, g4, g5, g6⟩ := hp
      exact ⟨o, ho, ν', g1, g2, g3, g4, fun _ => g5 (by decide), g6⟩) ⟨by rw [← ht]; exact hB, hS⟩)
end LK
section LO
variable {S : List ZT} {ms : List ZM} {own mn : String} {cc : ByteArray} {nL pc np : Nat}
theorem z_size {D : va_G} {p : Program} {l : Launch} {e : Env} {R : Room} {s : State} {m : MethodId} {args : Array Value} {below : List Frame} {meth : Method} {c : Code} {Q : State → Prop} {β : ZB} {k0 n sl : Nat} {σ : Nat → va_E} {H : Heap} {locs : List Loc} {g : JFrame} (hs : s.heap.size = β.1 + k0) (hk : k0 ≤ n) (hH : hw D β.1 n σ s H locs) (kk : H.size = β.1 + n → W p l e R s m args below meth c H locs (n - k0) sl Q g) : W p l e R s m args below meth c H locs (n - k0) sl Q g :=
  hp_sz (fun z1 z2 => kk (by have := hH.1.size (by omega); omega))
/-- a call, seen from the machine over bounds -/
theorem z_callW {D : va_G} {K : Nat → ClassId} {β : ZB} {p : Program} {l : Launch} {e : Env} {R : Room} {s : State} {m : MethodId} {args : Array Value} {below : List Frame} {meth : Method} {c : Code} {Q : State → Prop} {σ0 : Nat → va_E} {ν0 : Nat → Int} {nv0 k0 : Nat} {E : ZE} {loc : List (Nat × AV)} {V : VS} {h : T2 AC} {n sl : Nat} {ν : Nat → Int} {σ : Nat → va_E} {H : Heap} {locs : List Loc} {ls : Array Slot} {q nL' rk mc msl : Nat} {y : MethodName} {bytes : ByteArray} {ret : Option FieldType} {as rs : List AV} {outs : List ZO} {av rest vs : List Value} {stk : List AV}
    (X : z_C S ms D K β p l R s m args meth c own mn cc k0 nL E) (hq : z_nth ms q = some (y, bytes, nL', ret, rk, mc, msl)) (hroom : z_room E nL' mc msl n sl rs = true) (hcall : E.1 q as V h n (Nat.sub E.2.1 1) (Nat.sub E.2.2.1 (Nat.add 19 nL')) = some outs) (hS : ∀ st ∈ z_outs rk (pc + 3) loc rs (Nat.add n mc) (Nat.add sl msl) outs, z_W D K β p l e R s m args below meth c Q σ0 ν0 nv0 k0 nL st) (P : z_P D K β s σ0 ν0 nv0 k0 nL loc stk V h n ν σ H locs ls vs) (hav : z_fm (z_mt ν (z_len V.1) β) as av) (hrest : z_fm (z_mt ν (z_len V.1) β) rs rest)
    (run : ∀ (f lo : Nat), H.size = β.1 + n → Met l y (wb y bytes nL' ret) (rmOf f lo mc msl) (va_Pc av (PS S D K β n σ)) (z_Q D K β σ0 outs ν (z_len V.1) (n + mc) rk) mc msl (fr β.1) → f + 1 ≤ R.frames ∧ 8 + (nL' + 11) + lo ≤ R.locals → ls.size = nL → (rest.map fun v => v.category).sum ≤ 8 → n - k0 + mc ≤ R.cells ∧ sl + msl ≤ R.slots → va_Run p l e R s m args below meth c H locs (n - k0) sl mc msl (F0 m pc ls vs) rest (z_Q D K β σ0 outs ν (z_len V.1) (n + mc) rk av.toArray) (fr β.1)) : W p l e R s m args below meth c H locs (n - k0) sl Q (F0 m pc ls vs) := by
  obtain ⟨x1, x2, x3, x4, x5, x6, x7, x8, x9⟩ := X
  obtain ⟨p1, p2, p3, p4, p5, p6, p7, p8⟩ := P
  obtain ⟨g1, hroom⟩ := z_andI hroom
  obtain ⟨g2, hroom⟩ := z_andI hroom
  obtain ⟨g3, hroom⟩ := z_andI hroom
  obtain ⟨g4, g5⟩ := z_andI hroom
  have g1 := Nat.le_of_ble_eq_true g1
  have g2 : 19 + nL' ≤ E.2.2.1 := Nat.le_of_ble_eq_true g2
  have g3 := Nat.le_of_ble_eq_true g3
  have g4 : n + mc ≤ E.2.2.2.1 := Nat.le_of_ble_eq_true g4
  have g5 : sl + msl ≤ E.2.2.2.2.1 := Nat.le_of_ble_eq_true g5
  obtain ⟨M, hM1, hM2⟩ := x9 q as V h n _ _ outs hcall
  rw [hq] at hM1
  cases hM1
  refine z_size x7 p3 p8 (fun hz => ?_)
  have f1 : Nat.sub E.2.1 1 + 1 = E.2.1 := Nat.sub_add_cancel g1
  have f2 : Nat.sub E.2.2.1 (Nat.add 19 nL') + (19 + nL') = E.2.2.1 := Nat.sub_add_cancel g2
  obtain ⟨lv, l1, l2⟩ := p6
  refine z_ret (run _ _ hz (hM2 ν σ σ0 av p4 p5 hav) ⟨by omega, by omega⟩ l1.1 (by rw [z_cat_ok hrest]; exact g3) ⟨by omega, by omega⟩) p8 (fun v u H1 locs1 hp hH1 => ?_)
  obtain ⟨o, ho, ν', q1, q2, q3, q4, q5, q6⟩ := hp
  have goal : ∀ (stk' : List AV) (vs' : List Value), (pc + 3, loc, stk', o.2.2.1, o.2.2.2.1, Nat.add n mc, Nat.add sl msl) ∈ z_outs rk (pc + 3) loc rs (Nat.add n mc) (Nat.add sl msl) outs → z_fm (z_mt ν' (z_len o.2.2.1.1) β) stk' vs' → W p l e R s m args below meth c H1 locs1 (n - k0 + mc) (sl + msl) Q (F0 m (pc + 3) ls vs') := fun stk' vs' hin hfm => by
    have := hS _ hin ν' u H1 locs1 ls vs' ⟨fun i hi => (q1 i (Nat.lt_of_lt_of_le hi p2)).trans (p1 i hi), Nat.le_trans p2 q2, (by show k0 ≤ n + mc; omega), q3, q4, ⟨lv, l1, z_fm_mono (fun _ _ z => ⟨z.1, z_mt_ext q1 q2 z.2⟩) l2⟩, hfm, hH1⟩
    exact W.cs (show n - k0 + mc = n + mc - k0 by omega) rfl this
  have hrest' := z_fm_mono (fun _ _ => z_mt_ext q1 q2) hrest
  match rk, goal, q5 with
  | 0, goal, _ => exact goal rs rest (z_outs0 ho) hrest'
  | k + 1, goal, q5 => exact goal (o.2.1 :: rs) (v :: rest) (z_outs1 ho) ⟨q5 (by omega), hrest'⟩
theorem s_callS {q na nL' rk mc msl ix : Nat} {y : MethodName} {bytes : ByteArray} {ret : Option FieldType} (hq : z_nth ms q = some (y, bytes, nL', ret, rk, mc, msl)) (J : Kw y bytes nL' ret na) (JV : KwS y) (hl : Cond.methodLink own ix y ∈ bw) (d : decode cc pc = .ok (.invokestatic ix, 3)) (hn : pc + 3 = np) : z_sound S ms own mn cc nL pc (h_callS q na nL' rk mc msl np) := by
  subst hn
  intro D K β p l e R s m args below meth c Q σ0 ν0 nv0 k0 E X loc stk V h n sl res hr hS hO ν σ H locs ls vs P
  obtain ⟨a, ha, hr⟩ := z_bdI hr
  obtain ⟨hroom, hr⟩ := z_ifI hr
  obtain ⟨outs, hcall, hr⟩ := z_bdI hr
  cases hr
  obtain ⟨pv, rest, e1, e2, e3, e4⟩ := z_pops_ok P.2.2.2.2.2.2.1 (acc := []) (accv := []) trivial ha
  rw [List.append_nil] at e2
  refine z_callW X hq hroom hcall hS P e2 e3 (fun f lo hz hM hR hls hcat hf => zp_rS X.1 X.2.2.2.2.2.2.2.1 hz P.2.2.2.2.2.2.2 hM J JV hl (by simpa using e4) (by rw [List.reverse_reverse]; exact e1) hR hls hcat d hf)
theorem s_callSN {q na nL' rk mc msl ix : Nat} {y : MethodName} {bytes : ByteArray} {ret : Option FieldType} {host : String} (hq : z_nth ms q = some (y, bytes, nL', ret, rk, mc, msl)) (J : Kw y bytes nL' ret na) (JV : KwS y) (hl : Cond.methodLinkNest own ix y host ∈ nst) (d : decode cc pc = .ok (.invokestatic ix, 3)) (hn : pc + 3 = np) : z_sound S ms own mn cc nL pc (h_callS q na nL' rk mc msl np) := by
  subst hn
  intro D K β p l e R s m args below meth c Q σ0 ν0 nv0 k0 E X loc stk V h n sl res hr hS hO ν σ H locs ls vs P
  obtain ⟨a, ha, hr⟩ := z_bdI hr
  obtain ⟨hroom, hr⟩ := z_ifI hr
  obtain ⟨outs, hcall, hr⟩ := z_bdI hr
  cases hr
  obtain ⟨pv, rest, e1, e2, e3, e4⟩ := z_pops_ok P.2.2.2.2.2.2.1 (acc := []) (accv := []) trivial ha
  rw [List.append_nil] at e2
  refine z_callW X hq hroom hcall hS P e2 e3 (fun f lo hz hM hR hls hcat hf => zp_rSN X.1 X.2.2.2.2.2.2.2.1 hz P.2.2.2.2.2.2.2 hM J JV hl (by simpa using e4) (by rw [List.reverse_reverse]; exact e1) hR hls hcat d hf)
theorem z_rcvI {ν : Nat → Int} {nv : Nat} {β : ZB} {K : Nat → ClassId} {σ0 : Nat → va_E} {h : T2 AC} {n ci : Nat} {σ : Nat → va_E} {as : List AV} {av : List Value} (q : z_hm ν nv β K σ0 h n σ) (hav : z_fm (z_mt ν nv β) as av) (hr : z_rcv ci h as = true) : ∃ (i : Nat) (As : List Value) (fs : List Value), av = .ref (β.1 + i) :: As ∧ i < n ∧ σ i = .inr (ci, fs) := by
  cases as with
  | nil => cases hr
  | cons a as =>
    obtain ⟨v, k, rfl, q1, q2⟩ := z_fm_cons hav
    unfold z_rcv at hr
    simp only at hr
    cases h4 : Nat.beq a.1 4 with
    | false => rw [h4] at hr; cases hr
    | true =>
      rw [h4] at hr
      simp only at hr
      cases hc : z_g2 h a.2.1 with
      | none => rw [hc] at hr; cases hr
      | some c =>
        rw [hc] at hr
        obtain ⟨h1, h2⟩ := z_andI hr
        obtain ⟨i1, fs, i2, -⟩ := z_obj q hc (Nat.eq_of_beq_eq_true h1)
        rw [Nat.eq_of_beq_eq_true h2] at i2
        exact ⟨a.2.1, k, fs, by rw [z_mt_r q1 h4], i1, i2⟩
theorem s_callV {ci q na nL' rk mc msl ix N : Nat} {y : MethodName} {bytes : ByteArray} {ret : Option FieldType} {T : u_T} (hq : z_nth ms q = some (y, bytes, nL', ret, rk, mc, msl)) (J : Kw y bytes nL' ret na) (JV : KwV y) (hci : vwCl[ci]? = some (y.cls, T, N)) (hl : Cond.methodLink own ix y ∈ bw) (d : decode cc pc = .ok (.invokevirtual ix, 3)) (hn : pc + 3 = np) : z_sound S ms own mn cc nL pc (h_callV ci q na nL' rk mc msl np) := by
  subst hn
  intro D K β p l e R s m args below meth c Q σ0 ν0 nv0 k0 E X loc stk V h n sl res hr hS hO ν σ H locs ls vs P
  obtain ⟨a, ha, hr⟩ := z_bdI hr
  obtain ⟨hroom, hr⟩ := z_ifI hr
  obtain ⟨hrc, hroom⟩ := z_andI hroom
  obtain ⟨outs, hcall, hr⟩ := z_bdI hr
  cases hr
  obtain ⟨pv, rest, e1, e2, e3, e4⟩ := z_pops_ok P.2.2.2.2.2.2.1 (acc := []) (accv := []) trivial ha
  rw [List.append_nil] at e2
  obtain ⟨i, As, fs, e5, e6, e7⟩ := z_rcvI P.2.2.2.2.1 e2 hrc
  refine z_callW X hq hroom hcall hS P e2 e3 (fun f lo hz hM hR hls hcat hf => ?_)
  have e8 : vs = As.reverse ++ .ref (β.1 + i) :: rest := by
    have : pv = As.reverse ++ [.ref (β.1 + i)] := by rw [← List.reverse_reverse pv, e5]; simp
    rw [e1, this]; simp
  rw [e5] at hM ⊢
  exact zp_rV X.1 X.2.2.2.2.2.2.2.1 hz P.2.2.2.2.2.2.2 hM J JV hl e6 e7 hci (by have := congrArg List.length e5; simp [e4] at this; omega) e8 hR hls hcat d hf
theorem s_callVN {ci q na nL' rk mc msl ix N : Nat} {y : MethodName} {bytes : ByteArray} {ret : Option FieldType} {T : u_T} {host : String} (hq : z_nth ms q = some (y, bytes, nL', ret, rk, mc, msl)) (J : Kw y bytes nL' ret na) (JV : KwV y) (hci : vwCl[ci]? = some (y.cls, T, N)) (hl : Cond.methodLinkNest own ix y host ∈ nst) (d : decode cc pc = .ok (.invokevirtual ix, 3)) (hn : pc + 3 = np) : z_sound S ms own mn cc nL pc (h_callV ci q na nL' rk mc msl np) := by
  subst hn
  intro D K β p l e R s m args below meth c Q σ0 ν0 nv0 k0 E X loc stk V h n sl res hr hS hO ν σ H locs ls vs P
  obtain ⟨a, ha, hr⟩ := z_bdI hr
  obtain ⟨hroom, hr⟩ := z_ifI hr
  obtain ⟨hrc, hroom⟩ := z_andI hroom
  obtain ⟨outs, hcall, hr⟩ := z_bdI hr
  cases hr
  obtain ⟨pv, rest, e1, e2, e3, e4⟩ := z_pops_ok P.2.2.2.2.2.2.1 (acc := []) (accv := []) trivial ha
  rw [List.append_nil] at e2
  obtain ⟨i, As, fs, e5, e6, e7⟩ := z_rcvI P.2.2.2.2.1 e2 hrc
  refine z_callW X hq hroom hcall hS P e2 e3 (fun f lo hz hM hR hls hcat hf => ?_)
  have e8 : vs = As.reverse ++ .ref (β.1 + i) :: rest := by
    have : pv = As.reverse ++ [.ref (β.1 + i)] := by rw [← List.reverse_reverse pv, e5]; simp
    rw [e1, this]; simp
  rw [e5] at hM ⊢
  exact zp_rVN X.1 X.2.2.2.2.2.2.2.1 hz P.2.2.2.2.2.2.2 hM J JV hl e6 e7 hci (by have := congrArg List.length e5; simp [e4] at this; omega) e8 hR hls hcat d hf
theorem z_rc0I {ν : Nat → Int} {nv : Nat} {β : ZB} {as : List AV} {av : List Value} (hav : z_fm (z_mt ν nv β) as av) (hr : z_rc0 as = true) : ∃ (i : Nat) (As : List Value), av = .ref (β.1 + i) :: As := by
  cases as with
  | nil => cases hr
  | cons a as =>
    obtain ⟨v, k, rfl, q1, q2⟩ := z_fm_cons hav
    exact ⟨a.2.1, k, by rw [z_mt_r q1 hr]⟩
theorem s_callI {q na nL' mc msl ix : Nat} {y : MethodName} {bytes : ByteArray} (hq : z_nth ms q = some (y, bytes, nL', none, 0, mc, msl)) (J : Kw y bytes nL' none na) (JV : KwI y) (hl : Cond.methodLink own ix y ∈ bw) (d : decode cc pc = .ok (.invokespecial ix, 3)) (hn : pc + 3 = np) : z_sound S ms own mn cc nL pc (h_callI q na nL' mc msl np) := by
  subst hn
  intro D K β p l e R s m args below meth c Q σ0 ν0 nv0 k0 E X loc stk V h n sl res hr hS hO ν σ H locs ls vs P
  obtain ⟨a, ha, hr⟩ := z_bdI hr
  obtain ⟨hroom, hr⟩ := z_ifI hr
  obtain ⟨hrc, hroom⟩ := z_andI hroom
  obtain ⟨outs, hcall, hr⟩ := z_bdI hr
  cases hr
  obtain ⟨pv, rest, e1, e2, e3, e4⟩ := z_pops_ok P.2.2.2.2.2.2.1 (acc := []) (accv := []) trivial ha
  rw [List.append_nil] at e2
  obtain ⟨i, As, e5⟩ := z_rc0I e2 hrc
  refine z_callW X hq hroom hcall hS P e2 e3 (fun f lo hz hM hR hls hcat hf => ?_)
  have e8 : vs = As.reverse ++ .ref (β.1 + i) :: rest := by
    have : pv = As.reverse ++ [.ref (β.1 + i)] := by rw [← List.reverse_reverse pv, e5]; simp
    rw [e1, this]; simp
  rw [e5] at hM ⊢
  exact zp_rI X.1 X.2.2.2.2.2.2.2.1 hz P.2.2.2.2.2.2.2 hM J JV hl (by have := congrArg List.length e5; simp [e4] at this; omega) e8 hR hls hcat d hf
theorem s_callIN {q na nL' mc msl ix : Nat} {y : MethodName} {bytes : ByteArray} {host : String} (hq : z_nth ms q = some (y, bytes, nL', none, 0, mc, msl)) (J : Kw y bytes nL' none na) (JV : KwI y) (hl : Cond.methodLinkNest own ix y host ∈ nst) (d : decode cc pc = .ok (.invokespecial ix, 3)) (hn : pc + 3 = np) : z_sound S ms own mn cc nL pc (h_callI q na nL' mc msl np) := by
  subst hn
  intro D K β p l e R s m args below meth c Q σ0 ν0 nv0 k0 E X loc stk V h n sl res hr hS hO ν σ H locs ls vs P
  obtain ⟨a, ha, hr⟩ := z_bdI hr
  obtain ⟨hroom, hr⟩ := z_ifI hr
  obtain ⟨hrc, hroom⟩ := z_andI hroom
  obtain ⟨outs, hcall, hr⟩ := z_bdI hr
  cases hr
  obtain ⟨pv, rest, e1, e2, e3, e4⟩ := z_pops_ok P.2.2.2.2.2.2.1 (acc := []) (accv := []) trivial ha
  rw [List.append_nil] at e2
  obtain ⟨i, As, e5⟩ := z_rc0I e2 hrc
  refine z_callW X hq hroom hcall hS P e2 e3 (fun f lo hz hM hR hls hcat hf => ?_)
  have e8 : vs = As.reverse ++ .ref (β.1 + i) :: rest := by
    have : pv = As.reverse ++ [.ref (β.1 + i)] := by rw [← List.reverse_reverse pv, e5]; simp
    rw [e1, this]; simp
  rw [e5] at hM ⊢
  exact zp_rIN X.1 X.2.2.2.2.2.2.2.1 hz P.2.2.2.2.2.2.2 hM J JV hl (by have := congrArg List.length e5; simp [e4] at this; omega) e8 hR hls hcat d hf
/-- Object's constructor -/
def h_oinit (np : Nat) : ZH := fun E loc stk V h n sl => z_bd (z_p1 stk) fun a => z_if (z_and (Nat.beq a.1.1 4) (z_and (Nat.ble 1 E.2.1) (Nat.ble (Nat.add (z_cat a.2) 12) E.2.2.1))) (some ([(np, loc, a.2, V, h, n, sl)], []))
theorem s_oinit {ix : Nat} (hl : Cond.methodLink own ix objectInit ∈ bw) (hi : Cond.instanceMethod objectInit ∈ bw) (hc : Cond.code objectInit ⟨#[0xb1]⟩ 1 none ∈ bw) (d : decode cc pc = .ok (.invokespecial ix, 3)) (hn : pc + 3 = np) : z_sound S ms own mn cc nL pc (h_oinit np) := by
  subst hn
  intro D K β p l e R s m args below meth c Q σ0 ν0 nv0 k0 E X loc stk V h n sl res hr hS hO ν σ H locs ls vs P
  obtain ⟨a, ha, hr⟩ := z_bdI hr
  obtain ⟨hk, hr⟩ := z_ifI hr
  obtain ⟨hk1, hk⟩ := z_andI hk
  obtain ⟨hk2, hk3⟩ := z_andI hk
  cases hr
  have p7 := P.2.2.2.2.2.2.1
  rw [show stk = _ from z_p1I ha] at p7
  obtain ⟨vx, rest, rfl, q1, q2⟩ := z_fm_cons p7
  obtain rfl := z_mt_r q1 hk1
  have hk2 := Nat.le_of_ble_eq_true hk2
  have hk3 : z_cat a.2 + 12 ≤ E.2.2.1 := Nat.le_of_ble_eq_true hk3
  have x3 := X.2.2.1
  have x4 := X.2.2.2.1
  obtain ⟨lv, l1, -⟩ := P.2.2.2.2.2.1
  refine W.objInit X.1.1 X.1.2.1 X.1.2.2.2.1 (X.1.w hl) (X.1.w hi) (X.1.w hc) rfl (by rw [X.1.2.2.1]; exact l1.1) rfl d (by omega) ?_ (W.eq (g2 := F0 m (pc + 3) ls rest) rfl (hS _ List.mem_cons_self ν σ H locs ls rest (z_Pk P q2)))
  show 2 * 0 + _ + 12 ≤ _
  rw [z_cat_ok q2]
  omega
/-- returns, cut points -/
def z_nil (l : List AV) : Bool := match l with
  | [] => true
  | _ :: _ => false
def h_ret (k : Nat) : ZH := fun _ _ stk V h n sl => z_bd (z_p1 stk) fun a => z_if (z_and (z_nil a.2) (z_kd (Nat.sub k 1) a.1)) (some ([], [(k, a.1, V, h, n, sl, [], 0)]))
def h_vret : ZH := fun _ _ stk V h n sl => z_if (z_nil stk) (some ([], [(0, (5, 0, 0, 0, []), V, h, n, sl, [], 0)]))
def h_cutp (j pc : Nat) : ZH := fun _ loc stk V h n sl => z_if (z_nil stk) (some ([], [(Nat.add 10 j, (5, 0, 0, 0, []), V, h, n, sl, loc, pc)]))
theorem z_nilI {l : List AV} (h : z_nil l = true) : l = [] := by cases l with | nil => rfl | cons => cases h
theorem z_lm0 {ν : Nat → Int} {nv : Nat} {β : ZB} {loc : List (Nat × AV)} {ls : Array Slot} {nL : Nat} (q : z_lm ν nv β loc ls nL) : z_lm ν nv β [] ls nL := by
  obtain ⟨lv, h1, -⟩ := q
  exact ⟨[], ⟨h1.1, h1.2.1, fun _ hq => by cases hq⟩, trivial⟩
theorem s_ret {k : Nat} (hk9 : k < 9) (d : decode cc pc = .ok (z_ri (k + 1), 1)) : z_sound S ms own mn cc nL pc (h_ret (k + 1)) := by
  intro D K β p l e R s m args below meth c Q σ0 ν0 nv0 k0 E X loc stk V h n sl res hr hS hO ν σ H locs ls vs P
  obtain ⟨a, ha, hr⟩ := z_bdI hr
  obtain ⟨hk, hr⟩ := z_ifI hr
  obtain ⟨hk1, hk2⟩ := z_andI hk
  cases hr
  obtain ⟨p1, p2, p3, p4, p5, p6, p7, p8⟩ := P
  rw [show stk = _ from z_p1I ha, z_nilI hk1] at p7
  obtain ⟨v, rest, rfl, q1, q2⟩ := z_fm_cons p7
  rw [z_fm_nil q2]
  have hT := hO _ List.mem_cons_self
  unfold z_T at hT
  rw [if_pos (show k + 1 < 10 by omega)] at hT
  exact hT ν σ H locs ls v pc ⟨p1, p2, p3, p4, p5, z_lm0 p6, trivial, p8⟩ (fun _ => q1) d
theorem s_vret (d : decode cc pc = .ok (.return_, 1)) : z_sound S ms own mn cc nL pc h_vret := by
  intro D K β p l e R s m args below meth c Q σ0 ν0 nv0 k0 E X loc stk V h n sl res hr hS hO ν σ H locs ls vs P
  obtain ⟨hk, hr⟩ := z_ifI hr
  cases hr
  obtain ⟨p1, p2, p3, p4, p5, p6, p7, p8⟩ := P
  rw [show stk = _ from z_nilI hk] at p7
  rw [z_fm_nil p7]
  have hT := hO _ List.mem_cons_self
  unfold z_T at hT
  rw [if_pos (show 0 < 10 by omega)] at hT
  exact hT ν σ H locs ls .null pc ⟨p1, p2, p3, p4, p5, z_lm0 p6, trivial, p8⟩ (fun g => absurd rfl g) d
theorem s_cutp {j : Nat} : z_sound S ms own mn cc nL pc (h_cutp j pc) := by
  intro D K β p l e R s m args below meth c Q σ0 ν0 nv0 k0 E X loc stk V h n sl res hr hS hO ν σ H locs ls vs P
  obtain ⟨hk, hr⟩ := z_ifI hr
  cases hr
  have hT := hO _ List.mem_cons_self
  unfold z_T at hT
  rw [if_neg (show ¬ Nat.add 10 j < 10 by show ¬ 10 + j < 10; omega)] at hT
  have := z_nilI hk
  subst this
  exact hT ν σ H locs ls vs P
end LO
