/-! calls, Object's constructor, copies, returns -/
def z_cat : List AV → Nat
  | [] => 0
  | a :: l => match z_isL a with
    | true => Nat.add (z_cat l) 2
    | false => Nat.add (z_cat l) 1
theorem z_cat_ok {ν : Nat → Int} {nv B b : Nat} {l : List AV} {vs : List Value} (q : z_fm (z_mt ν nv B b) l vs) : (vs.map fun v => v.category).sum = z_cat l := by
  induction l generalizing vs with
  | nil => rw [z_fm_nil q]; rfl
  | cons a l ih =>
    obtain ⟨v, k, rfl, q1, q2⟩ := z_fm_cons q
    rw [List.map_cons, List.sum_cons, ih q2, z_mt_cat q1, show z_cat (a :: l) = (match z_isL a with | true => Nat.add (z_cat l) 2 | false => Nat.add (z_cat l) 1) from rfl]
    cases z_isL a with
    | true => show 2 + z_cat l = z_cat l + 2; omega
    | false => show 1 + z_cat l = z_cat l + 1; omega
def z_pops : Nat → List AV → List AV → Option (List AV × List AV)
  | 0, l, acc => some (acc, l)
  | k + 1, l, acc => match l with
    | a :: r => z_pops k r (a :: acc)
    | [] => none
theorem z_pops_ok {P : AV → Value → Prop} {k : Nat} {l acc : List AV} {vs accv : List Value} {r : List AV × List AV} (q : z_fm P l vs) (qa : z_fm P acc accv) (h : z_pops k l acc = some r) : ∃ pv rest, vs = pv ++ rest ∧ z_fm P r.1 (pv.reverse ++ accv) ∧ z_fm P r.2 rest ∧ pv.length = k := by
  induction k generalizing l acc vs accv with
  | zero => cases h; exact ⟨[], vs, rfl, qa, q, rfl⟩
  | succ k ih =>
    cases l with
    | nil => cases h
    | cons a l =>
      obtain ⟨v, k', rfl, q1, q2⟩ := z_fm_cons q
      obtain ⟨pv, rest, e1, e2, e3, e4⟩ := ih q2 (acc := a :: acc) (accv := v :: accv) ⟨q1, qa⟩ h
      exact ⟨v :: pv, rest, by rw [e1]; rfl, by simpa using e2, e3, by simp [e4]⟩
def z_outs (rk np : Nat) (loc : List (Nat × AV)) (rest : List AV) (n sl : Nat) : List ZO → List ZS
  | [] => []
  | o :: l => match rk with
    | 0 => (np, loc, rest, o.2.2.1, o.2.2.2.1, n, sl) :: z_outs rk np loc rest n sl l
    | _ + 1 => (np, loc, o.2.1 :: rest, o.2.2.1, o.2.2.2.1, n, sl) :: z_outs rk np loc rest n sl l
theorem z_outs0 {np : Nat} {loc : List (Nat × AV)} {rest : List AV} {n sl : Nat} {l : List ZO} {o : ZO} (h : o ∈ l) : (np, loc, rest, o.2.2.1, o.2.2.2.1, n, sl) ∈ z_outs 0 np loc rest n sl l := by
  induction l with
  | nil => cases h
  | cons a l ih =>
    rcases List.mem_cons.mp h with rfl | h
    · exact List.mem_cons_self
    · exact List.mem_cons_of_mem _ (ih h)
theorem z_outs1 {k np : Nat} {loc : List (Nat × AV)} {rest : List AV} {n sl : Nat} {l : List ZO} {o : ZO} (h : o ∈ l) : (np, loc, o.2.1 :: rest, o.2.2.1, o.2.2.2.1, n, sl) ∈ z_outs (k + 1) np loc rest n sl l := by
  induction l with
  | nil => cases h
  | cons a l ih =>
    rcases List.mem_cons.mp h with rfl | h
    · exact List.mem_cons_self
    · exact List.mem_cons_of_mem _ (ih h)
/-- the room of a call: frames, words, cells, slots -/
def z_room (E : ZE) (nL' mc msl n sl : Nat) (rest : List AV) : Bool := z_and (Nat.ble 1 E.2.1) (z_and (Nat.ble (Nat.add 19 nL') E.2.2.1) (z_and (Nat.ble (z_cat rest) 8) (z_and (Nat.ble (Nat.add n mc) E.2.2.2.1) (Nat.ble (Nat.add sl msl) E.2.2.2.2.1))))
def z_rcv (ci : Nat) (h : T2 AC) (as : List AV) : Bool := match as with
  | [] => false
  | a :: _ => match Nat.beq a.1 4 with
    | false => false
    | true => match z_g2 h a.2.1 with
      | none => false
      | some c => z_and (Nat.beq c.1 0) (Nat.beq c.2.1 ci)
def z_rc0 (as : List AV) : Bool := match as with
  | [] => false
  | a :: _ => Nat.beq a.1 4
def h_callS (q na nL' rk mc msl np : Nat) : ZH := fun E loc stk V h n sl => z_bd (z_pops na stk []) fun a => z_if (z_room E nL' mc msl n sl a.2) (z_bd (E.1 q a.1 V h n (Nat.sub E.2.1 1) (Nat.sub E.2.2.1 (Nat.add 19 nL'))) fun outs => some (z_outs rk np loc a.2 (Nat.add n mc) (Nat.add sl msl) outs, []))
def h_callV (ci q na nL' rk mc msl np : Nat) : ZH := fun E loc stk V h n sl => z_bd (z_pops (Nat.succ na) stk []) fun a => z_if (z_and (z_rcv ci h a.1) (z_room E nL' mc msl n sl a.2)) (z_bd (E.1 q a.1 V h n (Nat.sub E.2.1 1) (Nat.sub E.2.2.1 (Nat.add 19 nL'))) fun outs => some (z_outs rk np loc a.2 (Nat.add n mc) (Nat.add sl msl) outs, []))
def h_callI (q na nL' mc msl np : Nat) : ZH := fun E loc stk V h n sl => z_bd (z_pops (Nat.succ na) stk []) fun a => z_if (z_and (z_rc0 a.1) (z_room E nL' mc msl n sl a.2)) (z_bd (E.1 q a.1 V h n (Nat.sub E.2.1 1) (Nat.sub E.2.2.1 (Nat.add 19 nL'))) fun outs => some (z_outs 0 np loc a.2 (Nat.add n mc) (Nat.add sl msl) outs, []))
section LK
variable {p : Program} {l : Launch} {e : Env} {R : Room} {s : State} {m : MethodId} {args : Array Value} {below : List Frame} {meth : Method} {c : Code} {H : Heap} {locs : List Loc} {cells slots : Nat} {Q : State → Prop} {cc : ByteArray} {pc : Nat} {ls : Array Slot} {rest st0 : List Value} {D : va_G} {K : Nat → ClassId} {B n : Nat} {σ : Nat → va_E} {own : String} {nL : Nat}
  {y : MethodName} {bytes : ByteArray} {maxL mc ms na index f lo : Nat} {ret : Option FieldType} {Qc : Array Value → State → Outcome → State → Prop} {free : Addr → Prop} {host : String} {i ci : Nat} {As av : List Value} {T : u_T} {N : Nat} {fs : List Value}
theorem zp_rV (X : CX p s m args c cc nL own D K) (hz : H.size = B + n) (hH : hw D B n σ s H locs) (hM : Met l y (wb y bytes maxL ret) (rmOf f lo mc ms) (va_Pc (.ref (B + i) :: As) (PZ D K B n σ)) Qc mc ms free) (J : Kw y bytes maxL ret na) (JV : KwV y) (hl : Cond.methodLink own index y ∈ bw) (hi : i < n) (he : σ i = .inr (ci, fs)) (hc : vwCl[ci]? = some (y.cls, T, N)) (hAs : As.length = na) (hst : st0 = As.reverse ++ .ref (B + i) :: rest) (hR : f + 1 ≤ R.frames ∧ 8 + (maxL + 11) + lo ≤ R.locals) (hls : ls.size = nL) (hcat : (rest.map fun v => v.category).sum ≤ 8) (hd : decode cc pc = .ok (.invokevirtual index, 3)) (hf : cells + mc ≤ R.cells ∧ slots + ms ≤ R.slots) :
    va_Run p l e R s m args below meth c H locs cells slots mc ms (F0 m pc ls st0) rest (Qc (.ref (B + i) :: As).toArray) free :=
  va_runV (cfW X) hM ⟨cbW X J hl hR, X.w JV.1, X.w JV.2⟩ ⟨blindZ, recvW X hH hi he hc, preZ X hz hH⟩ rfl hAs hls hst (lv_room hcat) hd hf
theorem zp_rVN (X : CX p s m args c cc nL own D K) (hz : H.size = B + n) (hH : hw D B n σ s H locs) (hM : Met l y (wb y bytes maxL ret) (rmOf f lo mc ms) (va_Pc (.ref (B + i) :: As) (PZ D K B n σ)) Qc mc ms free) (J : Kw y bytes maxL ret na) (JV : KwV y) (hl : Cond.methodLinkNest own index y host ∈ nst) (hi : i < n) (he : σ i = .inr (ci, fs)) (hc : vwCl[ci]? = some (y.cls, T, N)) (hAs : As.length = na) (hst : st0 = As.reverse ++ .ref (B + i) :: rest) (hR : f + 1 ≤ R.frames ∧ 8 + (maxL + 11) + lo ≤ R.locals) (hls : ls.size = nL) (hcat : (rest.map fun v => v.category).sum ≤ 8) (hd : decode cc pc = .ok (.invokevirtual index, 3)) (hf : cells + mc ≤ R.cells ∧ slots + ms ≤ R.slots) :
    va_Run p l e R s m args below meth c H locs cells slots mc ms (F0 m pc ls st0) rest (Qc (.ref (B + i) :: As).toArray) free :=
  va_runVN (cfW X) hM ⟨cnW X J hl hR, X.w JV.1, X.w JV.2⟩ ⟨blindZ, recvW X hH hi he hc, preZ X hz hH⟩ rfl hAs hls hst (lv_room hcat) hd hf
theorem zp_rS (X : CX p s m args c cc nL own D K) (hz : H.size = B + n) (hH : hw D B n σ s H locs) (hM : Met l y (wb y bytes maxL ret) (rmOf f lo mc ms) (va_Pc As (PZ D K B n σ)) Qc mc ms free) (J : Kw y bytes maxL ret na) (JV : KwS y) (hl : Cond.methodLink own index y ∈ bw) (hAs : As.length = na) (hst : st0 = As.reverse ++ rest) (hR : f + 1 ≤ R.frames ∧ 8 + (maxL + 11) + lo ≤ R.locals) (hls : ls.size = nL) (hcat : (rest.map fun v => v.category).sum ≤ 8) (hd : decode cc pc = .ok (.invokestatic index, 3)) (hf : cells + mc ≤ R.cells ∧ slots + ms ≤ R.slots) :
    va_Run p l e R s m args below meth c H locs cells slots mc ms (F0 m pc ls st0) rest (Qc As.toArray) free :=
  va_runS (cfW X) hM ⟨cbW X J hl hR, X.w JV⟩ ⟨blindZ, preZ X hz hH⟩ rfl hAs hls hst (lv_room hcat) hd hf
theorem zp_rSN (X : CX p s m args c cc nL own D K) (hz : H.size = B + n) (hH : hw D B n σ s H locs) (hM : Met l y (wb y bytes maxL ret) (rmOf f lo mc ms) (va_Pc As (PZ D K B n σ)) Qc mc ms free) (J : Kw y bytes maxL ret na) (JV : KwS y) (hl : Cond.methodLinkNest own index y host ∈ nst) (hAs : As.length = na) (hst : st0 = As.reverse ++ rest) (hR : f + 1 ≤ R.frames ∧ 8 + (maxL + 11) + lo ≤ R.locals) (hls : ls.size = nL) (hcat : (rest.map fun v => v.category).sum ≤ 8) (hd : decode cc pc = .ok (.invokestatic index, 3)) (hf : cells + mc ≤ R.cells ∧ slots + ms ≤ R.slots) :
    va_Run p l e R s m args below meth c H locs cells slots mc ms (F0 m pc ls st0) rest (Qc As.toArray) free :=
  va_runSN (cfW X) hM ⟨cnW X J hl hR, X.w JV, trivial⟩ ⟨blindZ, preZ X hz hH⟩ rfl hAs hls hst (lv_room hcat) hd hf
/-- behind a call -/
theorem z_ret {b nv n' rk : Nat} {outs : List ZO} {ν : Nat → Int} {a : Array Value} (hr : va_Run p l e R s m args below meth c H locs cells slots mc ms (F0 m pc ls st0) rest (z_Q D K B b outs ν nv n' rk a) (fr B)) (hH : hw D B n σ s H locs)
    (kk : ∀ (v : Value) (u : Nat → va_E) (H1 : Heap) (locs1 : List Loc), z_post K B b outs ν nv n' rk v u → hw D B n' u s H1 locs1 → W p l e R s m args below meth c H1 locs1 (cells + mc) (slots + ms) Q (F0 m (pc + 3) ls (z_rv rk v ++ rest))) : W p l e R s m args below meth c H locs cells slots Q (F0 m pc ls st0) := by
  match rk, hr, kk with
  | 0, hr, kk => exact va_callv (a := a) hr hH.2 (fun _ _ h => h) (fun _ h => h) (fun u t H1 locs1 ht _ hp hB _ _ hS => kk .null u H1 locs1 hp ⟨by rw [← ht]; exact hB, hS⟩)
  | 1, hr, kk => exact va_calli (a := a) hr hH.2 (fun _ _ h => h) (fun _ h => h) (fun r u t H1 locs1 ht _ hp hB _ _ hS => kk (.int r) u H1 locs1 hp ⟨by rw [← ht]; exact hB, hS⟩)
  | k + 2, hr, kk => exact va_calll (a := a) hr hH.2 (fun _ _ h => h) (fun _ h => h) (fun r u t H1 locs1 ht _ hp hB _ _ hS => kk (.long r) u H1 locs1 (by
      obtain ⟨o, ho, ν', g1, g2, g3, g4, g5, g6⟩ := hp
      exact ⟨o, ho, ν', g1, g2, g3, g4, fun _ => g5 (by decide), g6⟩) ⟨by rw [← ht]; exact hB, hS⟩)
end LK
section LO
variable {ms : List ZM} {own mn : String} {cc : ByteArray} {nL pc np : Nat}
theorem z_size {D : va_G} {p : Program} {l : Launch} {e : Env} {R : Room} {s : State} {m : MethodId} {args : Array Value} {below : List Frame} {meth : Method} {c : Code} {Q : State → Prop} {B k0 n sl : Nat} {σ : Nat → va_E} {H : Heap} {locs : List Loc} {g : JFrame} (hs : s.heap.size = B + k0) (hk : k0 ≤ n) (hH : hw D B n σ s H locs) (kk : H.size = B + n → W p l e R s m args below meth c H locs (n - k0) sl Q g) : W p l e R s m args below meth c H locs (n - k0) sl Q g :=
  hp_sz (fun z1 z2 => kk (by have := hH.1.size (by omega); omega))
/-- a call, seen from the machine over bounds -/
theorem z_callW {D : va_G} {K : Nat → ClassId} {B b : Nat} {p : Program} {l : Launch} {e : Env} {R : Room} {s : State} {m : MethodId} {args : Array Value} {below : List Frame} {meth : Method} {c : Code} {Q : State → Prop} {ν0 : Nat → Int} {nv0 k0 : Nat} {E : ZE} {loc : List (Nat × AV)} {V : VS} {h : T2 AC} {n sl : Nat} {ν : Nat → Int} {σ : Nat → va_E} {H : Heap} {locs : List Loc} {ls : Array Slot} {q nL' rk mc msl : Nat} {y : MethodName} {bytes : ByteArray} {ret : Option FieldType} {as rs : List AV} {outs : List ZO} {av rest vs : List Value} {stk : List AV}
    (X : z_C ms D K B b p l R s m args meth c own mn cc ν0 nv0 k0 nL E) (hq : z_nth ms q = some (y, bytes, nL', ret, rk, mc, msl)) (hroom : z_room E nL' mc msl n sl rs = true) (hcall : E.1 q as V h n (Nat.sub E.2.1 1) (Nat.sub E.2.2.1 (Nat.add 19 nL')) = some outs) (hS : ∀ st ∈ z_outs rk (pc + 3) loc rs (Nat.add n mc) (Nat.add sl msl) outs, z_W D K B b p l e R s m args below meth c Q ν0 nv0 k0 nL st) (P : z_P D K B b s ν0 nv0 k0 nL loc stk V h n ν σ H locs ls vs) (hav : z_fm (z_mt ν (z_len V) B b) as av) (hrest : z_fm (z_mt ν (z_len V) B b) rs rest)
    (run : ∀ (f lo : Nat), H.size = B + n → Met l y (wb y bytes nL' ret) (rmOf f lo mc msl) (va_Pc av (PZ D K B n σ)) (z_Q D K B b outs ν (z_len V) (n + mc) rk) mc msl (fr B) → f + 1 ≤ R.frames ∧ 8 + (nL' + 11) + lo ≤ R.locals → ls.size = nL → (rest.map fun v => v.category).sum ≤ 8 → n - k0 + mc ≤ R.cells ∧ sl + msl ≤ R.slots → va_Run p l e R s m args below meth c H locs (n - k0) sl mc msl (F0 m pc ls vs) rest (z_Q D K B b outs ν (z_len V) (n + mc) rk av.toArray) (fr B)) : W p l e R s m args below meth c H locs (n - k0) sl Q (F0 m pc ls vs) := by
  obtain ⟨x1, x2, x3, x4, x5, x6, x7, x8, x9⟩ := X
  obtain ⟨p1, p2, p3, p4, p5, p6, p7, p8⟩ := P
  obtain ⟨g1, hroom⟩ := z_andI hroom
  obtain ⟨g2, hroom⟩ := z_andI hroom
  obtain ⟨g3, hroom⟩ := z_andI hroom
  obtain ⟨g4, g5⟩ := z_andI hroom
  have g1 := Nat.le_of_ble_eq_true g1
  have g2 : 19 + nL' ≤ E.2.2.1 := Nat.le_of_ble_eq_true g2
  have g3 := Nat.le_of_ble_eq_true g3
  have g4 : n + mc ≤ E.2.2.2.1 := Nat.le_of_ble_eq_true g4
  have g5 : sl + msl ≤ E.2.2.2.2.1 := Nat.le_of_ble_eq_true g5
  obtain ⟨M, hM1, hM2⟩ := x9 q as V h n _ _ outs hcall
  rw [hq] at hM1
  cases hM1
  refine z_size x7 p3 p8 (fun hz => ?_)
  have f1 : Nat.sub E.2.1 1 + 1 = E.2.1 := Nat.sub_add_cancel g1
  have f2 : Nat.sub E.2.2.1 (Nat.add 19 nL') + (19 + nL') = E.2.2.1 := Nat.sub_add_cancel g2
  obtain ⟨lv, l1, l2⟩ := p6
  refine z_ret (run _ _ hz (hM2 ν σ av p4 p5 hav) ⟨by omega, by omega⟩ l1.1 (by rw [z_cat_ok hrest]; exact g3) ⟨by omega, by omega⟩) p8 (fun v u H1 locs1 hp hH1 => ?_)
  obtain ⟨o, ho, ν', q1, q2, q3, q4, q5, q6⟩ := hp
  have goal : ∀ (stk' : List AV) (vs' : List Value), (pc + 3, loc, stk', o.2.2.1, o.2.2.2.1, Nat.add n mc, Nat.add sl msl) ∈ z_outs rk (pc + 3) loc rs (Nat.add n mc) (Nat.add sl msl) outs → z_fm (z_mt ν' (z_len o.2.2.1) B b) stk' vs' → W p l e R s m args below meth c H1 locs1 (n - k0 + mc) (sl + msl) Q (F0 m (pc + 3) ls vs') := fun stk' vs' hin hfm => by
    have := hS _ hin ν' u H1 locs1 ls vs' ⟨fun i hi => (q1 i (Nat.lt_of_lt_of_le hi p2)).trans (p1 i hi), Nat.le_trans p2 q2, (by show k0 ≤ n + mc; omega), q3, q4, ⟨lv, l1, z_fm_mono (fun _ _ z => ⟨z.1, z_mt_ext q1 q2 z.2⟩) l2⟩, hfm, hH1⟩
    exact W.cs (show n - k0 + mc = n + mc - k0 by omega) rfl this
  have hrest' := z_fm_mono (fun _ _ => z_mt_ext q1 q2) hrest
  match rk, goal, q5 with
  | 0, goal, _ => exact goal rs rest (z_outs0 ho) hrest'
  | k + 1, goal, q5 => exact goal (o.2.1 :: rs) (v :: rest) (z_outs1 ho) ⟨q5 (by omega), hrest'⟩
theorem s_callS {q na nL' rk mc msl ix : Nat} {y : MethodName} {bytes : ByteArray} {ret : Option FieldType} (hq : z_nth ms q = some (y, bytes, nL', ret, rk, mc, msl)) (J : Kw y bytes nL' ret na) (JV : KwS y) (hl : Cond.methodLink own ix y ∈ bw) (d : decode cc pc = .ok (.invokestatic ix, 3)) (hn : pc + 3 = np) : z_sound ms own mn cc nL pc (h_callS q na nL' rk mc msl np) := by
  subst hn
  intro D K B b p l e R s m args below meth c Q ν0 nv0 k0 E X loc stk V h n sl res hr hS hO ν σ H locs ls vs P
  obtain ⟨a, ha, hr⟩ := z_bdI hr
  obtain ⟨hroom, hr⟩ := z_ifI hr
  obtain ⟨outs, hcall, hr⟩ := z_bdI hr
  cases hr
  obtain ⟨pv, rest, e1, e2, e3, e4⟩ := z_pops_ok P.2.2.2.2.2.2.1 (acc := []) (accv := []) trivial ha
  rw [List.append_nil] at e2
  refine z_callW X hq hroom hcall hS P e2 e3 (fun f lo hz hM hR hls hcat hf => zp_rS X.1 hz P.2.2.2.2.2.2.2 hM J JV hl (by simpa using e4) (by rw [List.reverse_reverse]; exact e1) hR hls hcat d hf)
theorem s_callSN {q na nL' rk mc msl ix : Nat} {y : MethodName} {bytes : ByteArray} {ret : Option FieldType} {host : String} (hq : z_nth ms q = some (y, bytes, nL', ret, rk, mc, msl)) (J : Kw y bytes nL' ret na) (JV : KwS y) (hl : Cond.methodLinkNest own ix y host ∈ nst) (d : decode cc pc = .ok (.invokestatic ix, 3)) (hn : pc + 3 = np) : z_sound ms own mn cc nL pc (h_callS q na nL' rk mc msl np) := by
  subst hn
  intro D K B b p l e R s m args below meth c Q ν0 nv0 k0 E X loc stk V h n sl res hr hS hO ν σ H locs ls vs P
  obtain ⟨a, ha, hr⟩ := z_bdI hr
  obtain ⟨hroom, hr⟩ := z_ifI hr
  obtain ⟨outs, hcall, hr⟩ := z_bdI hr
  cases hr
  obtain ⟨pv, rest, e1, e2, e3, e4⟩ := z_pops_ok P.2.2.2.2.2.2.1 (acc := []) (accv := []) trivial ha
  rw [List.append_nil] at e2
  refine z_callW X hq hroom hcall hS P e2 e3 (fun f lo hz hM hR hls hcat hf => zp_rSN X.1 hz P.2.2.2.2.2.2.2 hM J JV hl (by simpa using e4) (by rw [List.reverse_reverse]; exact e1) hR hls hcat d hf)
theorem z_rcvI {ν : Nat → Int} {nv B b : Nat} {K : Nat → ClassId} {h : T2 AC} {n ci : Nat} {σ : Nat → va_E} {as : List AV} {av : List Value} (q : z_hm ν nv B b K h n σ) (hav : z_fm (z_mt ν nv B b) as av) (hr : z_rcv ci h as = true) : ∃ (i : Nat) (As : List Value) (fs : List Value), av = .ref (B + i) :: As ∧ i < n ∧ σ i = .inr (ci, fs) := by
  cases as with
  | nil => cases hr
  | cons a as =>
    obtain ⟨v, k, rfl, q1, q2⟩ := z_fm_cons hav
    unfold z_rcv at hr
    simp only at hr
    cases h4 : Nat.beq a.1 4 with
    | false => rw [h4] at hr; cases hr
    | true =>
      rw [h4] at hr
      simp only at hr
      cases hc : z_g2 h a.2.1 with
      | none => rw [hc] at hr; cases hr
      | some c =>
        rw [hc] at hr
        obtain ⟨h1, h2⟩ := z_andI hr
        obtain ⟨i1, fs, i2, -⟩ := z_obj q hc h1
        rw [Nat.eq_of_beq_eq_true h2] at i2
        exact ⟨a.2.1, k, fs, by rw [z_mt_r q1 h4], i1, i2⟩
theorem s_callV {ci q na nL' rk mc msl ix N : Nat} {y : MethodName} {bytes : ByteArray} {ret : Option FieldType} {T : u_T} (hq : z_nth ms q = some (y, bytes, nL', ret, rk, mc, msl)) (J : Kw y bytes nL' ret na) (JV : KwV y) (hci : vwCl[ci]? = some (y.cls, T, N)) (hl : Cond.methodLink own ix y ∈ bw) (d : decode cc pc = .ok (.invokevirtual ix, 3)) (hn : pc + 3 = np) : z_sound ms own mn cc nL pc (h_callV ci q na nL' rk mc msl np) := by
  subst hn
  intro D K B b p l e R s m args below meth c Q ν0 nv0 k0 E X loc stk V h n sl res hr hS hO ν σ H locs ls vs P
  obtain ⟨a, ha, hr⟩ := z_bdI hr
  obtain ⟨hroom, hr⟩ := z_ifI hr
  obtain ⟨hrc, hroom⟩ := z_andI hroom
  obtain ⟨outs, hcall, hr⟩ := z_bdI hr
  cases hr
  obtain ⟨pv, rest, e1, e2, e3, e4⟩ := z_pops_ok P.2.2.2.2.2.2.1 (acc := []) (accv := []) trivial ha
  rw [List.append_nil] at e2
  obtain ⟨i, As, fs, e5, e6, e7⟩ := z_rcvI P.2.2.2.2.1 e2 hrc
  refine z_callW X hq hroom hcall hS P e2 e3 (fun f lo hz hM hR hls hcat hf => ?_)
  have e8 : vs = As.reverse ++ .ref (B + i) :: rest := by
    have : pv = As.reverse ++ [.ref (B + i)] := by rw [← List.reverse_reverse pv, e5]; simp
    rw [e1, this]; simp
  rw [e5] at hM ⊢
  exact zp_rV X.1 hz P.2.2.2.2.2.2.2 hM J JV hl e6 e7 hci (by have := congrArg List.length e5; simp [e4] at this; omega) e8 hR hls hcat d hf
theorem s_callVN {ci q na nL' rk mc msl ix N : Nat} {y : MethodName} {bytes : ByteArray} {ret : Option FieldType} {T : u_T} {host : String} (hq : z_nth ms q = some (y, bytes, nL', ret, rk, mc, msl)) (J : Kw y bytes nL' ret na) (JV : KwV y) (hci : vwCl[ci]? = some (y.cls, T, N)) (hl : Cond.methodLinkNest own ix y host ∈ nst) (d : decode cc pc = .ok (.invokevirtual ix, 3)) (hn : pc + 3 = np) : z_sound ms own mn cc nL pc (h_callV ci q na nL' rk mc msl np) := by
  subst hn
  intro D K B b p l e R s m args below meth c Q ν0 nv0 k0 E X loc stk V h n sl res hr hS hO ν σ H locs ls vs P
  obtain ⟨a, ha, hr⟩ := z_bdI hr
  obtain ⟨hroom, hr⟩ := z_ifI hr
  obtain ⟨hrc, hroom⟩ := z_andI hroom
  obtain ⟨outs, hcall, hr⟩ := z_bdI hr
  cases hr
  obtain ⟨pv, rest, e1, e2, e3, e4⟩ := z_pops_ok P.2.2.2.2.2.2.1 (acc := []) (accv := []) trivial ha
  rw [List.append_nil] at e2
  obtain ⟨i, As, fs, e5, e6, e7⟩ := z_rcvI P.2.2.2.2.1 e2 hrc
  refine z_callW X hq hroom hcall hS P e2 e3 (fun f lo hz hM hR hls hcat hf => ?_)
  have e8 : vs = As.reverse ++ .ref (B + i) :: rest := by
    have : pv = As.reverse ++ [.ref (B + i)] := by rw [← List.reverse_reverse pv, e5]; simp
    rw [e1, this]; simp
  rw [e5] at hM ⊢
  exact zp_rVN X.1 hz P.2.2.2.2.2.2.2 hM J JV hl e6 e7 hci (by have := congrArg List.length e5; simp [e4] at this; omega) e8 hR hls hcat d hf
theorem z_rc0I {ν : Nat → Int} {nv B b : Nat} {as : List AV} {av : List Value} (hav : z_fm (z_mt ν nv B b) as av) (hr : z_rc0 as = true) : ∃ (i : Nat) (As : List Value), av = .ref (B + i) :: As := by
  cases as with
  | nil => cases hr
  | cons a as =>
    obtain ⟨v, k, rfl, q1, q2⟩ := z_fm_cons hav
    exact ⟨a.2.1, k, by rw [z_mt_r q1 hr]⟩
theorem s_callI {q na nL' mc msl ix : Nat} {y : MethodName} {bytes : ByteArray} (hq : z_nth ms q = some (y, bytes, nL', none, 0, mc, msl)) (J : Kw y bytes nL' none na) (JV : KwI y) (hl : Cond.methodLink own ix y ∈ bw) (d : decode cc pc = .ok (.invokespecial ix, 3)) (hn : pc + 3 = np) : z_sound ms own mn cc nL pc (h_callI q na nL' mc msl np) := by
  subst hn
  intro D K B b p l e R s m args below meth c Q ν0 nv0 k0 E X loc stk V h n sl res hr hS hO ν σ H locs ls vs P
  obtain ⟨a, ha, hr⟩ := z_bdI hr
  obtain ⟨hroom, hr⟩ := z_ifI hr
  obtain ⟨hrc, hroom⟩ := z_andI hroom
  obtain ⟨outs, hcall, hr⟩ := z_bdI hr
  cases hr
  obtain ⟨pv, rest, e1, e2, e3, e4⟩ := z_pops_ok P.2.2.2.2.2.2.1 (acc := []) (accv := []) trivial ha
  rw [List.append_nil] at e2
  obtain ⟨i, As, e5⟩ := z_rc0I e2 hrc
  refine z_callW X hq hroom hcall hS P e2 e3 (fun f lo hz hM hR hls hcat hf => ?_)
  have e8 : vs = As.reverse ++ .ref (B + i) :: rest := by
    have : pv = As.reverse ++ [.ref (B + i)] := by rw [← List.reverse_reverse pv, e5]; simp
    rw [e1, this]; simp
  rw [e5] at hM ⊢
  exact hp_rI X.1 hz P.2.2.2.2.2.2.2 hM J JV hl (by have := congrArg List.length e5; simp [e4] at this; omega) e8 hR hls hcat d hf
theorem s_callIN {q na nL' mc msl ix : Nat} {y : MethodName} {bytes : ByteArray} {host : String} (hq : z_nth ms q = some (y, bytes, nL', none, 0, mc, msl)) (J : Kw y bytes nL' none na) (JV : KwI y) (hl : Cond.methodLinkNest own ix y host ∈ nst) (d : decode cc pc = .ok (.invokespecial ix, 3)) (hn : pc + 3 = np) : z_sound ms own mn cc nL pc (h_callI q na nL' mc msl np) := by
  subst hn
  intro D K B b p l e R s m args below meth c Q ν0 nv0 k0 E X loc stk V h n sl res hr hS hO ν σ H locs ls vs P
  obtain ⟨a, ha, hr⟩ := z_bdI hr
  obtain ⟨hroom, hr⟩ := z_ifI hr
  obtain ⟨hrc, hroom⟩ := z_andI hroom
  obtain ⟨outs, hcall, hr⟩ := z_bdI hr
  cases hr
  obtain ⟨pv, rest, e1, e2, e3, e4⟩ := z_pops_ok P.2.2.2.2.2.2.1 (acc := []) (accv := []) trivial ha
  rw [List.append_nil] at e2
  obtain ⟨i, As, e5⟩ := z_rc0I e2 hrc
  refine z_callW X hq hroom hcall hS P e2 e3 (fun f lo hz hM hR hls hcat hf => ?_)
  have e8 : vs = As.reverse ++ .ref (B + i) :: rest := by
    have : pv = As.reverse ++ [.ref (B + i)] := by rw [← List.reverse_reverse pv, e5]; simp
    rw [e1, this]; simp
  rw [e5] at hM ⊢
  exact hp_rIN X.1 hz P.2.2.2.2.2.2.2 hM J JV hl (by have := congrArg List.length e5; simp [e4] at this; omega) e8 hR hls hcat d hf
/-- Object's constructor -/
def h_oinit (np : Nat) : ZH := fun E loc stk V h n sl => z_bd (z_p1 stk) fun a => z_if (z_and (Nat.beq a.1.1 4) (z_and (Nat.ble 1 E.2.1) (Nat.ble (Nat.add (z_cat a.2) 12) E.2.2.1))) (some ([(np, loc, a.2, V, h, n, sl)], []))
theorem s_oinit {ix : Nat} (hl : Cond.methodLink own ix objectInit ∈ bw) (hi : Cond.instanceMethod objectInit ∈ bw) (hc : Cond.code objectInit ⟨#[0xb1]⟩ 1 none ∈ bw) (d : decode cc pc = .ok (.invokespecial ix, 3)) (hn : pc + 3 = np) : z_sound ms own mn cc nL pc (h_oinit np) := by
  subst hn
  intro D K B b p l e R s m args below meth c Q ν0 nv0 k0 E X loc stk V h n sl res hr hS hO ν σ H locs ls vs P
  obtain ⟨a, ha, hr⟩ := z_bdI hr
  obtain ⟨hk, hr⟩ := z_ifI hr
  obtain ⟨hk1, hk⟩ := z_andI hk
  obtain ⟨hk2, hk3⟩ := z_andI hk
  cases hr
  have p7 := P.2.2.2.2.2.2.1
  rw [show stk = _ from z_p1I ha] at p7
  obtain ⟨vx, rest, rfl, q1, q2⟩ := z_fm_cons p7
  obtain rfl := z_mt_r q1 hk1
  have hk2 := Nat.le_of_ble_eq_true hk2
  have hk3 : z_cat a.2 + 12 ≤ E.2.2.1 := Nat.le_of_ble_eq_true hk3
  have x3 := X.2.2.1
  have x4 := X.2.2.2.1
  obtain ⟨lv, l1, -⟩ := P.2.2.2.2.2.1
  refine W.objInit X.1.1 X.1.2.1 X.1.2.2.2.1 (X.1.w hl) (X.1.w hi) (X.1.w hc) rfl (by rw [X.1.2.2.1]; exact l1.1) rfl d (by omega) ?_ (W.eq (g2 := F0 m (pc + 3) ls rest) rfl (hS _ List.mem_cons_self ν σ H locs ls rest (z_Pk P q2)))
  show 2 * 0 + _ + 12 ≤ _
  rw [z_cat_ok q2]
  omega
/-- copies of int rows: the whole of one of the same length, or any part -/
def z_cp (V : VS) (cs cd : AC) (sp dp ln : Int × Int) : Option (List AV) := match z_and (z_and (z_one sp) (z_one dp)) (z_and (z_one ln) (z_and (z_le sp.1 0) (z_and (z_le dp.1 0) (z_and (z_le (Int.ofNat cs.2.1) ln.1) (Nat.beq cs.2.1 cd.2.1))))) with
  | true => some cs.2.2
  | false => z_bd (z_hull V cs.2.2) fun i => z_bd (z_hull V cd.2.2) fun j => some [(0, 0, z_min i.1 j.1, z_max i.2 j.2)]
def z_fits (sp ln : Int × Int) (len : Nat) : Bool := z_and (z_le 0 sp.1) (z_and (z_le 0 ln.1) (z_le (Int.add sp.2 ln.2) (Int.ofNat len)))
def h_copy (np : Nat) : ZH := fun E loc stk V h n sl => z_bd (z_p1 stk) fun ln => z_bd (z_p1 ln.2) fun dp => z_bd (z_p1 dp.2) fun dr => z_bd (z_p1 dr.2) fun sp => z_bd (z_p1 sp.2) fun sr => z_if (z_and (z_and (z_isI ln.1) (z_and (z_isI dp.1) (z_isI sp.1))) (z_and (z_and (Nat.beq dr.1.1 4) (Nat.beq sr.1.1 4)) (z_and (Nat.ble 1 E.2.1) (Nat.ble (Nat.add (z_cat sr.2) 60) E.2.2.1)))) (z_bd (z_g2 h sr.1.2.1) fun cs => z_bd (z_g2 h dr.1.2.1) fun cd => z_bd (z_iv V sp.1) fun isp => z_bd (z_iv V dp.1) fun idp => z_bd (z_iv V ln.1) fun iln => z_if (z_and (z_and (Nat.beq cs.1 1) (Nat.beq cd.1 1)) (z_and (z_fits isp iln cs.2.1) (z_fits idp iln cd.2.1))) (z_bd (z_cp V cs cd isp idp iln) fun r => some ([(np, loc, sr.2, V, z_s2 h dr.1.2.1 (1, cd.2.1, r), n, sl)], [])))
theorem z_fitsI {sp ln : Int × Int} {len : Nat} {x y : Int32} (h : z_fits sp ln len = true) (h1 : sp.1 ≤ x.toInt) (h2 : x.toInt ≤ sp.2) (h3 : ln.1 ≤ y.toInt) (h4 : y.toInt ≤ ln.2) : ¬ x < 0 ∧ ¬ y < 0 ∧ x.toNatClampNeg + y.toNatClampNeg ≤ len ∧ (x.toNatClampNeg : Int) = x.toInt ∧ (y.toNatClampNeg : Int) = y.toInt := by
  obtain ⟨a1, a⟩ := z_andI h
  obtain ⟨a2, a3⟩ := z_andI a
  have a1 := z_le_iff.mp a1
  have a2 := z_le_iff.mp a2
  have a3 : sp.2 + ln.2 ≤ (len : Int) := z_le_iff.mp a3
  have e1 : (x.toNatClampNeg : Int) = x.toInt := rg_clamp (a := sp.1) (b := sp.2) ⟨h1, h2⟩ a1
  have e2 : (y.toNatClampNeg : Int) = y.toInt := rg_clamp (a := ln.1) (b := ln.2) ⟨h3, h4⟩ a2
  exact ⟨fun g => absurd (i_lt.mp g) (by show ¬ x.toInt < 0; omega), fun g => absurd (i_lt.mp g) (by show ¬ y.toInt < 0; omega), by omega, e1, e2⟩
theorem z_hullA {ν : Nat → Int} {B b : Nat} {V : VS} {l : List AV} {w : Int × Int} {j : Nat} {a : AV} {x : Int32} (hs : z_sat ν V) (h : z_hull V l = some w) (ha : z_at l j = some a) (hm : z_mt ν (z_len V) B b a (.int x)) : w.1 ≤ x.toInt ∧ x.toInt ≤ w.2 := by
  have hz : z_zm ν (z_len V) a x.toInt := by
    rcases hm with ⟨g1, y, g2, g3⟩ | ⟨g1, y, g2, g3⟩ | ⟨-, g2⟩ | ⟨-, g2⟩ | ⟨-, g2⟩
    all_goals first | (cases g2; exact g3) | cases g2
  have : ∃ j', z_nth l j' = some a := by
    match l, ha with
    | [d], ha => cases ha; exact ⟨0, rfl⟩
    | d :: g :: k, ha => exact ⟨j, ha⟩
  obtain ⟨j', hj⟩ := this
  obtain ⟨i, e1, e2, e3⟩ := z_hull_ok h hj
  have := z_iv_ok hs hz e1
  exact ⟨Int.le_trans e2 this.1, Int.le_trans this.2 e3⟩
theorem s_copy {ix : Nat} (hl : Cond.methodLink own ix arraycopyName ∈ bw) (hnat : Cond.native arraycopyName ∈ bw) (hst : Cond.static arraycopyName ∈ bw) (hini : Cond.initialized "java/lang/System" ∈ bw) (hw60 : nativeFrameWords "java/lang/System" "arraycopy" 5 + 11 ≤ 60) (d : decode cc pc = .ok (.invokestatic ix, 3)) (hn : pc + 3 = np) : z_sound ms own mn cc nL pc (h_copy np) := by
  subst hn
  intro D K B b p l e R s m args below meth c Q ν0 nv0 k0 E X loc stk V h n sl res hr hS hO ν σ H locs ls vs P
  obtain ⟨ln, hln, hr⟩ := z_bdI hr
  obtain ⟨dp, hdp, hr⟩ := z_bdI hr
  obtain ⟨dr, hdr, hr⟩ := z_bdI hr
  obtain ⟨sp, hsp, hr⟩ := z_bdI hr
  obtain ⟨sr, hsr, hr⟩ := z_bdI hr
  obtain ⟨hk, hr⟩ := z_ifI hr
  obtain ⟨ka, kb⟩ := z_andI hk
  obtain ⟨kln, ka⟩ := z_andI ka
  obtain ⟨kdp, ksp⟩ := z_andI ka
  obtain ⟨kc, kd⟩ := z_andI kb
  obtain ⟨kdr, ksr⟩ := z_andI kc
  obtain ⟨kf, kw⟩ := z_andI kd
  obtain ⟨cs, hcs, hr⟩ := z_bdI hr
  obtain ⟨cd, hcd, hr⟩ := z_bdI hr
  obtain ⟨isp, hisp, hr⟩ := z_bdI hr
  obtain ⟨idp, hidp, hr⟩ := z_bdI hr
  obtain ⟨iln, hiln, hr⟩ := z_bdI hr
  obtain ⟨hk, hr⟩ := z_ifI hr
  obtain ⟨k1, k2⟩ := z_andI hk
  obtain ⟨kcs, kcd⟩ := z_andI k1
  obtain ⟨kfs, kfd⟩ := z_andI k2
  obtain ⟨r, hcp, hr⟩ := z_bdI hr
  cases hr
  obtain ⟨p1, p2, p3, p4, p5, p6, p7, p8⟩ := P
  rw [show stk = _ from z_p1I hln, z_p1I hdp, z_p1I hdr, z_p1I hsp, z_p1I hsr] at p7
  obtain ⟨v1, r1, rfl, q1, t1⟩ := z_fm_cons p7
  obtain ⟨v2, r2, rfl, q2, t2⟩ := z_fm_cons t1
  obtain ⟨v3, r3, rfl, q3, t3⟩ := z_fm_cons t2
  obtain ⟨v4, r4, rfl, q4, t4⟩ := z_fm_cons t3
  obtain ⟨v5, rest, rfl, q5, t5⟩ := z_fm_cons t4
  obtain ⟨xl, rfl, hxl⟩ := z_mt_i q1 kln
  obtain ⟨xd, rfl, hxd⟩ := z_mt_i q2 kdp
  obtain ⟨xs, rfl, hxs⟩ := z_mt_i q4 ksp
  obtain rfl := z_mt_r q3 kdr
  obtain rfl := z_mt_r q5 ksr
  have bl := z_iv_ok p4 hxl hiln
  have bd := z_iv_ok p4 hxd hidp
  have bs := z_iv_ok p4 hxs hisp
  obtain ⟨f1, f2, f3, f4, f5⟩ := z_fitsI kfs bs.1 bs.2 bl.1 bl.2
  obtain ⟨g1, g2, g3, g4, g5⟩ := z_fitsI kfd bd.1 bd.2 bl.1 bl.2
  have kcs := Nat.eq_of_beq_eq_true kcs
  have kcd := Nat.eq_of_beq_eq_true kcd
  obtain ⟨i1, f, hf, hel1⟩ := z_arI p5 hcs (Or.inl kcs)
  obtain ⟨i2, g, hg, hel2⟩ := z_arI p5 hcd (Or.inl kcd)
  rw [kcs] at hf
  rw [kcd] at hg
  have kf := Nat.le_of_ble_eq_true kf
  have kw : z_cat sr.2 + 60 ≤ E.2.2.1 := Nat.le_of_ble_eq_true kw
  have x3 := X.2.2.1
  have x4 := X.2.2.2.1
  obtain ⟨lv, l1, l2⟩ := p6
  refine hp_copy X.1 l1.1 p8 hl hnat hst hini sr.1.2.1 dr.1.2.1 i1 i2 hf hg f1 g1 f2 f3 g3 (by omega) (by rw [z_cat_ok t5]; omega) d (fun H locs hH => hS _ List.mem_cons_self ν _ H locs ls rest ⟨p1, p2, p3, p4, z_hm_set p5 hcd i2 (Or.inr (Or.inl ⟨Or.inl rfl, _, rfl, ?_⟩)), ⟨lv, l1, l2⟩, t5, hH⟩)
  intro j hj
  have hj : j < cd.2.1 := hj
  unfold z_cp at hcp
  cases hall : z_and (z_and (z_one isp) (z_one idp)) (z_and (z_one iln) (z_and (z_le isp.1 0) (z_and (z_le idp.1 0) (z_and (z_le (Int.ofNat cs.2.1) iln.1) (Nat.beq cs.2.1 cd.2.1))))) with
  | true =>
    rw [hall] at hcp
    cases hcp
    obtain ⟨a1, a⟩ := z_andI hall
    obtain ⟨a1, a2⟩ := z_andI a1
    obtain ⟨a3, a⟩ := z_andI a
    obtain ⟨a4, a⟩ := z_andI a
    obtain ⟨a5, a⟩ := z_andI a
    obtain ⟨a6, a7⟩ := z_andI a
    have a1 := z_le_iff.mp a1
    have a2 := z_le_iff.mp a2
    have a4 := z_le_iff.mp a4
    have a5 := z_le_iff.mp a5
    have a6 : (cs.2.1 : Int) ≤ iln.1 := z_le_iff.mp a6
    have a7 := Nat.eq_of_beq_eq_true a7
    obtain ⟨a, e1, e2⟩ := hel1 j (by omega)
    refine ⟨a, e1, ?_⟩
    have : va_cpy f g xs.toNatClampNeg xd.toNatClampNeg xl.toNatClampNeg j = f j := by
      unfold va_cpy
      rw [if_pos (by omega), show xs.toNatClampNeg + (j - xd.toNatClampNeg) = j by omega]
    rw [this]
    exact e2
  | false =>
    rw [hall] at hcp
    obtain ⟨w1, hw1, hcp⟩ := z_bdI hcp
    obtain ⟨w2, hw2, hcp⟩ := z_bdI hcp
    cases hcp
    refine ⟨_, rfl, ?_⟩
    unfold va_cpy
    by_cases hin : xd.toNatClampNeg ≤ j ∧ j < xd.toNatClampNeg + xl.toNatClampNeg
    · rw [if_pos hin]
      obtain ⟨a, e1, e2⟩ := hel1 (xs.toNatClampNeg + (j - xd.toNatClampNeg)) (by omega)
      have := z_hullA p4 hw1 e1 e2
      exact z_mkI (Int.le_trans z_min_le.1 this.1) (Int.le_trans this.2 z_max_le.1)
    · rw [if_neg hin]
      obtain ⟨a, e1, e2⟩ := hel2 j hj
      have := z_hullA p4 hw2 e1 e2
      exact z_mkI (Int.le_trans z_min_le.2.1 this.1) (Int.le_trans this.2 z_max_le.2.1)
/-- returns -/
def z_nil (l : List AV) : Bool := match l with
  | [] => true
  | _ :: _ => false
def h_ret (k : Nat) : ZH := fun _ _ stk V h n sl => z_bd (z_p1 stk) fun a => z_if (z_and (z_nil a.2) (z_kd (Nat.sub k 1) a.1)) (some ([], [(k, a.1, V, h, n, sl)]))
def h_vret : ZH := fun _ _ stk V h n sl => z_if (z_nil stk) (some ([], [(0, (5, 0, 0, 0), V, h, n, sl)]))
theorem z_nilI {l : List AV} (h : z_nil l = true) : l = [] := by cases l with | nil => rfl | cons => cases h
theorem z_lm0 {ν : Nat → Int} {nv B b : Nat} {loc : List (Nat × AV)} {ls : Array Slot} {nL : Nat} (q : z_lm ν nv B b loc ls nL) : z_lm ν nv B b [] ls nL := by
  obtain ⟨lv, h1, -⟩ := q
  exact ⟨[], ⟨h1.1, h1.2.1, fun _ hq => by cases hq⟩, trivial⟩
theorem s_ret {k : Nat} (d : decode cc pc = .ok (z_ri (k + 1), 1)) : z_sound ms own mn cc nL pc (h_ret (k + 1)) := by
  intro D K B b p l e R s m args below meth c Q ν0 nv0 k0 E X loc stk V h n sl res hr hS hO ν σ H locs ls vs P
  obtain ⟨a, ha, hr⟩ := z_bdI hr
  obtain ⟨hk, hr⟩ := z_ifI hr
  obtain ⟨hk1, hk2⟩ := z_andI hk
  cases hr
  obtain ⟨p1, p2, p3, p4, p5, p6, p7, p8⟩ := P
  rw [show stk = _ from z_p1I ha, z_nilI hk1] at p7
  obtain ⟨v, rest, rfl, q1, q2⟩ := z_fm_cons p7
  rw [z_fm_nil q2]
  exact hO _ List.mem_cons_self ν σ H locs ls v pc ⟨p1, p2, p3, p4, p5, z_lm0 p6, trivial, p8⟩ (fun _ => q1) d
theorem s_vret (d : decode cc pc = .ok (.return_, 1)) : z_sound ms own mn cc nL pc h_vret := by
  intro D K B b p l e R s m args below meth c Q ν0 nv0 k0 E X loc stk V h n sl res hr hS hO ν σ H locs ls vs P
  obtain ⟨hk, hr⟩ := z_ifI hr
  cases hr
  obtain ⟨p1, p2, p3, p4, p5, p6, p7, p8⟩ := P
  rw [show stk = _ from z_nilI hk] at p7
  rw [z_fm_nil p7]
  exact hO _ List.mem_cons_self ν σ H locs ls .null pc ⟨p1, p2, p3, p4, p5, z_lm0 p6, trivial, p8⟩ (fun g => absurd rfl g) d
end LO
