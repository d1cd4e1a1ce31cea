/-! handlers: locals, constants, arithmetic, the stack, branches -/
def h_bad : ZH := fun _ _ _ _ _ _ _ => none
theorem s_bad {S : List ZT} {ms : List ZM} {own mn : String} {cc : ByteArray} {nL pc : Nat} : z_sound S ms own mn cc nL pc h_bad := by
  intro D K β p l e R s m args below meth c Q σ0 ν0 nv0 k0 E X loc stk V h n sl res hr
  cases hr
def z_lkp : List (Nat × AV) → Nat → Option AV
  | [], _ => none
  | q :: l, i => match Nat.beq q.1 i with
    | true => some q.2
    | false => z_lkp l i
theorem z_lkp_ok {P : AV → Value → Prop} {loc : List (Nat × AV)} {lv : List (Nat × Value)} {i : Nat} {a : AV} (q : z_fm (fun (a : Nat × AV) (q : Nat × Value) => a.1 = q.1 ∧ P a.2 q.2) loc lv) (h : z_lkp loc i = some a) : ∃ v, (i, v) ∈ lv ∧ P a v := by
  induction loc generalizing lv with
  | nil => cases h
  | cons r l ih =>
    obtain ⟨w, k, rfl, q1, q2⟩ := z_fm_cons q
    unfold z_lkp at h
    cases hb : Nat.beq r.1 i with
    | true =>
      rw [hb] at h
      cases h
      exact ⟨w.2, by rw [← Nat.eq_of_beq_eq_true hb, q1.1]; exact List.mem_cons_self, q1.2⟩
    | false =>
      rw [hb] at h
      obtain ⟨v, h1, h2⟩ := ih q2 h
      exact ⟨v, List.mem_cons_of_mem _ h1, h2⟩
def z_isR (a : AV) : Bool := Nat.ble 4 a.1
theorem z_mt_ref {ν : Nat → Int} {nv : Nat} {β : ZB} {a : AV} {v : Value} (q : z_mt ν nv β a v) (h : z_isR a = true) (h5 : Nat.beq a.1 5 = false) : ∃ x : Nat, v = .ref x := by
  have h : 4 ≤ a.1 := Nat.le_of_ble_eq_true h
  have h5 : a.1 ≠ 5 := fun e => by rw [e] at h5; cases h5
  rcases q with ⟨h1, _⟩ | ⟨h1, _⟩ | ⟨h1, _⟩ | ⟨h1, _⟩ | ⟨_, q⟩ | ⟨h1, _⟩ | ⟨_, r, q⟩ | ⟨_, q, -⟩ | ⟨_, q⟩ | ⟨_, q⟩
  all_goals first | exact ⟨_, q⟩ | omega
def z_isRn (a : AV) : Bool := z_and (z_isR a) (match Nat.beq a.1 5 with
  | true => false
  | false => true)
theorem z_mt_rn {ν : Nat → Int} {nv : Nat} {β : ZB} {a : AV} {v : Value} (q : z_mt ν nv β a v) (h : z_isRn a = true) : ∃ x : Nat, v = .ref x := by
  obtain ⟨h1, h2⟩ := z_andI h
  refine z_mt_ref q h1 ?_
  cases h5 : Nat.beq a.1 5 with
  | false => rfl
  | true => rw [h5] at h2; cases h2
def z_kd (k : Nat) (a : AV) : Bool := match k with
  | 0 => z_isI a
  | 1 => z_isL a
  | _ => z_isRn a
def h_load (i k np : Nat) : ZH := fun _ loc stk V h n sl => z_bd (z_lkp loc i) fun a => z_if (z_kd k a) (some ([(np, loc, a :: stk, V, h, n, sl)], []))
section L1
variable {S : List ZT} {ms : List ZM} {D : va_G} {K : Nat → ClassId} {β : ZB} {p : Program} {l : Launch} {e : Env} {R : Room} {s : State} {m : MethodId} {args : Array Value} {below : List Frame} {meth : Method} {c : Code} {Q : State → Prop} {σ0 : Nat → va_E} {ν0 : Nat → Int} {nv0 k0 nL : Nat} {E : ZE} {own mn : String} {cc : ByteArray} {loc : List (Nat × AV)} {stk : List AV} {V : VS} {h : T2 AC} {n sl : Nat} {res : List ZS × List ZO} {ν : Nat → Int} {σ : Nat → va_E} {H : Heap} {locs : List Loc} {ls : Array Slot} {vs : List Value} {pc np : Nat}
/-- the same world with another stack -/
theorem z_Pk {stk' : List AV} {vs' : List Value} (P : z_P D K β s σ0 ν0 nv0 k0 nL loc stk V h n ν σ H locs ls vs) (q : z_fm (z_mt ν (z_len V.1) β) stk' vs') : z_P D K β s σ0 ν0 nv0 k0 nL loc stk' V h n ν σ H locs ls vs' := ⟨P.1, P.2.1, P.2.2.1, P.2.2.2.1, P.2.2.2.2.1, P.2.2.2.2.2.1, q, P.2.2.2.2.2.2.2⟩
/-- other bounds, as many names -/
theorem z_Pb {V' : VS} (P : z_P D K β s σ0 ν0 nv0 k0 nL loc stk V h n ν σ H locs ls vs) (q : z_sat ν V') (hl : z_len V'.1 = z_len V.1) : z_P D K β s σ0 ν0 nv0 k0 nL loc stk V' h n ν σ H locs ls vs := ⟨P.1, by rw [hl]; exact P.2.1, P.2.2.1, q, by rw [hl]; exact P.2.2.2.2.1, by rw [hl]; exact P.2.2.2.2.2.1, by rw [hl]; exact P.2.2.2.2.2.2.1, P.2.2.2.2.2.2.2⟩
theorem z_load {i k : Nat} (hr : h_load i k np E loc stk V h n sl = some res) (hS : ∀ st ∈ res.1, z_W D K β p l e R s m args below meth c Q σ0 ν0 nv0 k0 nL st) (P : z_P D K β s σ0 ν0 nv0 k0 nL loc stk V h n ν σ H locs ls vs) : ∃ (a : AV) (v : Value), z_kd k a = true ∧ z_mt ν (z_len V.1) β a v ∧ ls[i]? = some (.val v) ∧ W p l e R s m args below meth c H locs (n - k0) sl Q (F0 m np ls (v :: vs)) := by
  obtain ⟨a, ha, hr⟩ := z_bdI hr
  obtain ⟨hk, hr⟩ := z_ifI hr
  cases hr
  obtain ⟨lv, h1, h2⟩ := P.2.2.2.2.2.1
  obtain ⟨v, h3, h4⟩ := z_lkp_ok h2 ha
  exact ⟨a, v, hk, h4, h1.2.2 (i, v) h3, hS _ List.mem_cons_self ν σ H locs ls (v :: vs) (z_Pk P ⟨h4, P.2.2.2.2.2.2.1⟩)⟩
end L1
theorem s_iload_n {S : List ZT} {ms : List ZM} {own mn : String} {cc : ByteArray} {nL pc np i : Nat} {k : Fin 4} (d : decode cc pc = .ok (.iload_n k, 1)) (hi : (k : Nat) = i) (hn : pc + 1 = np) : z_sound S ms own mn cc nL pc (h_load i 0 np) := by
  subst hn
  intro D K β p l e R s m args below meth c Q σ0 ν0 nv0 k0 E X loc stk V h n sl res hr hS hO ν σ H locs ls vs P
  obtain ⟨a, v, hk, hm, hl, kk⟩ := z_load hr hS P
  obtain ⟨-, x, rfl, -⟩ := z_mt_i hm hk
  exact lv_iload_n X.1.1 X.1.2.1 d hi hl kk
theorem s_iload {S : List ZT} {ms : List ZM} {own mn : String} {cc : ByteArray} {nL pc np i : Nat} (d : decode cc pc = .ok (.iload i, 2)) (hn : pc + 2 = np) : z_sound S ms own mn cc nL pc (h_load i 0 np) := by
  subst hn
  intro D K β p l e R s m args below meth c Q σ0 ν0 nv0 k0 E X loc stk V h n sl res hr hS hO ν σ H locs ls vs P
  obtain ⟨a, v, hk, hm, hl, kk⟩ := z_load hr hS P
  obtain ⟨-, x, rfl, -⟩ := z_mt_i hm hk
  exact lv_iload X.1.1 X.1.2.1 d hl kk
theorem s_lload_n {S : List ZT} {ms : List ZM} {own mn : String} {cc : ByteArray} {nL pc np i : Nat} {k : Fin 4} (d : decode cc pc = .ok (.lload_n k, 1)) (hi : (k : Nat) = i) (hn : pc + 1 = np) : z_sound S ms own mn cc nL pc (h_load i 1 np) := by
  subst hn
  intro D K β p l e R s m args below meth c Q σ0 ν0 nv0 k0 E X loc stk V h n sl res hr hS hO ν σ H locs ls vs P
  obtain ⟨a, v, hk, hm, hl, kk⟩ := z_load hr hS P
  obtain ⟨-, x, rfl, -⟩ := z_mt_l hm hk
  exact lv_lload_n X.1.1 X.1.2.1 d hi hl kk
theorem s_lload {S : List ZT} {ms : List ZM} {own mn : String} {cc : ByteArray} {nL pc np i : Nat} (d : decode cc pc = .ok (.lload i, 2)) (hn : pc + 2 = np) : z_sound S ms own mn cc nL pc (h_load i 1 np) := by
  subst hn
  intro D K β p l e R s m args below meth c Q σ0 ν0 nv0 k0 E X loc stk V h n sl res hr hS hO ν σ H locs ls vs P
  obtain ⟨a, v, hk, hm, hl, kk⟩ := z_load hr hS P
  obtain ⟨-, x, rfl, -⟩ := z_mt_l hm hk
  exact lv_lload X.1.1 X.1.2.1 d hl kk
theorem s_aload_n {S : List ZT} {ms : List ZM} {own mn : String} {cc : ByteArray} {nL pc np i : Nat} {k : Fin 4} (d : decode cc pc = .ok (.aload_n k, 1)) (hi : (k : Nat) = i) (hn : pc + 1 = np) : z_sound S ms own mn cc nL pc (h_load i 2 np) := by
  subst hn
  intro D K β p l e R s m args below meth c Q σ0 ν0 nv0 k0 E X loc stk V h n sl res hr hS hO ν σ H locs ls vs P
  obtain ⟨a, v, hk, hm, hl, kk⟩ := z_load hr hS P
  obtain ⟨x, rfl⟩ := z_mt_rn hm hk
  exact lv_aload_n X.1.1 X.1.2.1 d hi hl kk
theorem s_aload {S : List ZT} {ms : List ZM} {own mn : String} {cc : ByteArray} {nL pc np i : Nat} (d : decode cc pc = .ok (.aload i, 2)) (hn : pc + 2 = np) : z_sound S ms own mn cc nL pc (h_load i 2 np) := by
  subst hn
  intro D K β p l e R s m args below meth c Q σ0 ν0 nv0 k0 E X loc stk V h n sl res hr hS hO ν σ H locs ls vs P
  obtain ⟨a, v, hk, hm, hl, kk⟩ := z_load hr hS P
  obtain ⟨x, rfl⟩ := z_mt_rn hm hk
  exact lv_aload X.1.1 X.1.2.1 d hl kk
/-- constants -/
def h_ci (v : Int) (np : Nat) : ZH := fun _ loc stk V h n sl => some ([(np, loc, (0, 0, v, 0, []) :: stk, V, h, n, sl)], [])
def h_cl (v : Int) (np : Nat) : ZH := fun _ loc stk V h n sl => some ([(np, loc, (2, 0, v, 0, []) :: stk, V, h, n, sl)], [])
section L2
variable {S : List ZT} {ms : List ZM} {own mn : String} {cc : ByteArray} {nL pc np : Nat} {v : Int}
theorem s_iconst (d : decode cc pc = .ok (.iconst v, 1)) (hv : (Int32.ofInt v).toInt = v) (hn : pc + 1 = np) : z_sound S ms own mn cc nL pc (h_ci v np) := by
  subst hn
  intro D K β p l e R s m args below meth c Q σ0 ν0 nv0 k0 E X loc stk V h n sl res hr hS hO ν σ H locs ls vs P
  cases hr
  exact lv_iconst X.1.1 X.1.2.1 d rfl (hS _ List.mem_cons_self ν σ H locs ls _ (z_Pk P ⟨z_mkI (f := (v, [])) f_wf0 (by rw [hv]; show v = v + 0; omega), P.2.2.2.2.2.2.1⟩))
theorem s_bipush (d : decode cc pc = .ok (.bipush v, 2)) (hv : ((Int8.ofInt v).toInt32).toInt = v) (hn : pc + 2 = np) : z_sound S ms own mn cc nL pc (h_ci v np) := by
  subst hn
  intro D K β p l e R s m args below meth c Q σ0 ν0 nv0 k0 E X loc stk V h n sl res hr hS hO ν σ H locs ls vs P
  cases hr
  exact lv_bipush X.1.1 X.1.2.1 d rfl (hS _ List.mem_cons_self ν σ H locs ls _ (z_Pk P ⟨z_mkI (f := (v, [])) f_wf0 (by rw [hv]; show v = v + 0; omega), P.2.2.2.2.2.2.1⟩))
theorem s_sipush (d : decode cc pc = .ok (.sipush v, 3)) (hv : ((Int16.ofInt v).toInt32).toInt = v) (hn : pc + 3 = np) : z_sound S ms own mn cc nL pc (h_ci v np) := by
  subst hn
  intro D K β p l e R s m args below meth c Q σ0 ν0 nv0 k0 E X loc stk V h n sl res hr hS hO ν σ H locs ls vs P
  cases hr
  exact lv_sipush X.1.1 X.1.2.1 d rfl (hS _ List.mem_cons_self ν σ H locs ls _ (z_Pk P ⟨z_mkI (f := (v, [])) f_wf0 (by rw [hv]; show v = v + 0; omega), P.2.2.2.2.2.2.1⟩))
theorem s_ldc {ix : Nat} {w : Int32} (d : decode cc pc = .ok (.ldc ix, 2)) (hw : Cond.constant own ix w ∈ bw) (hv : w.toInt = v) (hn : pc + 2 = np) : z_sound S ms own mn cc nL pc (h_ci v np) := by
  subst hn
  intro D K β p l e R s m args below meth c Q σ0 ν0 nv0 k0 E X loc stk V h n sl res hr hS hO ν σ H locs ls vs P
  cases hr
  exact lv_ldc X.1.1 X.1.2.1 X.1.2.2.2.1 (X.1.w hw) d (hS _ List.mem_cons_self ν σ H locs ls _ (z_Pk P ⟨z_mkI (f := (v, [])) f_wf0 (by rw [hv]; show v = v + 0; omega), P.2.2.2.2.2.2.1⟩))
theorem s_ldcw {ix : Nat} {w : Int32} (d : decode cc pc = .ok (.ldc_w ix, 3)) (hw : Cond.constant own ix w ∈ bw) (hv : w.toInt = v) (hn : pc + 3 = np) : z_sound S ms own mn cc nL pc (h_ci v np) := by
  subst hn
  intro D K β p l e R s m args below meth c Q σ0 ν0 nv0 k0 E X loc stk V h n sl res hr hS hO ν σ H locs ls vs P
  cases hr
  exact lv_ldcw X.1.1 X.1.2.1 X.1.2.2.2.1 (X.1.w hw) d (hS _ List.mem_cons_self ν σ H locs ls _ (z_Pk P ⟨z_mkI (f := (v, [])) f_wf0 (by rw [hv]; show v = v + 0; omega), P.2.2.2.2.2.2.1⟩))
theorem s_lconst {k : Fin 2} (d : decode cc pc = .ok (.lconst k, 1)) (hv : (Int64.ofNat (k : Nat)).toInt = v) (hn : pc + 1 = np) : z_sound S ms own mn cc nL pc (h_cl v np) := by
  subst hn
  intro D K β p l e R s m args below meth c Q σ0 ν0 nv0 k0 E X loc stk V h n sl res hr hS hO ν σ H locs ls vs P
  cases hr
  exact lv_lconst X.1.1 X.1.2.1 d rfl (hS _ List.mem_cons_self ν σ H locs ls _ (z_Pk P ⟨z_mkL (f := (v, [])) f_wf0 (by rw [hv]; show v = v + 0; omega), P.2.2.2.2.2.2.1⟩))
theorem s_ldc2 {ix : Nat} {w : Int64} (d : decode cc pc = .ok (.ldc2_w ix, 3)) (hw : Cond.constantLong own ix w ∈ bw) (hv : w.toInt = v) (hn : pc + 3 = np) : z_sound S ms own mn cc nL pc (h_cl v np) := by
  subst hn
  intro D K β p l e R s m args below meth c Q σ0 ν0 nv0 k0 E X loc stk V h n sl res hr hS hO ν σ H locs ls vs P
  cases hr
  exact lv_ldc2 X.1.1 X.1.2.1 X.1.2.2.2.1 (X.1.w hw) d (hS _ List.mem_cons_self ν σ H locs ls _ (z_Pk P ⟨z_mkL (f := (v, [])) f_wf0 (by rw [hv]; show v = v + 0; omega), P.2.2.2.2.2.2.1⟩))
end L2
def z_rm (i : Nat) : List (Nat × AV) → List (Nat × AV)
  | [] => []
  | q :: l => match Nat.beq q.1 i with
    | true => z_rm i l
    | false => match z_and (Nat.beq (Nat.succ q.1) i) (z_lg q.2) with
      | true => z_rm i l
      | false => q :: z_rm i l
def z_rm2 (i : Nat) : List (Nat × AV) → List (Nat × AV)
  | [] => []
  | q :: l => match Nat.beq q.1 i with
    | true => z_rm2 i l
    | false => match Nat.beq q.1 (Nat.succ i) with
      | true => z_rm2 i l
      | false => match z_and (Nat.beq (Nat.succ q.1) i) (z_lg q.2) with
        | true => z_rm2 i l
        | false => q :: z_rm2 i l
theorem z_catb {ν : Nat → Int} {nv : Nat} {β : ZB} {a : AV} {v : Value} (q : z_mt ν nv β a v) : (v.category == 2) = z_lg a := by
  rw [z_mt_cat q]
  cases z_lg a <;> rfl
theorem z_beq (a b : Nat) : (a == b) = Nat.beq a b := by
  cases h : Nat.beq a b with
  | true => rw [Nat.eq_of_beq_eq_true h]; simp
  | false => simp; intro e; rw [e] at h; simp at h
theorem z_rm_ok {ν : Nat → Int} {nv i : Nat} {β : ZB} {loc : List (Nat × AV)} {lv : List (Nat × Value)} (q : z_fm (fun (a : Nat × AV) (q : Nat × Value) => a.1 = q.1 ∧ z_mt ν nv β a.2 q.2) loc lv) : z_fm (fun (a : Nat × AV) (q : Nat × Value) => a.1 = q.1 ∧ z_mt ν nv β a.2 q.2) (z_rm i loc) (lv.filter (fun q => !(q.1 == i) && !(q.1 + 1 == i && q.2.category == 2))) := by
  induction loc generalizing lv with
  | nil => rw [z_fm_nil q]; trivial
  | cons r l ih =>
    obtain ⟨w, k, rfl, q1, q2⟩ := z_fm_cons q
    have ih := ih q2
    unfold z_rm
    rw [List.filter_cons, z_catb q1.2, ← q1.1, z_beq, z_beq]
    show z_fm _ _ (if (!Nat.beq r.1 i && !(Nat.beq (Nat.succ r.1) i && z_lg r.2)) = true then _ else _)
    cases Nat.beq r.1 i with
    | true => exact ih
    | false => cases Nat.beq (Nat.succ r.1) i with
      | true => cases z_lg r.2 with
        | true => exact ih
        | false => exact ⟨q1, ih⟩
      | false => exact ⟨q1, ih⟩
theorem z_rm2_ok {ν : Nat → Int} {nv i : Nat} {β : ZB} {loc : List (Nat × AV)} {lv : List (Nat × Value)} (q : z_fm (fun (a : Nat × AV) (q : Nat × Value) => a.1 = q.1 ∧ z_mt ν nv β a.2 q.2) loc lv) : z_fm (fun (a : Nat × AV) (q : Nat × Value) => a.1 = q.1 ∧ z_mt ν nv β a.2 q.2) (z_rm2 i loc) (lv.filter (fun q => !(q.1 == i) && (!(q.1 == i + 1) && !(q.1 + 1 == i && q.2.category == 2)))) := by
  induction loc generalizing lv with
  | nil => rw [z_fm_nil q]; trivial
  | cons r l ih =>
    obtain ⟨w, k, rfl, q1, q2⟩ := z_fm_cons q
    have ih := ih q2
    unfold z_rm2
    rw [List.filter_cons, z_catb q1.2, ← q1.1, z_beq, z_beq, z_beq]
    show z_fm _ _ (if (!Nat.beq r.1 i && (!Nat.beq r.1 (Nat.succ i) && !(Nat.beq (Nat.succ r.1) i && z_lg r.2))) = true then _ else _)
    cases Nat.beq r.1 i with
    | true => exact ih
    | false => cases Nat.beq r.1 (Nat.succ i) with
      | true => exact ih
      | false => cases Nat.beq (Nat.succ r.1) i with
        | true => cases z_lg r.2 with
          | true => exact ih
          | false => exact ⟨q1, ih⟩
        | false => exact ⟨q1, ih⟩
def h_store (i k nL' np : Nat) : ZH := fun _ loc stk V h n sl => z_bd (z_p1 stk) fun q => z_if (z_and (z_kd k q.1) (Nat.ble (Nat.succ i) nL')) (some ([(np, (i, q.1) :: z_rm i loc, q.2, V, h, n, sl)], []))
def h_store2 (i nL' np : Nat) : ZH := fun _ loc stk V h n sl => z_bd (z_p1 stk) fun q => z_if (z_and (z_isL q.1) (Nat.ble (Nat.succ (Nat.succ i)) nL')) (some ([(np, (i, q.1) :: z_rm2 i loc, q.2, V, h, n, sl)], []))
section L3
variable {S : List ZT} {ms : List ZM} {D : va_G} {K : Nat → ClassId} {β : ZB} {p : Program} {l : Launch} {e : Env} {R : Room} {s : State} {m : MethodId} {args : Array Value} {below : List Frame} {meth : Method} {c : Code} {Q : State → Prop} {σ0 : Nat → va_E} {ν0 : Nat → Int} {nv0 k0 nL : Nat} {E : ZE} {own mn : String} {cc : ByteArray} {loc : List (Nat × AV)} {stk : List AV} {V : VS} {h : T2 AC} {n sl : Nat} {res : List ZS × List ZO} {ν : Nat → Int} {σ : Nat → va_E} {H : Heap} {locs : List Loc} {ls : Array Slot} {vs : List Value} {pc np : Nat}
theorem z_store {i k : Nat} (hr : h_store i k nL np E loc stk V h n sl = some res) (hS : ∀ st ∈ res.1, z_W D K β p l e R s m args below meth c Q σ0 ν0 nv0 k0 nL st) (P : z_P D K β s σ0 ν0 nv0 k0 nL loc stk V h n ν σ H locs ls vs) : ∃ (a : AV) (v : Value) (rest : List Value) (lv : List (Nat × Value)), vs = v :: rest ∧ z_kd k a = true ∧ z_mt ν (z_len V.1) β a v ∧ i < nL ∧ lv_has ls nL lv ∧ ∀ ls' : Array Slot, lv_has ls' nL ((i, v) :: lv.filter (fun q => !(q.1 == i) && !(q.1 + 1 == i && q.2.category == 2))) → W p l e R s m args below meth c H locs (n - k0) sl Q (F0 m np ls' rest) := by
  obtain ⟨q, hq, hr⟩ := z_bdI hr
  obtain ⟨hk, hr⟩ := z_ifI hr
  obtain ⟨hk, hi⟩ := z_andI hk
  cases hr
  obtain ⟨p1, p2, p3, p4, p5, p6, p7, p8⟩ := P
  rw [z_p1I hq] at p7
  obtain ⟨v, rest, rfl, q1, q2⟩ := z_fm_cons p7
  obtain ⟨lv, h1, h2⟩ := p6
  refine ⟨q.1, v, rest, lv, rfl, hk, q1, Nat.le_of_ble_eq_true hi, h1, fun ls' hl => hS _ List.mem_cons_self ν σ H locs ls' rest ⟨p1, p2, p3, p4, p5, ⟨_, hl, ⟨rfl, q1⟩, ?_⟩, q2, p8⟩⟩
  exact z_rm_ok h2
theorem z_store2 {i : Nat} (hr : h_store2 i nL np E loc stk V h n sl = some res) (hS : ∀ st ∈ res.1, z_W D K β p l e R s m args below meth c Q σ0 ν0 nv0 k0 nL st) (P : z_P D K β s σ0 ν0 nv0 k0 nL loc stk V h n ν σ H locs ls vs) : ∃ (a : AV) (v : Value) (rest : List Value) (lv : List (Nat × Value)), vs = v :: rest ∧ z_isL a = true ∧ z_mt ν (z_len V.1) β a v ∧ i + 1 < nL ∧ lv_has ls nL lv ∧ ∀ ls' : Array Slot, lv_has ls' nL ((i, v) :: lv.filter (fun q => !(q.1 == i) && (!(q.1 == i + 1) && !(q.1 + 1 == i && q.2.category == 2)))) → W p l e R s m args below meth c H locs (n - k0) sl Q (F0 m np ls' rest) := by
  obtain ⟨q, hq, hr⟩ := z_bdI hr
  obtain ⟨hk, hr⟩ := z_ifI hr
  obtain ⟨hk, hi⟩ := z_andI hk
  cases hr
  obtain ⟨p1, p2, p3, p4, p5, p6, p7, p8⟩ := P
  rw [z_p1I hq] at p7
  obtain ⟨v, rest, rfl, q1, q2⟩ := z_fm_cons p7
  obtain ⟨lv, h1, h2⟩ := p6
  refine ⟨q.1, v, rest, lv, rfl, hk, q1, Nat.le_of_ble_eq_true hi, h1, fun ls' hl => hS _ List.mem_cons_self ν σ H locs ls' rest ⟨p1, p2, p3, p4, p5, ⟨_, hl, ⟨rfl, q1⟩, ?_⟩, q2, p8⟩⟩
  exact z_rm2_ok h2
end L3
section L4
variable {S : List ZT} {ms : List ZM} {own mn : String} {cc : ByteArray} {nL pc np i : Nat}
theorem s_istore_n {k : Fin 4} (d : decode cc pc = .ok (.istore_n k, 1)) (hi : (k : Nat) = i) (hn : pc + 1 = np) : z_sound S ms own mn cc nL pc (h_store i 0 nL np) := by
  subst hn
  intro D K β p l e R s m args below meth c Q σ0 ν0 nv0 k0 E X loc stk V h n sl res hr hS hO ν σ H locs ls vs P
  obtain ⟨a, v, rest, lv, rfl, hk, hm, hlt, hl, kk⟩ := z_store hr hS P
  obtain ⟨-, x, rfl, -⟩ := z_mt_i hm hk
  exact lv_istore_n X.1.1 X.1.2.1 d hi hl hlt rfl kk
theorem s_istore (d : decode cc pc = .ok (.istore i, 2)) (hn : pc + 2 = np) : z_sound S ms own mn cc nL pc (h_store i 0 nL np) := by
  subst hn
  intro D K β p l e R s m args below meth c Q σ0 ν0 nv0 k0 E X loc stk V h n sl res hr hS hO ν σ H locs ls vs P
  obtain ⟨a, v, rest, lv, rfl, hk, hm, hlt, hl, kk⟩ := z_store hr hS P
  obtain ⟨-, x, rfl, -⟩ := z_mt_i hm hk
  exact lv_istore X.1.1 X.1.2.1 d hl hlt rfl kk
theorem s_astore_n {k : Fin 4} (d : decode cc pc = .ok (.astore_n k, 1)) (hi : (k : Nat) = i) (hn : pc + 1 = np) : z_sound S ms own mn cc nL pc (h_store i 2 nL np) := by
  subst hn
  intro D K β p l e R s m args below meth c Q σ0 ν0 nv0 k0 E X loc stk V h n sl res hr hS hO ν σ H locs ls vs P
  obtain ⟨a, v, rest, lv, rfl, hk, hm, hlt, hl, kk⟩ := z_store hr hS P
  obtain ⟨x, rfl⟩ := z_mt_rn hm hk
  exact lv_astore_n X.1.1 X.1.2.1 d hi hl hlt rfl kk
theorem s_astore (d : decode cc pc = .ok (.astore i, 2)) (hn : pc + 2 = np) : z_sound S ms own mn cc nL pc (h_store i 2 nL np) := by
  subst hn
  intro D K β p l e R s m args below meth c Q σ0 ν0 nv0 k0 E X loc stk V h n sl res hr hS hO ν σ H locs ls vs P
  obtain ⟨a, v, rest, lv, rfl, hk, hm, hlt, hl, kk⟩ := z_store hr hS P
  obtain ⟨x, rfl⟩ := z_mt_rn hm hk
  exact lv_astore X.1.1 X.1.2.1 d hl hlt rfl kk
theorem s_lstore_n {k : Fin 4} (d : decode cc pc = .ok (.lstore_n k, 1)) (hi : (k : Nat) = i) (hn : pc + 1 = np) : z_sound S ms own mn cc nL pc (h_store2 i nL np) := by
  subst hn
  intro D K β p l e R s m args below meth c Q σ0 ν0 nv0 k0 E X loc stk V h n sl res hr hS hO ν σ H locs ls vs P
  obtain ⟨a, v, rest, lv, rfl, hk, hm, hlt, hl, kk⟩ := z_store2 hr hS P
  obtain ⟨-, x, rfl, -⟩ := z_mt_l hm hk
  exact lv_lstore_n X.1.1 X.1.2.1 d hi hl hlt rfl kk
theorem s_lstore (d : decode cc pc = .ok (.lstore i, 2)) (hn : pc + 2 = np) : z_sound S ms own mn cc nL pc (h_store2 i nL np) := by
  subst hn
  intro D K β p l e R s m args below meth c Q σ0 ν0 nv0 k0 E X loc stk V h n sl res hr hS hO ν σ H locs ls vs P
  obtain ⟨a, v, rest, lv, rfl, hk, hm, hlt, hl, kk⟩ := z_store2 hr hS P
  obtain ⟨-, x, rfl, -⟩ := z_mt_l hm hk
  exact lv_lstore X.1.1 X.1.2.1 d hl hlt rfl kk
end L4
