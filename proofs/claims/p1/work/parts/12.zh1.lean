/-! handlers: locals, constants, arithmetic, the stack, branches -/
def h_bad : ZH := fun _ _ _ _ _ _ _ => none
theorem s_bad {ms : List ZM} {own mn : String} {cc : ByteArray} {nL pc : Nat} : z_sound ms own mn cc nL pc h_bad := by
  intro D K B b p l e R s m args below meth c Q ν0 nv0 k0 E X loc stk V h n sl res hr
  cases hr
def z_lkp : List (Nat × AV) → Nat → Option AV
  | [], _ => none
  | q :: l, i => match Nat.beq q.1 i with
    | true => some q.2
    | false => z_lkp l i
theorem z_lkp_ok {P : AV → Value → Prop} {loc : List (Nat × AV)} {lv : List (Nat × Value)} {i : Nat} {a : AV} (q : z_fm (fun (a : Nat × AV) (q : Nat × Value) => a.1 = q.1 ∧ P a.2 q.2) loc lv) (h : z_lkp loc i = some a) : ∃ v, (i, v) ∈ lv ∧ P a v := by
  induction loc generalizing lv with
  | nil => cases h
  | cons r l ih =>
    obtain ⟨w, k, rfl, q1, q2⟩ := z_fm_cons q
    unfold z_lkp at h
    cases hb : Nat.beq r.1 i with
    | true =>
      rw [hb] at h
      cases h
      exact ⟨w.2, by rw [← Nat.eq_of_beq_eq_true hb, q1.1]; exact List.mem_cons_self, q1.2⟩
    | false =>
      rw [hb] at h
      obtain ⟨v, h1, h2⟩ := ih q2 h
      exact ⟨v, List.mem_cons_of_mem _ h1, h2⟩
def z_isR (a : AV) : Bool := match Nat.beq a.1 4 with
  | true => true
  | false => Nat.beq a.1 7
theorem z_mt_ref {ν : Nat → Int} {nv B b : Nat} {a : AV} {v : Value} (q : z_mt ν nv B b a v) (h : z_isR a = true) : ∃ x : Nat, v = .ref x := by
  unfold z_isR at h
  cases h4 : Nat.beq a.1 4 with
  | true => exact ⟨_, z_mt_r q h4⟩
  | false => rw [h4] at h; exact ⟨_, z_mt_s q h⟩
def z_kd (k : Nat) (a : AV) : Bool := match k with
  | 0 => z_isI a
  | 1 => z_isL a
  | _ => z_isR a
def h_load (i k np : Nat) : ZH := fun _ loc stk V h n sl => z_bd (z_lkp loc i) fun a => z_if (z_kd k a) (some ([(np, loc, a :: stk, V, h, n, sl)], []))
section L1
variable {ms : List ZM} {D : va_G} {K : Nat → ClassId} {B b : Nat} {p : Program} {l : Launch} {e : Env} {R : Room} {s : State} {m : MethodId} {args : Array Value} {below : List Frame} {meth : Method} {c : Code} {Q : State → Prop} {ν0 : Nat → Int} {nv0 k0 nL : Nat} {E : ZE} {own mn : String} {cc : ByteArray} {loc : List (Nat × AV)} {stk : List AV} {V : VS} {h : T2 AC} {n sl : Nat} {res : List ZS × List ZO} {ν : Nat → Int} {σ : Nat → va_E} {H : Heap} {locs : List Loc} {ls : Array Slot} {vs : List Value} {pc np : Nat}
/-- the same world with another stack -/
theorem z_Pk {stk' : List AV} {vs' : List Value} (P : z_P D K B b s ν0 nv0 k0 nL loc stk V h n ν σ H locs ls vs) (q : z_fm (z_mt ν (z_len V) B b) stk' vs') : z_P D K B b s ν0 nv0 k0 nL loc stk' V h n ν σ H locs ls vs' := ⟨P.1, P.2.1, P.2.2.1, P.2.2.2.1, P.2.2.2.2.1, P.2.2.2.2.2.1, q, P.2.2.2.2.2.2.2⟩
/-- other bounds, as many names -/
theorem z_Pb {V' : VS} (P : z_P D K B b s ν0 nv0 k0 nL loc stk V h n ν σ H locs ls vs) (q : z_sat ν V') (hl : z_len V' = z_len V) : z_P D K B b s ν0 nv0 k0 nL loc stk V' h n ν σ H locs ls vs := ⟨P.1, by rw [hl]; exact P.2.1, P.2.2.1, q, by rw [hl]; exact P.2.2.2.2.1, by rw [hl]; exact P.2.2.2.2.2.1, by rw [hl]; exact P.2.2.2.2.2.2.1, P.2.2.2.2.2.2.2⟩
theorem z_load {i k : Nat} (hr : h_load i k np E loc stk V h n sl = some res) (hS : ∀ st ∈ res.1, z_W D K B b p l e R s m args below meth c Q ν0 nv0 k0 nL st) (P : z_P D K B b s ν0 nv0 k0 nL loc stk V h n ν σ H locs ls vs) : ∃ (a : AV) (v : Value), z_kd k a = true ∧ z_mt ν (z_len V) B b a v ∧ ls[i]? = some (.val v) ∧ W p l e R s m args below meth c H locs (n - k0) sl Q (F0 m np ls (v :: vs)) := by
  obtain ⟨a, ha, hr⟩ := z_bdI hr
  obtain ⟨hk, hr⟩ := z_ifI hr
  cases hr
  obtain ⟨lv, h1, h2⟩ := P.2.2.2.2.2.1
  obtain ⟨v, h3, h4⟩ := z_lkp_ok h2 ha
  exact ⟨a, v, hk, h4, h1.2.2 (i, v) h3, hS _ List.mem_cons_self ν σ H locs ls (v :: vs) (z_Pk P ⟨h4, P.2.2.2.2.2.2.1⟩)⟩
end L1
theorem s_iload_n {ms : List ZM} {own mn : String} {cc : ByteArray} {nL pc np i : Nat} {k : Fin 4} (d : decode cc pc = .ok (.iload_n k, 1)) (hi : (k : Nat) = i) (hn : pc + 1 = np) : z_sound ms own mn cc nL pc (h_load i 0 np) := by
  subst hn
  intro D K B b p l e R s m args below meth c Q ν0 nv0 k0 E X loc stk V h n sl res hr hS hO ν σ H locs ls vs P
  obtain ⟨a, v, hk, hm, hl, kk⟩ := z_load hr hS P
  obtain ⟨x, rfl, -⟩ := z_mt_i hm hk
  exact lv_iload_n X.1.1 X.1.2.1 d hi hl kk
theorem s_iload {ms : List ZM} {own mn : String} {cc : ByteArray} {nL pc np i : Nat} (d : decode cc pc = .ok (.iload i, 2)) (hn : pc + 2 = np) : z_sound ms own mn cc nL pc (h_load i 0 np) := by
  subst hn
  intro D K B b p l e R s m args below meth c Q ν0 nv0 k0 E X loc stk V h n sl res hr hS hO ν σ H locs ls vs P
  obtain ⟨a, v, hk, hm, hl, kk⟩ := z_load hr hS P
  obtain ⟨x, rfl, -⟩ := z_mt_i hm hk
  exact lv_iload X.1.1 X.1.2.1 d hl kk
theorem s_lload_n {ms : List ZM} {own mn : String} {cc : ByteArray} {nL pc np i : Nat} {k : Fin 4} (d : decode cc pc = .ok (.lload_n k, 1)) (hi : (k : Nat) = i) (hn : pc + 1 = np) : z_sound ms own mn cc nL pc (h_load i 1 np) := by
  subst hn
  intro D K B b p l e R s m args below meth c Q ν0 nv0 k0 E X loc stk V h n sl res hr hS hO ν σ H locs ls vs P
  obtain ⟨a, v, hk, hm, hl, kk⟩ := z_load hr hS P
  obtain ⟨x, rfl, -⟩ := z_mt_l hm hk
  exact lv_lload_n X.1.1 X.1.2.1 d hi hl kk
theorem s_lload {ms : List ZM} {own mn : String} {cc : ByteArray} {nL pc np i : Nat} (d : decode cc pc = .ok (.lload i, 2)) (hn : pc + 2 = np) : z_sound ms own mn cc nL pc (h_load i 1 np) := by
  subst hn
  intro D K B b p l e R s m args below meth c Q ν0 nv0 k0 E X loc stk V h n sl res hr hS hO ν σ H locs ls vs P
  obtain ⟨a, v, hk, hm, hl, kk⟩ := z_load hr hS P
  obtain ⟨x, rfl, -⟩ := z_mt_l hm hk
  exact lv_lload X.1.1 X.1.2.1 d hl kk
theorem s_aload_n {ms : List ZM} {own mn : String} {cc : ByteArray} {nL pc np i : Nat} {k : Fin 4} (d : decode cc pc = .ok (.aload_n k, 1)) (hi : (k : Nat) = i) (hn : pc + 1 = np) : z_sound ms own mn cc nL pc (h_load i 2 np) := by
  subst hn
  intro D K B b p l e R s m args below meth c Q ν0 nv0 k0 E X loc stk V h n sl res hr hS hO ν σ H locs ls vs P
  obtain ⟨a, v, hk, hm, hl, kk⟩ := z_load hr hS P
  obtain ⟨x, rfl⟩ := z_mt_ref hm hk
  exact lv_aload_n X.1.1 X.1.2.1 d hi hl kk
theorem s_aload {ms : List ZM} {own mn : String} {cc : ByteArray} {nL pc np i : Nat} (d : decode cc pc = .ok (.aload i, 2)) (hn : pc + 2 = np) : z_sound ms own mn cc nL pc (h_load i 2 np) := by
  subst hn
  intro D K B b p l e R s m args below meth c Q ν0 nv0 k0 E X loc stk V h n sl res hr hS hO ν σ H locs ls vs P
  obtain ⟨a, v, hk, hm, hl, kk⟩ := z_load hr hS P
  obtain ⟨x, rfl⟩ := z_mt_ref hm hk
  exact lv_aload X.1.1 X.1.2.1 d hl kk
/-- constants -/
def h_ci (v : Int) (np : Nat) : ZH := fun _ loc stk V h n sl => some ([(np, loc, (0, 0, v, v) :: stk, V, h, n, sl)], [])
def h_cl (v : Int) (np : Nat) : ZH := fun _ loc stk V h n sl => some ([(np, loc, (2, 0, v, v) :: stk, V, h, n, sl)], [])
section L2
variable {ms : List ZM} {own mn : String} {cc : ByteArray} {nL pc np : Nat} {v : Int}
theorem s_iconst (d : decode cc pc = .ok (.iconst v, 1)) (hv : (Int32.ofInt v).toInt = v) (hn : pc + 1 = np) : z_sound ms own mn cc nL pc (h_ci v np) := by
  subst hn
  intro D K B b p l e R s m args below meth c Q ν0 nv0 k0 E X loc stk V h n sl res hr hS hO ν σ H locs ls vs P
  cases hr
  exact lv_iconst X.1.1 X.1.2.1 d rfl (hS _ List.mem_cons_self ν σ H locs ls _ (z_Pk P ⟨z_mkI (by rw [hv]; exact Int.le_refl _) (by rw [hv]; exact Int.le_refl _), P.2.2.2.2.2.2.1⟩))
theorem s_bipush (d : decode cc pc = .ok (.bipush v, 2)) (hv : ((Int8.ofInt v).toInt32).toInt = v) (hn : pc + 2 = np) : z_sound ms own mn cc nL pc (h_ci v np) := by
  subst hn
  intro D K B b p l e R s m args below meth c Q ν0 nv0 k0 E X loc stk V h n sl res hr hS hO ν σ H locs ls vs P
  cases hr
  exact lv_bipush X.1.1 X.1.2.1 d rfl (hS _ List.mem_cons_self ν σ H locs ls _ (z_Pk P ⟨z_mkI (by rw [hv]; exact Int.le_refl _) (by rw [hv]; exact Int.le_refl _), P.2.2.2.2.2.2.1⟩))
theorem s_sipush (d : decode cc pc = .ok (.sipush v, 3)) (hv : ((Int16.ofInt v).toInt32).toInt = v) (hn : pc + 3 = np) : z_sound ms own mn cc nL pc (h_ci v np) := by
  subst hn
  intro D K B b p l e R s m args below meth c Q ν0 nv0 k0 E X loc stk V h n sl res hr hS hO ν σ H locs ls vs P
  cases hr
  exact lv_sipush X.1.1 X.1.2.1 d rfl (hS _ List.mem_cons_self ν σ H locs ls _ (z_Pk P ⟨z_mkI (by rw [hv]; exact Int.le_refl _) (by rw [hv]; exact Int.le_refl _), P.2.2.2.2.2.2.1⟩))
theorem s_ldc {ix : Nat} {w : Int32} (d : decode cc pc = .ok (.ldc ix, 2)) (hw : Cond.constant own ix w ∈ bw) (hv : w.toInt = v) (hn : pc + 2 = np) : z_sound ms own mn cc nL pc (h_ci v np) := by
  subst hn
  intro D K B b p l e R s m args below meth c Q ν0 nv0 k0 E X loc stk V h n sl res hr hS hO ν σ H locs ls vs P
  cases hr
  exact lv_ldc X.1.1 X.1.2.1 X.1.2.2.2.1 (X.1.w hw) d (hS _ List.mem_cons_self ν σ H locs ls _ (z_Pk P ⟨z_mkI (by rw [hv]; exact Int.le_refl _) (by rw [hv]; exact Int.le_refl _), P.2.2.2.2.2.2.1⟩))
theorem s_lconst {k : Fin 2} (d : decode cc pc = .ok (.lconst k, 1)) (hv : (Int64.ofNat (k : Nat)).toInt = v) (hn : pc + 1 = np) : z_sound ms own mn cc nL pc (h_cl v np) := by
  subst hn
  intro D K B b p l e R s m args below meth c Q ν0 nv0 k0 E X loc stk V h n sl res hr hS hO ν σ H locs ls vs P
  cases hr
  exact lv_lconst X.1.1 X.1.2.1 d rfl (hS _ List.mem_cons_self ν σ H locs ls _ (z_Pk P ⟨z_mkL (by rw [hv]; exact Int.le_refl _) (by rw [hv]; exact Int.le_refl _), P.2.2.2.2.2.2.1⟩))
theorem s_ldc2 {ix : Nat} {w : Int64} (d : decode cc pc = .ok (.ldc2_w ix, 3)) (hw : Cond.constantLong own ix w ∈ bw) (hv : w.toInt = v) (hn : pc + 3 = np) : z_sound ms own mn cc nL pc (h_cl v np) := by
  subst hn
  intro D K B b p l e R s m args below meth c Q ν0 nv0 k0 E X loc stk V h n sl res hr hS hO ν σ H locs ls vs P
  cases hr
  exact lv_ldc2 X.1.1 X.1.2.1 X.1.2.2.2.1 (X.1.w hw) d (hS _ List.mem_cons_self ν σ H locs ls _ (z_Pk P ⟨z_mkL (by rw [hv]; exact Int.le_refl _) (by rw [hv]; exact Int.le_refl _), P.2.2.2.2.2.2.1⟩))
end L2
/-- stores: a number that isn't one gets a name -/
def z_name (V : VS) (a : AV) : AV × VS := match a.1 with
  | 0 => match z_le a.2.2.2 a.2.2.1 with
    | true => (a, V)
    | false => ((1, z_len V, 0, 0), z_app V [a.2.2])
  | 2 => match z_le a.2.2.2 a.2.2.1 with
    | true => (a, V)
    | false => ((3, z_len V, 0, 0), z_app V [a.2.2])
  | _ => (a, V)
def z_rm (i : Nat) : List (Nat × AV) → List (Nat × AV)
  | [] => []
  | q :: l => match Nat.beq q.1 i with
    | true => z_rm i l
    | false => match z_and (Nat.beq (Nat.succ q.1) i) (z_isL q.2) with
      | true => z_rm i l
      | false => q :: z_rm i l
def z_rm2 (i : Nat) : List (Nat × AV) → List (Nat × AV)
  | [] => []
  | q :: l => match Nat.beq q.1 i with
    | true => z_rm2 i l
    | false => match Nat.beq q.1 (Nat.succ i) with
      | true => z_rm2 i l
      | false => match z_and (Nat.beq (Nat.succ q.1) i) (z_isL q.2) with
        | true => z_rm2 i l
        | false => q :: z_rm2 i l
theorem z_catb {ν : Nat → Int} {nv B b : Nat} {a : AV} {v : Value} (q : z_mt ν nv B b a v) : (v.category == 2) = z_isL a := by
  rw [z_mt_cat q]
  cases z_isL a <;> rfl
theorem z_beq (a b : Nat) : (a == b) = Nat.beq a b := by
  cases h : Nat.beq a b with
  | true => rw [Nat.eq_of_beq_eq_true h]; simp
  | false => simp; intro e; rw [e] at h; simp at h
theorem z_rm_ok {ν : Nat → Int} {nv B b i : Nat} {loc : List (Nat × AV)} {lv : List (Nat × Value)} (q : z_fm (fun (a : Nat × AV) (q : Nat × Value) => a.1 = q.1 ∧ z_mt ν nv B b a.2 q.2) loc lv) : z_fm (fun (a : Nat × AV) (q : Nat × Value) => a.1 = q.1 ∧ z_mt ν nv B b a.2 q.2) (z_rm i loc) (lv.filter (fun q => !(q.1 == i) && !(q.1 + 1 == i && q.2.category == 2))) := by
  induction loc generalizing lv with
  | nil => rw [z_fm_nil q]; trivial
  | cons r l ih =>
    obtain ⟨w, k, rfl, q1, q2⟩ := z_fm_cons q
    have ih := ih q2
    unfold z_rm
    rw [List.filter_cons, z_catb q1.2, ← q1.1, z_beq, z_beq]
    show z_fm _ _ (if (!Nat.beq r.1 i && !(Nat.beq (Nat.succ r.1) i && z_isL r.2)) = true then _ else _)
    cases Nat.beq r.1 i with
    | true => exact ih
    | false => cases Nat.beq (Nat.succ r.1) i with
      | true => cases z_isL r.2 with
        | true => exact ih
        | false => exact ⟨q1, ih⟩
      | false => exact ⟨q1, ih⟩
theorem z_rm2_ok {ν : Nat → Int} {nv B b i : Nat} {loc : List (Nat × AV)} {lv : List (Nat × Value)} (q : z_fm (fun (a : Nat × AV) (q : Nat × Value) => a.1 = q.1 ∧ z_mt ν nv B b a.2 q.2) loc lv) : z_fm (fun (a : Nat × AV) (q : Nat × Value) => a.1 = q.1 ∧ z_mt ν nv B b a.2 q.2) (z_rm2 i loc) (lv.filter (fun q => !(q.1 == i) && (!(q.1 == i + 1) && !(q.1 + 1 == i && q.2.category == 2)))) := by
  induction loc generalizing lv with
  | nil => rw [z_fm_nil q]; trivial
  | cons r l ih =>
    obtain ⟨w, k, rfl, q1, q2⟩ := z_fm_cons q
    have ih := ih q2
    unfold z_rm2
    rw [List.filter_cons, z_catb q1.2, ← q1.1, z_beq, z_beq, z_beq]
    show z_fm _ _ (if (!Nat.beq r.1 i && (!Nat.beq r.1 (Nat.succ i) && !(Nat.beq (Nat.succ r.1) i && z_isL r.2))) = true then _ else _)
    cases Nat.beq r.1 i with
    | true => exact ih
    | false => cases Nat.beq r.1 (Nat.succ i) with
      | true => exact ih
      | false => cases Nat.beq (Nat.succ r.1) i with
        | true => cases z_isL r.2 with
          | true => exact ih
          | false => exact ⟨q1, ih⟩
        | false => exact ⟨q1, ih⟩
def h_store (i k nL' np : Nat) : ZH := fun _ loc stk V h n sl => z_bd (z_p1 stk) fun q => z_if (z_and (z_kd k q.1) (Nat.ble (Nat.succ i) nL')) (some ([(np, (i, (z_name V q.1).1) :: z_rm i loc, q.2, (z_name V q.1).2, h, n, sl)], []))
def h_store2 (i nL' np : Nat) : ZH := fun _ loc stk V h n sl => z_bd (z_p1 stk) fun q => z_if (z_and (z_isL q.1) (Nat.ble (Nat.succ (Nat.succ i)) nL')) (some ([(np, (i, (z_name V q.1).1) :: z_rm2 i loc, q.2, (z_name V q.1).2, h, n, sl)], []))
/-- a name for a value: the numbers told so far stay -/
theorem z_name_ok {ν : Nat → Int} {B b : Nat} {V : VS} {a : AV} {v : Value} (hs : z_sat ν V) (hm : z_mt ν (z_len V) B b a v) : ∃ ν' : Nat → Int, (∀ i, i < z_len V → ν' i = ν i) ∧ z_len V ≤ z_len (z_name V a).2 ∧ z_sat ν' (z_name V a).2 ∧ z_mt ν' (z_len (z_name V a).2) B b (z_name V a).1 v := by
  obtain ⟨t, i, lo, hi⟩ := a
  have same : ∃ ν' : Nat → Int, (∀ i, i < z_len V → ν' i = ν i) ∧ z_len V ≤ z_len V ∧ z_sat ν' V ∧ z_mt ν' (z_len V) B b (t, i, lo, hi) v := ⟨ν, fun _ _ => rfl, Nat.le_refl _, hs, hm⟩
  have more : ∀ (X : Int), lo ≤ X → X ≤ hi → z_sat (fun j => if j = z_len V then X else ν j) (z_app V [(lo, hi)]) := fun X h1 h2 j q hq => by
    rcases z_nth_last _ hq with ⟨g1, g2⟩ | ⟨g1, rfl⟩
    · have := hs _ _ g2
      simp only [show ¬ j = z_len V by omega, if_false]
      exact this
    · simp only [g1, if_true]
      exact ⟨h1, h2⟩
  have len : z_len (z_app V [(lo, hi)]) = z_len V + 1 := by rw [z_len_app]; rfl
  match t, hm, same with
  | 0, hm, same =>
    unfold z_name
    simp only
    cases z_le hi lo with
    | true => exact same
    | false =>
      obtain ⟨x, rfl, hz⟩ := z_mt_i hm rfl
      rcases hz with ⟨-, h1, h2⟩ | ⟨h1, -⟩
      · refine ⟨fun j => if j = z_len V then x.toInt else ν j, fun j hj => by simp [show ¬ j = z_len V by omega], by simp only; omega, more _ h1 h2, Or.inl ⟨by show (1 : Nat) < 2; omega, x, rfl, Or.inr ⟨rfl, by simp only [len]; omega, by simp⟩⟩⟩
      · cases h1
  | 2, hm, same =>
    unfold z_name
    simp only
    cases z_le hi lo with
    | true => exact same
    | false =>
      obtain ⟨x, rfl, hz⟩ := z_mt_l hm rfl
      rcases hz with ⟨-, h1, h2⟩ | ⟨h1, -⟩
      · refine ⟨fun j => if j = z_len V then x.toInt else ν j, fun j hj => by simp [show ¬ j = z_len V by omega], by simp only; omega, more _ h1 h2, Or.inr (Or.inl ⟨Or.inr rfl, x, rfl, Or.inr ⟨(by show 3 % 2 = 1; omega), by simp only [len]; omega, by simp⟩⟩)⟩
      · exact absurd h1 (by show ¬ 2 % 2 = 1; omega)
  | 1, _, same => exact same
  | t + 3, _, same => exact same
