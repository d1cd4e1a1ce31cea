/-! runs: steps one behind the other, calls by depth -/
def z_tick (code : T2 ZH) (E : ZE) (t : List ZS × List ZO) : Option (List ZS × List ZO) := match t.1 with
  | [] => some t
  | st :: r => match z_g2 code st.1 with
    | none => none
    | some f => match f E st.2.1 st.2.2.1 st.2.2.2.1 st.2.2.2.2.1 st.2.2.2.2.2.1 st.2.2.2.2.2.2 with
      | none => none
      | some q => some (z_app q.1 r, z_app q.2 t.2)
def z_iter (code : T2 ZH) (E : ZE) : Nat → List ZS × List ZO → Option (List ZS × List ZO)
  | 0, t => z_tick code E t
  | k + 1, t => match z_iter code E k t with
    | none => none
    | some t1 => match t1.1 with
      | [] => some t1
      | _ :: _ => z_iter code E k t1
def z_arg : Nat → List AV → List (Nat × AV)
  | _, [] => []
  | i, a :: l => (i, a) :: z_arg (match z_isL a with | true => Nat.add i 2 | false => Nat.add i 1) l
abbrev ZP : Type := T2 ZH × Nat × Nat × Bool × Nat × Nat
def z_okb (bo : Bool) (n' ms rk : Nat) : List ZO → Bool
  | [] => true
  | o :: l => z_and (z_and (Nat.beq o.2.2.2.2.1 n') (z_and (Nat.ble o.2.2.2.2.2 ms) (z_and (Nat.beq o.1 rk) (match rk with
    | 0 => true
    | 1 => z_isI o.2.1
    | _ => z_isL o.2.1)))) (z_and (match bo with
    | false => true
    | true => match z_iv o.2.2.1 o.2.1 with
      | some i => z_in i 0 1
      | none => false) (z_okb bo n' ms rk l))
def z_call (P : T2 ZP) : Nat → ZCall
  | 0 => fun _ _ _ _ _ _ _ => none
  | d + 1 => fun q args V h n f lo => z_bd (z_g2 P q) fun M => z_if (Nat.ble (z_cat args) M.2.1) (z_bd (z_iter M.1 (z_call P d, f, lo, Nat.add n M.2.2.2.2.1, M.2.2.2.2.2, false) 14 ([(0, z_arg 0 args, [], V, h, n, 0)], [])) fun r => match r.1 with
    | [] => z_if (z_okb M.2.2.2.1 (Nat.add n M.2.2.2.2.1) M.2.2.2.2.2 M.2.2.1 r.2) (some r.2)
    | _ :: _ => none)
/-- the code's table is sound -/
def z_tok (ms : List ZM) (own mn : String) (cc : ByteArray) (nL : Nat) : Nat → List ZH → Prop
  | _, [] => True
  | pc, f :: l => z_sound ms own mn cc nL pc f ∧ z_tok ms own mn cc nL (pc + 1) l
def z_tok2 (ms : List ZM) (own mn : String) (cc : ByteArray) (nL : Nat) : Nat → T2 ZH → Prop
  | _, [] => True
  | k, r :: l => z_tok ms own mn cc nL (16 * k) r ∧ z_tok2 ms own mn cc nL (k + 1) l
theorem z_tokI {ms : List ZM} {own mn : String} {cc : ByteArray} {nL pc i : Nat} {l : List ZH} {f : ZH} (h : z_tok ms own mn cc nL pc l) (hf : z_nth l i = some f) : z_sound ms own mn cc nL (pc + i) f := by
  induction l generalizing pc i with
  | nil => cases hf
  | cons g l ih => cases i with
    | zero => cases hf; exact h.1
    | succ i => have := ih h.2 hf; rwa [show pc + 1 + i = pc + (i + 1) by omega] at this
theorem z_tok2I {ms : List ZM} {own mn : String} {cc : ByteArray} {nL k i : Nat} {t : T2 ZH} {r : List ZH} (h : z_tok2 ms own mn cc nL k t) (hf : z_nth t i = some r) : z_tok ms own mn cc nL (16 * (k + i)) r := by
  induction t generalizing k i with
  | nil => cases hf
  | cons g l ih => cases i with
    | zero => cases hf; exact h.1
    | succ i => have := ih h.2 hf; rwa [show k + 1 + i = k + (i + 1) by omega] at this
theorem z_tokG {ms : List ZM} {own mn : String} {cc : ByteArray} {nL pc : Nat} {t : T2 ZH} {f : ZH} (h : z_tok2 ms own mn cc nL 0 t) (hf : z_g2 t pc = some f) : z_sound ms own mn cc nL pc f := by
  unfold z_g2 at hf
  cases hr : z_nth t (Nat.div pc 16) with
  | none => rw [hr] at hf; cases hf
  | some r =>
    rw [hr] at hf
    have := z_tokI (z_tok2I h hr) hf
    rwa [show 16 * (0 + Nat.div pc 16) + Nat.mod pc 16 = pc by show 16 * (0 + pc / 16) + pc % 16 = pc; omega] at this
section RN
variable {ms : List ZM} {D : va_G} {K : Nat → ClassId} {B b : Nat} {p : Program} {l : Launch} {e : Env} {R : Room} {s : State} {m : MethodId} {args : Array Value} {below : List Frame} {meth : Method} {c : Code} {Q : State → Prop} {ν0 : Nat → Int} {nv0 k0 nL : Nat} {E : ZE} {own mn : String} {cc : ByteArray} {code : T2 ZH}
theorem z_tick_ok (X : z_C ms D K B b p l R s m args meth c own mn cc ν0 nv0 k0 nL E) (hc : z_tok2 ms own mn cc nL 0 code) {t t' : List ZS × List ZO} (h : z_tick code E t = some t') : (∀ o ∈ t.2, o ∈ t'.2) ∧ ((∀ o ∈ t'.2, z_T D K B b p l e R s m args below meth c cc Q ν0 nv0 k0 nL o) → (∀ st ∈ t'.1, z_W D K B b p l e R s m args below meth c Q ν0 nv0 k0 nL st) → ∀ st ∈ t.1, z_W D K B b p l e R s m args below meth c Q ν0 nv0 k0 nL st) := by
  obtain ⟨todo, os⟩ := t
  unfold z_tick at h
  cases todo with
  | nil => cases h; exact ⟨fun _ ho => ho, fun _ hW => hW⟩
  | cons st r =>
    simp only at h
    cases hf : z_g2 code st.1 with
    | none => rw [hf] at h; cases h
    | some f =>
      rw [hf] at h
      simp only at h
      cases hq : f E st.2.1 st.2.2.1 st.2.2.2.1 st.2.2.2.2.1 st.2.2.2.2.2.1 st.2.2.2.2.2.2 with
      | none => rw [hq] at h; cases h
      | some q =>
        rw [hq] at h
        cases h
        refine ⟨fun o ho => z_mem_app.mpr (Or.inr ho), fun hT hW st' hst => ?_⟩
        rcases List.mem_cons.mp hst with rfl | hst
        · exact z_tokG hc hf D K B b p l e R s m args below meth c Q ν0 nv0 k0 E X _ _ _ _ _ _ q hq (fun st2 h2 => hW st2 (z_mem_app.mpr (Or.inl h2))) (fun o ho => hT o (z_mem_app.mpr (Or.inl ho)))
        · exact hW st' (z_mem_app.mpr (Or.inr hst))
theorem z_iter_ok (X : z_C ms D K B b p l R s m args meth c own mn cc ν0 nv0 k0 nL E) (hc : z_tok2 ms own mn cc nL 0 code) {k : Nat} {t t' : List ZS × List ZO} (h : z_iter code E k t = some t') : (∀ o ∈ t.2, o ∈ t'.2) ∧ ((∀ o ∈ t'.2, z_T D K B b p l e R s m args below meth c cc Q ν0 nv0 k0 nL o) → (∀ st ∈ t'.1, z_W D K B b p l e R s m args below meth c Q ν0 nv0 k0 nL st) → ∀ st ∈ t.1, z_W D K B b p l e R s m args below meth c Q ν0 nv0 k0 nL st) := by
  induction k generalizing t t' with
  | zero => exact z_tick_ok X hc h
  | succ k ih =>
    unfold z_iter at h
    cases h1 : z_iter code E k t with
    | none => rw [h1] at h; cases h
    | some t1 =>
      rw [h1] at h
      simp only at h
      have a1 := ih h1
      cases ht : t1.1 with
      | nil =>
        rw [ht] at h
        cases h
        exact a1
      | cons st r =>
        rw [ht] at h
        have a2 := ih h
        exact ⟨fun o ho => a2.1 o (a1.1 o ho), fun hT hW => a1.2 (fun o ho => hT o (a2.1 o ho)) (a2.2 hT hW)⟩
end RN
theorem z_arg_ok {ν : Nat → Int} {nv B b : Nat} {as : List AV} {av : List Value} {i : Nat} (q : z_fm (z_mt ν nv B b) as av) : z_fm (fun (a : Nat × AV) (q : Nat × Value) => a.1 = q.1 ∧ z_mt ν nv B b a.2 q.2) (z_arg i as) (lv_args i av) := by
  induction as generalizing av i with
  | nil => rw [z_fm_nil q]; trivial
  | cons a as ih =>
    obtain ⟨v, k, rfl, q1, q2⟩ := z_fm_cons q
    refine ⟨⟨rfl, q1⟩, ?_⟩
    have e : (if v.category = 2 then i + 2 else i + 1) = (match z_isL a with | true => Nat.add i 2 | false => Nat.add i 1) := by
      rw [z_mt_cat q1]
      cases z_isL a <;> rfl
    show z_fm _ (z_arg (match z_isL a with | true => Nat.add i 2 | false => Nat.add i 1) as) (lv_args (if v.category = 2 then i + 2 else i + 1) k)
    rw [e]
    exact ih q2
theorem z_sl_len {ν : Nat → Int} {nv B b : Nat} {as : List AV} {av : List Value} (q : z_fm (z_mt ν nv B b) as av) : (lg_sl av).length = z_cat as := by
  rw [← z_cat_ok q]
  clear q
  induction av with
  | nil => rfl
  | cons v av ih =>
    have : lg_sl (v :: av) = (if v.category = 2 then [.val v, .second] else [.val v]) ++ lg_sl av := rfl
    rw [this, List.length_append, ih, List.map_cons, List.sum_cons]
    rcases lv_cat v with h | h <;> simp [h]
/-- a method of the table: its names, its code's rows -/
def z_rt (rk : Nat) (bo : Bool) (ret : Option FieldType) : Prop := (rk = 0 ∧ ret = none) ∨ (rk = 1 ∧ bo = false ∧ ret = some .int) ∨ (rk = 1 ∧ bo = true ∧ ret = some .boolean) ∨ (rk = 2 ∧ ret = some .long)
def z_good (ms : List ZM) (q : Nat) (M : ZP) : Prop := ∃ (y : MethodName) (bytes : ByteArray) (ret : Option FieldType), z_nth ms q = some (y, bytes, M.2.1, ret, M.2.2.1, M.2.2.2.2.1, M.2.2.2.2.2) ∧ plainFor y = true ∧ z_rt M.2.2.1 M.2.2.2.1 ret ∧ z_tok2 ms y.cls y.name bytes M.2.1 0 M.1
theorem z_okbI {bo : Bool} {n' ms rk : Nat} {l : List ZO} (h : z_okb bo n' ms rk l = true) {o : ZO} (ho : o ∈ l) : o.2.2.2.2.1 = n' ∧ o.2.2.2.2.2 ≤ ms ∧ o.1 = rk ∧ (rk = 1 → z_isI o.2.1 = true) ∧ (rk = 2 → z_isL o.2.1 = true) ∧ (bo = true → ∃ i, z_iv o.2.2.1 o.2.1 = some i ∧ 0 ≤ i.1 ∧ i.2 ≤ 1) := by
  induction l with
  | nil => cases ho
  | cons a l ih =>
    obtain ⟨h1, h2⟩ := z_andI h
    obtain ⟨h2, h3⟩ := z_andI h2
    rcases List.mem_cons.mp ho with rfl | ho
    · obtain ⟨g1, g2⟩ := z_andI h1
      obtain ⟨g2, g3⟩ := z_andI g2
      obtain ⟨g3, g4⟩ := z_andI g3
      refine ⟨Nat.eq_of_beq_eq_true g1, Nat.le_of_ble_eq_true g2, Nat.eq_of_beq_eq_true g3, fun e => by subst e; exact g4, fun e => by subst e; exact g4, fun hb => ?_⟩
      subst hb
      cases hi : z_iv o.2.2.1 o.2.1 with
      | none => simp only [hi] at h2; cases h2
      | some i => simp only [hi] at h2; exact ⟨i, rfl, z_inI h2⟩
    · exact ih h3 ho
theorem nar_b {x : Int32} (h1 : 0 ≤ x.toInt) (h2 : x.toInt ≤ 1) : narrow .boolean (.int x) = .int x := by
  rcases (show x.toInt = 0 ∨ x.toInt = 1 by omega) with g | g
  · have : x = 0 := i_eq.mpr g
    subst this; rfl
  · have : x = 1 := i_eq.mpr g
    subst this; rfl
theorem z_call_ok {ms : List ZM} {P : T2 ZP} (hP : ∀ (q : Nat) (M : ZP), z_g2 P q = some M → z_good ms q M) (l : Launch) (D : va_G) (K : Nat → ClassId) (B b : Nat) : ∀ (d q : Nat) (args : List AV) (V : VS) (h : T2 AC) (n f lo : Nat) (outs : List ZO), z_call P d q args V h n f lo = some outs → z_M ms l D K B b q args V h n f lo outs := by
  intro d
  induction d with
  | zero => intro q args V h n f lo outs hr; cases hr
  | succ d ih =>
    intro q args V h n f lo outs hr
    obtain ⟨M, hM, hr⟩ := z_bdI hr
    obtain ⟨hlen, hr⟩ := z_ifI hr
    obtain ⟨r, hit, hr⟩ := z_bdI hr
    obtain ⟨todo, os⟩ := r
    cases todo with
    | cons st r => cases hr
    | nil =>
      obtain ⟨hokb, hr⟩ := z_ifI hr
      cases hr
      obtain ⟨y, bytes, ret, g1, g2, g3, g4⟩ := hP q M hM
      refine ⟨_, g1, fun ν σ av hs hh ha => ?_⟩
      simp only
      refine va_MetF (cc := bytes) (maxL := M.2.1) (ret := ret) g2 rfl ?_
      intro p e s m as below meth c s₁ X hml hv
      obtain ⟨rfl, hz, hPh, hk⟩ := hv
      have hZ : z_C ms D K B b p l (rmOf f lo M.2.2.2.2.1 M.2.2.2.2.2) s m av.toArray meth c y.cls y.name bytes ν (z_len V) n M.2.1 (z_call P d, f, lo, Nat.add n M.2.2.2.2.1, M.2.2.2.2.2, false) :=
        ⟨cx_of X hml hk, (name_of_methodNamed X.named X.method).1, Nat.le_refl _, Nat.le_refl _, Nat.le_refl _, Nat.le_refl _, hz, (fun h => by cases h), fun q a V h n f lo outs hc => ih q a V h n f lo outs hc⟩
      rw [lg_entry_eq]
      have hrun := (z_iter_ok (e := e) (below := below) (Q := MQ below (z_Q D K B b os ν (z_len V) (n + M.2.2.2.2.1) M.2.2.1) av.toArray s M.2.2.2.2.1 M.2.2.2.2.2 (fr B)) hZ g4 hit).2 ?_ (fun st h => by cases h) _ List.mem_cons_self ν σ s.heap [] _ [] ⟨fun _ _ => rfl, Nat.le_refl _, Nat.le_refl _, hs, hh, ⟨_, lv_entry av (by rw [z_sl_len ha]; exact Nat.le_of_ble_eq_true hlen), z_arg_ok ha⟩, trivial, ⟨hPh, va_S.rf⟩⟩
      · exact W.cs (show 0 = n - n by omega) rfl hrun
      · intro o ho ν' σ' H locs ls v pc hP' hv' hd
        obtain ⟨e1, e2, e3, e5, e6, e4⟩ := z_okbI hokb ho
        obtain ⟨p1, p2, p3, p4, p5, p6, p7, p8⟩ := hP'
        have hcells : o.2.2.2.2.1 - n ≤ M.2.2.2.2.1 := by rw [e1]; show n + M.2.2.2.2.1 - n ≤ _; omega
        refine W.widen hcells e2 ?_
        have e1' : o.2.2.2.2.1 = n + M.2.2.2.2.1 := e1
        have hpost : ∀ w : Value, (M.2.2.1 ≠ 0 → z_mt ν' (z_len o.2.2.1) B b o.2.1 w) → z_post K B b os ν (z_len V) (n + M.2.2.2.2.1) M.2.2.1 w σ' := fun w hw' => ⟨o, ho, ν', p1, p2, p4, by rw [← e1']; exact p5, hw', e1'⟩
        have hH : hw D B (n + M.2.2.2.2.1) σ' s H locs := by rw [← e1']; exact p8
        have hret : meth.sig.returnType = ret := X.returns
        rw [e3] at hd hv' ⊢
        rcases g3 with ⟨r1, r2⟩ | ⟨r1, r2, r3⟩ | ⟨r1, r2, r3⟩ | ⟨r1, r2⟩
        · rw [r1] at hd hpost ⊢
          exact hp_vret hZ.1 (by rw [hret, r2]) X.notSynchronized hH (hpost .null (fun g => absurd rfl g)) hd
        · rw [r1] at hd hv' hpost ⊢
          have hv' := hv' (by decide)
          obtain ⟨x, rfl, -⟩ := z_mt_i hv' (e5 r1)
          exact hp_iret hZ.1 (by rw [hret, r3]) X.notSynchronized rfl hH (hpost (.int x) (fun _ => hv')) hd
        · rw [r1] at hd hv' hpost ⊢
          have hv' := hv' (by decide)
          obtain ⟨x, rfl, hx⟩ := z_mt_i hv' (e5 r1)
          obtain ⟨i, i1, i2, i3⟩ := e4 r2
          have hb := z_iv_ok p4 hx i1
          exact hp_iret hZ.1 (by rw [hret, r3]) X.notSynchronized (nar_b (Int.le_trans i2 hb.1) (Int.le_trans hb.2 i3)) hH (hpost (.int x) (fun _ => hv')) hd
        · rw [r1] at hd hv' hpost ⊢
          have hv' := hv' (by decide)
          obtain ⟨x, rfl, -⟩ := z_mt_l hv' (e6 r1)
          exact hp_lret hZ.1 (by rw [hret, r2]) X.notSynchronized hH (hpost (.long x) (fun _ => hv')) hd
def z_gl (ms : List ZM) : Nat → List ZP → Prop
  | _, [] => True
  | q, M :: l => z_good ms q M ∧ z_gl ms (q + 1) l
def z_gl2 (ms : List ZM) : Nat → T2 ZP → Prop
  | _, [] => True
  | k, r :: l => z_gl ms (16 * k) r ∧ z_gl2 ms (k + 1) l
theorem z_glI {ms : List ZM} {q i : Nat} {l : List ZP} {M : ZP} (h : z_gl ms q l) (hf : z_nth l i = some M) : z_good ms (q + i) M := by
  induction l generalizing q i with
  | nil => cases hf
  | cons g l ih => cases i with
    | zero => cases hf; exact h.1
    | succ i => have := ih h.2 hf; rwa [show q + 1 + i = q + (i + 1) by omega] at this
theorem z_gl2I {ms : List ZM} {k i : Nat} {t : T2 ZP} {r : List ZP} (h : z_gl2 ms k t) (hf : z_nth t i = some r) : z_gl ms (16 * (k + i)) r := by
  induction t generalizing k i with
  | nil => cases hf
  | cons g l ih => cases i with
    | zero => cases hf; exact h.1
    | succ i => have := ih h.2 hf; rwa [show k + 1 + i = k + (i + 1) by omega] at this
theorem z_glG {ms : List ZM} {P : T2 ZP} (h : z_gl2 ms 0 P) (q : Nat) (M : ZP) (hf : z_g2 P q = some M) : z_good ms q M := by
  unfold z_g2 at hf
  cases hr : z_nth P (Nat.div q 16) with
  | none => rw [hr] at hf; cases hf
  | some r =>
    rw [hr] at hf
    have := z_glI (z_gl2I h hr) hf
    rwa [show 16 * (0 + Nat.div q 16) + Nat.mod q 16 = q by show 16 * (0 + q / 16) + q % 16 = q; omega] at this
/-! the rules of numbers, by name -/
def g_and : Int × Int → Int × Int → Option (Int × Int) := g_ex (fun x y => x &&& y) g_and0
theorem g_and_ok : z_gs g_and (fun x y => x &&& y) := g_ex_ok g_and0_ok
def g_or : Int × Int → Int × Int → Option (Int × Int) := g_ex (fun x y => x ||| y) g_any
theorem g_or_ok : z_gs g_or (fun x y => x ||| y) := g_ex_ok g_any_ok
def g_xor : Int × Int → Int × Int → Option (Int × Int) := g_ex (fun x y => x ^^^ y) g_any
theorem g_xor_ok : z_gs g_xor (fun x y => x ^^^ y) := g_ex_ok g_any_ok
def g_shl : Int × Int → Int × Int → Option (Int × Int) := g_ex (fun x y => x <<< (y &&& 31)) g_any
theorem g_shl_ok : z_gs g_shl (fun x y => x <<< (y &&& 31)) := g_ex_ok g_any_ok
def g_shr0 (i _ : Int × Int) : Option (Int × Int) := some (z_min i.1 0, z_max i.2 0)
theorem shr_bd (x y : Int32) : (x.toInt ≤ (x >>> y).toInt ∨ 0 ≤ (x >>> y).toInt) ∧ ((x >>> y).toInt ≤ x.toInt ∨ (x >>> y).toInt ≤ 0) ∧ (0 ≤ x.toInt → 0 ≤ (x >>> y).toInt) ∧ (x.toInt < 0 → (x >>> y).toInt < 0) := by
  rw [← Int32.toInt_toBitVec (x >>> y), Int32.toBitVec_shiftRight, BitVec.sshiftRight_eq', BitVec.toInt_sshiftRight, Int32.toInt_toBitVec, Int.shiftRight_eq_div_pow]
  generalize (y.toBitVec.smod 32#32).toNat = k
  generalize x.toInt = z
  have hp : (0 : Int) < ((2 ^ k : Nat) : Int) := by exact_mod_cast Nat.two_pow_pos k
  generalize ((2 ^ k : Nat) : Int) = d at hp
  have e := Int.mul_ediv_add_emod z d
  have e1 := Int.emod_nonneg z (Int.ne_of_gt hp)
  have e2 := Int.emod_lt_of_pos z hp
  by_cases hz : 0 ≤ z
  · have h1 : 0 ≤ z / d := Int.ediv_nonneg hz (Int.le_of_lt hp)
    have h2 : z / d ≤ z := Int.ediv_le_self d hz
    omega
  · have h1 : z / d < 0 := Int.ediv_neg_of_neg_of_pos (by omega) hp
    have h2 : z ≤ z / d := by
      have : z / d ≥ z := Int.le_ediv_of_mul_le hp (by
        have : z * d ≤ z * 1 := Int.mul_le_mul_of_nonpos_left (by omega) (by omega)
        omega)
      exact this
    omega
theorem g_shr0_ok : z_gs g_shr0 (fun x y => x >>> (y &&& 31)) := by
  intro x y i j w h1 h2 h3 h4 h
  cases h
  obtain ⟨a1, a2, a3, a4⟩ := shr_bd x (y &&& 31)
  refine ⟨?_, ?_⟩
  · show z_min i.1 0 ≤ (x >>> (y &&& 31)).toInt
    have g1 := (z_min_le (a := i.1) (b := 0)).1
    have g2 := (z_min_le (a := i.1) (b := 0)).2.1
    omega
  · show (x >>> (y &&& 31)).toInt ≤ z_max i.2 0
    have g1 := (z_max_le (a := i.2) (b := 0)).1
    have g2 := (z_max_le (a := i.2) (b := 0)).2.1
    omega
def g_shr : Int × Int → Int × Int → Option (Int × Int) := g_ex (fun x y => x >>> (y &&& 31)) g_shr0
theorem g_shr_ok : z_gs g_shr (fun x y => x >>> (y &&& 31)) := g_ex_ok g_shr0_ok
def g_ushr : Int × Int → Int × Int → Option (Int × Int) := g_ex (fun x y => (x.toUInt32 >>> (y.toUInt32 &&& Int32.toUInt32 31)).toInt32) g_any
theorem g_ushr_ok : z_gs g_ushr (fun x y => (x.toUInt32 >>> (y.toUInt32 &&& Int32.toUInt32 31)).toInt32) := g_ex_ok g_any_ok
theorem s_ldcw {ms : List ZM} {own mn : String} {cc : ByteArray} {nL pc np ix : Nat} {w : Int32} {v : Int} (d : decode cc pc = .ok (.ldc_w ix, 3)) (hw : Cond.constant own ix w ∈ bw) (hv : w.toInt = v) (hn : pc + 3 = np) : z_sound ms own mn cc nL pc (h_ci v np) := by
  subst hn
  intro D K B b p l e R s m args below meth c Q ν0 nv0 k0 E X loc stk V h n sl res hr hS hO ν σ H locs ls vs P
  cases hr
  exact lv_ldcw X.1.1 X.1.2.1 X.1.2.2.2.1 (X.1.w hw) d (hS _ List.mem_cons_self ν σ H locs ls _ (z_Pk P ⟨z_mkI (by rw [hv]; exact Int.le_refl _) (by rw [hv]; exact Int.le_refl _), P.2.2.2.2.2.2.1⟩))
