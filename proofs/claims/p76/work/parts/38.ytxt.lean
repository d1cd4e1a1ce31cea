/-! texts: constants, their fields, bytes, lengths; calls on them; statics -/
def h_ctx (t np : Nat) : ZH := fun _ loc stk V h n sl => some ([(np, loc, (8, t, 0, 0, []) :: stk, V, h, n, sl)], [])
def h_gsR (np : Nat) : ZH := fun _ loc stk V h n sl => some ([(np, loc, (5, 0, 0, 0, []) :: stk, V, h, n, sl)], [])
def z_isT (S : List ZT) (a : AV) (t : Nat) : Bool := match z_nth S a.2.1 with
  | some _ => Nat.beq a.1 t
  | none => false
theorem z_isTI {S : List ZT} {a : AV} {t : Nat} (h : z_isT S a t = true) : a.1 = t ∧ ∃ q, z_nth S a.2.1 = some q := by
  unfold z_isT at h
  cases hq : z_nth S a.2.1 with
  | none => rw [hq] at h; cases h
  | some q => rw [hq] at h; exact ⟨Nat.eq_of_beq_eq_true h, q, rfl⟩
def h_getT (S : List ZT) (w np : Nat) : ZH := fun _ loc stk V h n sl => z_bd (z_p1 stk) fun a => z_if (z_isT S a.1 8) (match w with
  | 0 => some ([(np, loc, (9, a.1.2.1, 0, 0, []) :: a.2, V, h, n, sl)], [])
  | _ => some ([(np, loc, (0, 0, 0, 0, []) :: a.2, V, h, n, sl)], []))
def h_alenT (S : List ZT) (np : Nat) : ZH := fun _ loc stk V h n sl => z_bd (z_p1 stk) fun a => z_bd (z_nth S a.1.2.1) fun q => z_if (z_and (Nat.beq a.1.1 9) (Nat.ble (z_len q.2.2.2) 100000)) (some ([(np, loc, (0, 0, Int.ofNat (z_len q.2.2.2), 0, []) :: a.2, V, h, n, sl)], []))
def z_byt (l : List Int32) (w : Int × Int) : Int × Int := match z_one w with
  | true => match z_nth l (Int.toNat w.1) with
    | some b => (b.toInt, b.toInt)
    | none => (z_mn, z_mx)
  | false => (z_mn, z_mx)
def h_aldT (S : List ZT) (np : Nat) : ZH := fun _ loc stk V h n sl => z_bd (z_p1 stk) fun a => z_bd (z_p1 a.2) fun d => z_bd (z_nth S d.1.2.1) fun q => z_if (z_and (z_isI a.1) (z_and (Nat.beq d.1.1 9) (z_inb V (z_fm2 a.1) (z_len q.2.2.2)))) (z_bd (f_bd V (z_fm2 a.1)) fun w => z_push 0 np loc d.2 (z_fr 0 V (z_byt q.2.2.2 w)) h n sl)
def z_rcT (S : List ZT) (as : List AV) : Bool := match as with
  | [] => false
  | a :: _ => z_isT S a 8
def h_callT (S : List ZT) (q na nL' rk mc msl np : Nat) : ZH := fun E loc stk V h n sl => z_bd (z_pops (Nat.succ na) stk []) fun a => z_if (z_and (z_rcT S a.1) (z_room E nL' mc msl n sl a.2)) (z_bd (E.1 q a.1 V h n (Nat.sub E.2.1 1) (Nat.sub E.2.2.1 (Nat.add 19 nL'))) fun outs => some (z_outs rk np loc a.2 (Nat.add n mc) (Nat.add sl msl) outs, []))
theorem z_nth_getD {l : List Int32} {i : Nat} {b : Int32} (h : z_nth l i = some b) : l.getD i 0 = b := by
  induction l generalizing i with
  | nil => cases h
  | cons a l ih => cases i with
    | zero => cases h; rfl
    | succ i => have := ih h; simpa using this
section TX
variable {S : List ZT} {ms : List ZM} {own mn : String} {cc : ByteArray} {nL pc np : Nat}
theorem s_ldcT {q ix : Nat} {tx : String} {bs : List Int32} (hq : z_nth S q = some (own, ix, tx, bs)) (d : decode cc pc = .ok (.ldc ix, 2)) (hn : pc + 2 = np) : z_sound S ms own mn cc nL pc (h_ctx q np) := by
  subst hn
  intro D K β p l e R s m args below meth c Q σ0 ν0 nv0 k0 E X loc stk V h n sl res hr hS hO ν σ H locs ls vs P
  cases hr
  have hx := (X.2.2.2.2.2.2.2.1.2.2 q _ hq).1
  exact va_ldcS X.1.1 X.1.2.1 X.1.2.2.2.1 hx d (hS _ List.mem_cons_self ν σ H locs ls _ (z_Pk P ⟨Or.inr (Or.inr (Or.inr (Or.inr (Or.inr (Or.inr (Or.inr (Or.inr (Or.inl ⟨rfl, rfl⟩)))))))), P.2.2.2.2.2.2.1⟩))
theorem s_gsC {ix : Nat} (hl : Cond.fieldLink own ix "java/lang/String" "COMPACT_STRINGS" "Z" ∈ bw) (d : decode cc pc = .ok (.getstatic ix, 3)) (hn : pc + 3 = np) : z_sound S ms own mn cc nL pc (h_ci 1 np) := by
  subst hn
  intro D K β p l e R s m args below meth c Q σ0 ν0 nv0 k0 E X loc stk V h n sl res hr hS hO ν σ H locs ls vs P
  cases hr
  exact va_gets X.1.1 X.1.2.1 X.2.2.2.2.2.2.2.1.1 P.2.2.2.2.2.2.2.2 X.1.2.2.2.1 (X.1.w hl) (fun _ h => h) d (hS _ List.mem_cons_self ν σ H locs ls _ (z_Pk P ⟨z_mkI (f := (1, [])) f_wf0 (by show (1 : Int32).toInt = 1 + 0; decide), P.2.2.2.2.2.2.1⟩))
theorem s_gsR {ix : Nat} (hl : Cond.fieldLink own ix "jdk/internal/util/Preconditions" "SIOOBE_FORMATTER" "Ljava/util/function/BiFunction;" ∈ bw) (d : decode cc pc = .ok (.getstatic ix, 3)) (hn : pc + 3 = np) : z_sound S ms own mn cc nL pc (h_gsR np) := by
  subst hn
  intro D K β p l e R s m args below meth c Q σ0 ν0 nv0 k0 E X loc stk V h n sl res hr hS hO ν σ H locs ls vs P
  cases hr
  obtain ⟨hr, -⟩ := X.2.2.2.2.2.2.2.1.2.1
  rcases hr with hr | ⟨r, hr⟩
  · exact va_gets X.1.1 X.1.2.1 hr P.2.2.2.2.2.2.2.2 X.1.2.2.2.1 (X.1.w hl) (fun _ h => h) d (hS _ List.mem_cons_self ν σ H locs ls _ (z_Pk P ⟨Or.inr (Or.inr (Or.inr (Or.inr (Or.inr (Or.inl ⟨rfl, Or.inl rfl⟩))))), P.2.2.2.2.2.2.1⟩))
  · exact va_gets X.1.1 X.1.2.1 hr P.2.2.2.2.2.2.2.2 X.1.2.2.2.1 (X.1.w hl) (fun _ h => h) d (hS _ List.mem_cons_self ν σ H locs ls _ (z_Pk P ⟨Or.inr (Or.inr (Or.inr (Or.inr (Or.inr (Or.inl ⟨rfl, Or.inr ⟨r, rfl⟩⟩))))), P.2.2.2.2.2.2.1⟩))
theorem s_getTv {ix : Nat} (hl : Cond.fieldLink own ix "java/lang/String" "value" "[B" ∈ bw) (d : decode cc pc = .ok (.getfield ix, 3)) (hn : pc + 3 = np) : z_sound S ms own mn cc nL pc (h_getT S 0 np) := by
  subst hn
  intro D K β p l e R s m args below meth c Q σ0 ν0 nv0 k0 E X loc stk V h n sl res hr hS hO ν σ H locs ls vs P
  obtain ⟨a, ha, hr⟩ := z_bdI hr
  obtain ⟨hk, hr⟩ := z_ifI hr
  cases hr
  obtain ⟨h8, q, hq⟩ := z_isTI hk
  have p7 := P.2.2.2.2.2.2.1
  rw [show stk = _ from z_p1I ha] at p7
  obtain ⟨vx, rest, rfl, q1, q2⟩ := z_fm_cons p7
  obtain rfl := z_mt_t q1 (by rw [h8]; rfl)
  have hx := (X.2.2.2.2.2.2.2.1.2.2 _ _ hq).2.2.2.1
  exact vk_getf X.1.1 X.1.2.1 hx P.2.2.2.2.2.2.2.2 X.1.2.2.2.1 (X.1.w hl) (fun _ h => h) d (hS _ List.mem_cons_self ν σ H locs ls _ (z_Pk P ⟨Or.inr (Or.inr (Or.inr (Or.inr (Or.inr (Or.inr (Or.inr (Or.inr (Or.inr ⟨rfl, rfl⟩)))))))), q2⟩))
theorem s_getTc {ix : Nat} (hl : Cond.fieldLink own ix "java/lang/String" "coder" "B" ∈ bw) (d : decode cc pc = .ok (.getfield ix, 3)) (hn : pc + 3 = np) : z_sound S ms own mn cc nL pc (h_getT S 1 np) := by
  subst hn
  intro D K β p l e R s m args below meth c Q σ0 ν0 nv0 k0 E X loc stk V h n sl res hr hS hO ν σ H locs ls vs P
  obtain ⟨a, ha, hr⟩ := z_bdI hr
  obtain ⟨hk, hr⟩ := z_ifI hr
  cases hr
  obtain ⟨h8, q, hq⟩ := z_isTI hk
  have p7 := P.2.2.2.2.2.2.1
  rw [show stk = _ from z_p1I ha] at p7
  obtain ⟨vx, rest, rfl, q1, q2⟩ := z_fm_cons p7
  obtain rfl := z_mt_t q1 (by rw [h8]; rfl)
  have hx := (X.2.2.2.2.2.2.2.1.2.2 _ _ hq).2.2.1
  exact vk_getf X.1.1 X.1.2.1 hx P.2.2.2.2.2.2.2.2 X.1.2.2.2.1 (X.1.w hl) (fun _ h => h) d (hS _ List.mem_cons_self ν σ H locs ls _ (z_Pk P ⟨z_mkI (f := (0, [])) f_wf0 (by show (0 : Int32).toInt = 0 + 0; decide), q2⟩))
theorem s_alenT (d : decode cc pc = .ok (.arraylength, 1)) (hn : pc + 1 = np) : z_sound S ms own mn cc nL pc (h_alenT S np) := by
  subst hn
  intro D K β p l e R s m args below meth c Q σ0 ν0 nv0 k0 E X loc stk V h n sl res hr hS hO ν σ H locs ls vs P
  obtain ⟨a, ha, hr⟩ := z_bdI hr
  obtain ⟨q, hq, hr⟩ := z_bdI hr
  obtain ⟨hk, hr⟩ := z_ifI hr
  obtain ⟨hk, hlen⟩ := z_andI hk
  cases hr
  have p7 := P.2.2.2.2.2.2.1
  rw [show stk = _ from z_p1I ha] at p7
  obtain ⟨vx, rest, rfl, q1, q2⟩ := z_fm_cons p7
  obtain rfl := z_mt_u q1 hk
  have hx := (X.2.2.2.2.2.2.2.1.2.2 _ _ hq).2.2.2.2
  have hlen := Nat.le_of_ble_eq_true hlen
  refine va_tlen X.1.1 X.1.2.1 hx P.2.2.2.2.2.2.2.2 rfl d (hS _ List.mem_cons_self ν σ H locs ls _ (z_Pk P ⟨z_mkI (f := (Int.ofNat (z_len q.2.2.2), [])) f_wf0 ?_, q2⟩))
  rw [z_len_eq] at hlen
  show (Int32.ofNat q.2.2.2.length).toInt = Int.ofNat (z_len q.2.2.2) + 0
  rw [z_ofN hlen, z_len_eq]
  show (q.2.2.2.length : Int) = (q.2.2.2.length : Int) + 0
  omega
theorem s_aldT (d : decode cc pc = .ok (.baload, 1)) (hn : pc + 1 = np) : z_sound S ms own mn cc nL pc (h_aldT S np) := by
  subst hn
  intro D K β p l e R s m args below meth c Q σ0 ν0 nv0 k0 E X loc stk V h n sl res hr hS hO ν σ H locs ls vs P
  obtain ⟨a, ha, hr⟩ := z_bdI hr
  obtain ⟨g, hg, hr⟩ := z_bdI hr
  obtain ⟨q, hq, hr⟩ := z_bdI hr
  obtain ⟨hk, hr⟩ := z_ifI hr
  obtain ⟨hka, hk⟩ := z_andI hk
  obtain ⟨hkg, hin⟩ := z_andI hk
  obtain ⟨w, hw', hr⟩ := z_bdI hr
  have p7 := P.2.2.2.2.2.2.1
  rw [show stk = _ from z_p1I ha, z_p1I hg] at p7
  obtain ⟨vx, r1, rfl, q1, q2⟩ := z_fm_cons p7
  obtain ⟨vr, rest, rfl, q3, q4⟩ := z_fm_cons q2
  obtain ⟨wx, x, rfl, hx⟩ := z_mt_i q1 hka
  obtain rfl := z_mt_u q3 hkg
  obtain ⟨b1, b2, b3⟩ := z_inbI P.2.2.2.1 hin hx
  have ht := (X.2.2.2.2.2.2.2.1.2.2 _ _ hq).2.2.2.2
  have hb := f_bd_ok P.2.2.2.1 hw'
  rw [z_len_eq] at b1
  refine va_tb X.1.1 X.1.2.1 ht P.2.2.2.2.2.2.2.2 b1 rfl d ?_
  have hz : (z_byt q.2.2.2 w).1 ≤ (q.2.2.2.getD x.toNatClampNeg 0).toInt ∧ (q.2.2.2.getD x.toNatClampNeg 0).toInt ≤ (z_byt q.2.2.2 w).2 := by
    unfold z_byt
    cases ho : z_one w with
    | false => exact ⟨z_mn_le _, z_mx_le _⟩
    | true =>
      have := z_le_iff.mp ho
      have e : Int.toNat w.1 = x.toNatClampNeg := by omega
      simp only
      rw [e]
      cases hb2 : z_nth q.2.2.2 x.toNatClampNeg with
      | none => exact ⟨z_mn_le _, z_mx_le _⟩
      | some b => rw [z_nth_getD hb2]; exact ⟨Int.le_refl _, Int.le_refl _⟩
  exact z_pushI hr hS P q4 (z_frI P.2.2.2.1 hz.1 hz.2)
theorem s_callT {q na nL' rk mc msl ix : Nat} {y : MethodName} {bytes : ByteArray} {ret : Option FieldType} (hq : z_nth ms q = some (y, bytes, nL', ret, rk, mc, msl)) (J : Kw y bytes nL' ret na) (JV : KwV y) (hcl : y.cls = "java/lang/String") (hl : Cond.methodLink own ix y ∈ bw) (d : decode cc pc = .ok (.invokevirtual ix, 3)) (hn : pc + 3 = np) : z_sound S ms own mn cc nL pc (h_callT S q na nL' rk mc msl np) := by
  subst hn
  intro D K β p l e R s m args below meth c Q σ0 ν0 nv0 k0 E X loc stk V h n sl res hr hS hO ν σ H locs ls vs P
  obtain ⟨a, ha, hr⟩ := z_bdI hr
  obtain ⟨hroom, hr⟩ := z_ifI hr
  obtain ⟨hrc, hroom⟩ := z_andI hroom
  obtain ⟨outs, hcall, hr⟩ := z_bdI hr
  cases hr
  obtain ⟨pv, rest, e1, e2, e3, e4⟩ := z_pops_ok P.2.2.2.2.2.2.1 (acc := []) (accv := []) trivial ha
  rw [List.append_nil] at e2
  obtain ⟨t, As, e5, tq, htq⟩ : ∃ (t : Nat) (As : List Value), pv.reverse = .ref (β.2.2.1 t) :: As ∧ ∃ q, z_nth S t = some q := by
    revert hrc e2
    generalize a.1 = as
    intro hrc e2
    cases as with
    | nil => cases hrc
    | cons x as =>
      obtain ⟨h8, q, hq⟩ := z_isTI (show z_isT S x 8 = true from hrc)
      obtain ⟨v, As, e6, q1, q2⟩ := z_fm_cons e2
      obtain rfl := z_mt_t q1 (by rw [h8]; rfl)
      exact ⟨_, As, e6, q, hq⟩
  refine z_callW X hq hroom hcall hS P e2 e3 (fun f lo hz hM hR hls hcat hf => ?_)
  have e8 : vs = As.reverse ++ .ref (β.2.2.1 t) :: rest := by
    have : pv = As.reverse ++ [.ref (β.2.2.1 t)] := by rw [← List.reverse_reverse pv, e5]; simp
    rw [e1, this]; simp
  rw [e5] at hM ⊢
  have ho := (X.2.2.2.2.2.2.2.1.2.2 _ _ htq).2.1
  have hrecv : ∃ cell : Cell, H[β.2.2.1 t]? = some cell ∧ cell.vm.isStatics = false ∧ s.vm.findClass y.cls = some cell.cls := by
    obtain ⟨cell, h1, h2, h3, -⟩ := ho.kept P.2.2.2.2.2.2.2.2.2.1
    exact ⟨cell, h1, h2, by rw [hcl]; exact h3⟩
  exact va_runV (cfW X.1) hM ⟨cbW X.1 J hl hR, X.1.w JV.1, X.1.w JV.2⟩ ⟨blindS, hrecv, preS X.1 X.2.2.2.2.2.2.2.1 hz P.2.2.2.2.2.2.2⟩ rfl (by have := congrArg List.length e5; simp [e4] at this; omega) hls e8 (lv_room hcat) d hf
end TX
