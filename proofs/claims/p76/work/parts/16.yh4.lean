section L6
variable {S : List ZT} {ms : List ZM} {own mn : String} {cc : ByteArray} {nL pc np : Nat} {g : Int × Int → Int × Int → Option (Int × Int)}
theorem s_iadd (d : decode cc pc = .ok (.iadd, 1)) (hn : pc + 1 = np) : z_sound S ms own mn cc nL pc (h_lin 0 np) := by
  subst hn
  intro D K β p l e R s m args below meth c Q σ0 ν0 nv0 k0 E X loc stk V h n sl res hr hS hO ν σ H locs ls vs P
  obtain ⟨x, y, rest, rfl, kk⟩ := z_linI (op := 0) (F := fun x y => x + y) Int32.toInt_add hr hS P
  exact lv_iadd X.1.1 X.1.2.1 d kk
theorem s_isub (d : decode cc pc = .ok (.isub, 1)) (hn : pc + 1 = np) : z_sound S ms own mn cc nL pc (h_lin 1 np) := by
  subst hn
  intro D K β p l e R s m args below meth c Q σ0 ν0 nv0 k0 E X loc stk V h n sl res hr hS hO ν σ H locs ls vs P
  obtain ⟨x, y, rest, rfl, kk⟩ := z_linI (op := 1) (F := fun x y => x - y) Int32.toInt_sub hr hS P
  exact lv_isub X.1.1 X.1.2.1 d kk
theorem s_imul (d : decode cc pc = .ok (.imul, 1)) (hn : pc + 1 = np) : z_sound S ms own mn cc nL pc (h_mul np) := by
  subst hn
  intro D K β p l e R s m args below meth c Q σ0 ν0 nv0 k0 E X loc stk V h n sl res hr hS hO ν σ H locs ls vs P
  obtain ⟨x, y, rest, rfl, kk⟩ := z_mulI hr hS P
  exact lv_imul X.1.1 X.1.2.1 d kk
theorem s_iand (hg : z_gs g (fun x y => x &&& y)) (d : decode cc pc = .ok (.iand, 1)) (hn : pc + 1 = np) : z_sound S ms own mn cc nL pc (h_bin g np) := by
  subst hn
  intro D K β p l e R s m args below meth c Q σ0 ν0 nv0 k0 E X loc stk V h n sl res hr hS hO ν σ H locs ls vs P
  obtain ⟨x, y, rest, i, j, w, rfl, -, -, -, kk⟩ := z_binI hg hr hS P
  exact lv_iand X.1.1 X.1.2.1 d kk
theorem s_ior (hg : z_gs g (fun x y => x ||| y)) (d : decode cc pc = .ok (.ior, 1)) (hn : pc + 1 = np) : z_sound S ms own mn cc nL pc (h_bin g np) := by
  subst hn
  intro D K β p l e R s m args below meth c Q σ0 ν0 nv0 k0 E X loc stk V h n sl res hr hS hO ν σ H locs ls vs P
  obtain ⟨x, y, rest, i, j, w, rfl, -, -, -, kk⟩ := z_binI hg hr hS P
  exact lv_ior X.1.1 X.1.2.1 d kk
theorem s_ixor (hg : z_gs g (fun x y => x ^^^ y)) (d : decode cc pc = .ok (.ixor, 1)) (hn : pc + 1 = np) : z_sound S ms own mn cc nL pc (h_bin g np) := by
  subst hn
  intro D K β p l e R s m args below meth c Q σ0 ν0 nv0 k0 E X loc stk V h n sl res hr hS hO ν σ H locs ls vs P
  obtain ⟨x, y, rest, i, j, w, rfl, -, -, -, kk⟩ := z_binI hg hr hS P
  exact lv_ixor X.1.1 X.1.2.1 d kk
theorem s_ishl (hg : z_gs g (fun x y => x <<< (y &&& 31))) (d : decode cc pc = .ok (.ishl, 1)) (hn : pc + 1 = np) : z_sound S ms own mn cc nL pc (h_bin g np) := by
  subst hn
  intro D K β p l e R s m args below meth c Q σ0 ν0 nv0 k0 E X loc stk V h n sl res hr hS hO ν σ H locs ls vs P
  obtain ⟨x, y, rest, i, j, w, rfl, -, -, -, kk⟩ := z_binI hg hr hS P
  exact lv_ishl X.1.1 X.1.2.1 d kk
theorem s_ishr (hg : z_gs g (fun x y => x >>> (y &&& 31))) (d : decode cc pc = .ok (.ishr, 1)) (hn : pc + 1 = np) : z_sound S ms own mn cc nL pc (h_bin g np) := by
  subst hn
  intro D K β p l e R s m args below meth c Q σ0 ν0 nv0 k0 E X loc stk V h n sl res hr hS hO ν σ H locs ls vs P
  obtain ⟨x, y, rest, i, j, w, rfl, -, -, -, kk⟩ := z_binI hg hr hS P
  exact lv_ishr X.1.1 X.1.2.1 d kk
theorem s_iushr (hg : z_gs g (fun x y => (x.toUInt32 >>> (y.toUInt32 &&& Int32.toUInt32 31)).toInt32)) (d : decode cc pc = .ok (.iushr, 1)) (hn : pc + 1 = np) : z_sound S ms own mn cc nL pc (h_bin g np) := by
  subst hn
  intro D K β p l e R s m args below meth c Q σ0 ν0 nv0 k0 E X loc stk V h n sl res hr hS hO ν σ H locs ls vs P
  obtain ⟨x, y, rest, i, j, w, rfl, -, -, -, kk⟩ := z_binI hg hr hS P
  exact lv_iushr X.1.1 X.1.2.1 d rfl kk
theorem z_gne {F : Int32 → Int32 → Int32} {i j w : Int × Int} {y : Int32} (h : g_div F g i j = some w) (h1 : j.1 ≤ y.toInt) (h2 : y.toInt ≤ j.2) : ¬ y = 0 := by
  unfold g_div at h
  cases e : z_n0 j with
  | false => rw [e] at h; cases h
  | true => intro e2; exact z_n0I e h1 h2 (by rw [e2]; rfl)
theorem s_idiv (hg : z_gs g (fun x y => x / y)) (d : decode cc pc = .ok (.idiv, 1)) (hn : pc + 1 = np) : z_sound S ms own mn cc nL pc (h_bin (g_div (fun x y => x / y) g) np) := by
  subst hn
  intro D K β p l e R s m args below meth c Q σ0 ν0 nv0 k0 E X loc stk V h n sl res hr hS hO ν σ H locs ls vs P
  obtain ⟨x, y, rest, i, j, w, rfl, h1, h2, h3, kk⟩ := z_binI (g_div_ok hg) hr hS P
  exact lv_idiv X.1.1 X.1.2.1 d (z_gne h3 h1 h2) kk
theorem s_irem (hg : z_gs g (fun x y => x - x / y * y)) (d : decode cc pc = .ok (.irem, 1)) (hn : pc + 1 = np) : z_sound S ms own mn cc nL pc (h_bin (g_div (fun x y => x - x / y * y) g) np) := by
  subst hn
  intro D K β p l e R s m args below meth c Q σ0 ν0 nv0 k0 E X loc stk V h n sl res hr hS hO ν σ H locs ls vs P
  obtain ⟨x, y, rest, i, j, w, rfl, h1, h2, h3, kk⟩ := z_binI (g_div_ok hg) hr hS P
  exact lv_irem X.1.1 X.1.2.1 d (z_gne h3 h1 h2) kk
theorem s_ladd (d : decode cc pc = .ok (.ladd, 1)) (hn : pc + 1 = np) : z_sound S ms own mn cc nL pc (h_linL 0 np) := by
  subst hn
  intro D K β p l e R s m args below meth c Q σ0 ν0 nv0 k0 E X loc stk V h n sl res hr hS hO ν σ H locs ls vs P
  obtain ⟨x, y, rest, rfl, kk⟩ := z_linLI (op := 0) (F := fun x y => x + y) Int64.toInt_add hr hS P
  exact lv_ladd X.1.1 X.1.2.1 d kk
theorem s_lmul (d : decode cc pc = .ok (.lmul, 1)) (hn : pc + 1 = np) : z_sound S ms own mn cc nL pc (h_mulL np) := by
  subst hn
  intro D K β p l e R s m args below meth c Q σ0 ν0 nv0 k0 E X loc stk V h n sl res hr hS hO ν σ H locs ls vs P
  obtain ⟨x, y, rest, rfl, kk⟩ := z_mulLI hr hS P
  exact lv_lmul X.1.1 X.1.2.1 d kk
theorem s_land (hg : z_gsL g (fun x y => x &&& y)) (d : decode cc pc = .ok (.land, 1)) (hn : pc + 1 = np) : z_sound S ms own mn cc nL pc (h_binL g np) := by
  subst hn
  intro D K β p l e R s m args below meth c Q σ0 ν0 nv0 k0 E X loc stk V h n sl res hr hS hO ν σ H locs ls vs P
  obtain ⟨x, y, rest, i, j, w, rfl, -, -, -, kk⟩ := z_binLI hg hr hS P
  exact lv_land X.1.1 X.1.2.1 d kk
theorem s_lor (hg : z_gsL g (fun x y => x ||| y)) (d : decode cc pc = .ok (.lor, 1)) (hn : pc + 1 = np) : z_sound S ms own mn cc nL pc (h_binL g np) := by
  subst hn
  intro D K β p l e R s m args below meth c Q σ0 ν0 nv0 k0 E X loc stk V h n sl res hr hS hO ν σ H locs ls vs P
  obtain ⟨x, y, rest, i, j, w, rfl, -, -, -, kk⟩ := z_binLI hg hr hS P
  exact lv_lor X.1.1 X.1.2.1 d kk
theorem z_gneL {i j w : Int × Int} {y : Int64} (h : gL_n0 g i j = some w) (h1 : j.1 ≤ y.toInt) (h2 : y.toInt ≤ j.2) : ¬ y = 0 := by
  unfold gL_n0 at h
  cases e : z_n0 j with
  | false => rw [e] at h; cases h
  | true => intro e2; exact z_n0I e h1 h2 (by rw [e2]; rfl)
theorem s_ldiv (hg : z_gsL g (fun x y => x / y)) (d : decode cc pc = .ok (.ldiv, 1)) (hn : pc + 1 = np) : z_sound S ms own mn cc nL pc (h_binL (gL_n0 g) np) := by
  subst hn
  intro D K β p l e R s m args below meth c Q σ0 ν0 nv0 k0 E X loc stk V h n sl res hr hS hO ν σ H locs ls vs P
  obtain ⟨x, y, rest, i, j, w, rfl, h1, h2, h3, kk⟩ := z_binLI (gL_n0_ok hg) hr hS P
  exact lv_ldiv X.1.1 X.1.2.1 d (z_gneL h3 h1 h2) kk
theorem s_lrem (hg : z_gsL g (fun x y => x - x / y * y)) (d : decode cc pc = .ok (.lrem, 1)) (hn : pc + 1 = np) : z_sound S ms own mn cc nL pc (h_binL (gL_n0 g) np) := by
  subst hn
  intro D K β p l e R s m args below meth c Q σ0 ν0 nv0 k0 E X loc stk V h n sl res hr hS hO ν σ H locs ls vs P
  obtain ⟨x, y, rest, i, j, w, rfl, h1, h2, h3, kk⟩ := z_binLI (gL_n0_ok hg) hr hS P
  exact lv_lrem X.1.1 X.1.2.1 d (z_gneL h3 h1 h2) kk
end L6
/-- a long shifted by an int: any long -/
def h_lsh (np : Nat) : ZH := fun _ loc stk V h n sl => z_bd (z_p1 stk) fun a => z_bd (z_p1 a.2) fun d => z_if (z_and (z_isI a.1) (z_isL d.1)) (z_push 0 np loc d.2 (z_fr 2 V (z_mnL, z_mxL)) h n sl)
def h_lneg (np : Nat) : ZH := fun _ loc stk V h n sl => z_bd (z_p1 stk) fun a => z_if (z_isL a.1) (z_push 0 np loc a.2 (z_res 2 z_mnL z_mxL V (f_sub (0, []) (z_fm2 a.1))) h n sl)
def h_i2l (np : Nat) : ZH := fun _ loc stk V h n sl => z_bd (z_p1 stk) fun a => z_if (z_isI a.1) (some ([(np, loc, (2, 0, a.1.2.2.1, 0, a.1.2.2.2.2) :: a.2, V, h, n, sl)], []))
def h_l2i (np : Nat) : ZH := fun _ loc stk V h n sl => z_bd (z_p1 stk) fun a => z_if (z_isL a.1) (z_push 0 np loc a.2 (z_res 0 z_mn z_mx V (z_fm2 a.1)) h n sl)
def h_cut (lo hi : Int) (np : Nat) : ZH := fun _ loc stk V h n sl => z_bd (z_p1 stk) fun a => z_if (z_isI a.1) (z_push 0 np loc a.2 (z_res 0 lo hi V (z_fm2 a.1)) h n sl)
section L7
variable {S : List ZT} {ms : List ZM} {own mn : String} {cc : ByteArray} {nL pc np : Nat}
theorem z_lsh {D : va_G} {K : Nat → ClassId} {β : ZB} {p : Program} {l : Launch} {e : Env} {R : Room} {s : State} {m : MethodId} {args : Array Value} {below : List Frame} {meth : Method} {c : Code} {Q : State → Prop} {σ0 : Nat → va_E} {ν0 : Nat → Int} {nv0 k0 : Nat} {E : ZE} {loc : List (Nat × AV)} {stk : List AV} {V : VS} {h : T2 AC} {n sl : Nat} {res : List ZS × List ZO} {ν : Nat → Int} {σ : Nat → va_E} {H : Heap} {locs : List Loc} {ls : Array Slot} {vs : List Value} (hr : h_lsh np E loc stk V h n sl = some res) (hS : ∀ st ∈ res.1, z_W D K β p l e R s m args below meth c Q σ0 ν0 nv0 k0 nL st) (P : z_P D K β s σ0 ν0 nv0 k0 nL loc stk V h n ν σ H locs ls vs) : ∃ (x : Int64) (y : Int32) (rest : List Value), vs = .int y :: .long x :: rest ∧ ∀ z : Int64, W p l e R s m args below meth c H locs (n - k0) sl Q (F0 m np ls (.long z :: rest)) := by
  obtain ⟨a, ha, hr⟩ := z_bdI hr
  obtain ⟨d, hd, hr⟩ := z_bdI hr
  obtain ⟨hk, hr⟩ := z_ifI hr
  obtain ⟨hka, hkd⟩ := z_andI hk
  have p7 := P.2.2.2.2.2.2.1
  rw [z_p1I ha, z_p1I hd] at p7
  obtain ⟨vy, r1, rfl, q1, q2⟩ := z_fm_cons p7
  obtain ⟨vx, rest, rfl, q3, q4⟩ := z_fm_cons q2
  obtain ⟨-, y, rfl, hy⟩ := z_mt_i q1 hka
  obtain ⟨-, x, rfl, hx⟩ := z_mt_l q3 hkd
  exact ⟨x, y, rest, rfl, fun z => z_pushI hr hS P q4 (z_frL P.2.2.2.1 (z_mnL_le _) (z_mxL_le _))⟩
theorem s_lshl (d : decode cc pc = .ok (.lshl, 1)) (hn : pc + 1 = np) : z_sound S ms own mn cc nL pc (h_lsh np) := by
  subst hn
  intro D K β p l e R s m args below meth c Q σ0 ν0 nv0 k0 E X loc stk V h n sl res hr hS hO ν σ H locs ls vs P
  obtain ⟨x, y, rest, rfl, kk⟩ := z_lsh hr hS P
  exact lv_lshl X.1.1 X.1.2.1 d rfl (kk _)
theorem s_lshr (d : decode cc pc = .ok (.lshr, 1)) (hn : pc + 1 = np) : z_sound S ms own mn cc nL pc (h_lsh np) := by
  subst hn
  intro D K β p l e R s m args below meth c Q σ0 ν0 nv0 k0 E X loc stk V h n sl res hr hS hO ν σ H locs ls vs P
  obtain ⟨x, y, rest, rfl, kk⟩ := z_lsh hr hS P
  exact lv_lshr X.1.1 X.1.2.1 d rfl (kk _)
theorem s_lneg (d : decode cc pc = .ok (.lneg, 1)) (hn : pc + 1 = np) : z_sound S ms own mn cc nL pc (h_lneg np) := by
  subst hn
  intro D K β p l e R s m args below meth c Q σ0 ν0 nv0 k0 E X loc stk V h n sl res hr hS hO ν σ H locs ls vs P
  obtain ⟨a, ha, hr⟩ := z_bdI hr
  obtain ⟨hk, hr⟩ := z_ifI hr
  have p7 := P.2.2.2.2.2.2.1
  rw [show stk = _ from z_p1I ha] at p7
  obtain ⟨vx, rest, rfl, q1, q2⟩ := z_fm_cons p7
  obtain ⟨wx, x, rfl, hx⟩ := z_mt_l q1 hk
  refine lv_lneg X.1.1 X.1.2.1 d (z_pushI hr hS P q2 (z_resL P.2.2.2.1 (f_wf_sub f_wf0 wx) (z_mnL_le _) (z_mxL_le _) (fun h1 h2 => ?_)))
  have e0 : f_evm ν (f_sub (0, []) (z_fm2 a.1)) = -x.toInt := by rw [f_sub_ev, ← hx]; show (0 : Int) + 0 - x.toInt = _; omega
  rw [e0] at h1 h2 ⊢
  rw [Int64.toInt_neg]
  exact bmodL_id h1 h2
theorem s_i2l (d : decode cc pc = .ok (.i2l, 1)) (hn : pc + 1 = np) : z_sound S ms own mn cc nL pc (h_i2l np) := by
  subst hn
  intro D K β p l e R s m args below meth c Q σ0 ν0 nv0 k0 E X loc stk V h n sl res hr hS hO ν σ H locs ls vs P
  obtain ⟨a, ha, hr⟩ := z_bdI hr
  obtain ⟨hk, hr⟩ := z_ifI hr
  cases hr
  have p7 := P.2.2.2.2.2.2.1
  rw [show stk = _ from z_p1I ha] at p7
  obtain ⟨vx, rest, rfl, q1, q2⟩ := z_fm_cons p7
  obtain ⟨wx, x, rfl, hx⟩ := z_mt_i q1 hk
  exact lv_i2l X.1.1 X.1.2.1 d rfl (hS _ List.mem_cons_self ν σ H locs ls _ (z_Pk P ⟨z_mkL (f := z_fm2 a.1) wx (by rw [Int32.toInt_toInt64]; exact hx), q2⟩))
theorem s_l2i (d : decode cc pc = .ok (.l2i, 1)) (hn : pc + 1 = np) : z_sound S ms own mn cc nL pc (h_l2i np) := by
  subst hn
  intro D K β p l e R s m args below meth c Q σ0 ν0 nv0 k0 E X loc stk V h n sl res hr hS hO ν σ H locs ls vs P
  obtain ⟨a, ha, hr⟩ := z_bdI hr
  obtain ⟨hk, hr⟩ := z_ifI hr
  have p7 := P.2.2.2.2.2.2.1
  rw [show stk = _ from z_p1I ha] at p7
  obtain ⟨vx, rest, rfl, q1, q2⟩ := z_fm_cons p7
  obtain ⟨wx, x, rfl, hx⟩ := z_mt_l q1 hk
  refine lv_l2i X.1.1 X.1.2.1 d rfl (z_pushI hr hS P q2 (z_resI P.2.2.2.1 wx (z_mn_le _) (z_mx_le _) (fun h1 h2 => ?_)))
  rw [← hx] at *
  rw [Int64.toInt_toInt32]
  exact bmod_id h1 h2
theorem z_i8 (x : Int32) : (-128 : Int) ≤ x.toInt8.toInt32.toInt ∧ x.toInt8.toInt32.toInt ≤ 127 ∧ ((-128 : Int) ≤ x.toInt → x.toInt ≤ 127 → x.toInt8.toInt32.toInt = x.toInt) := by
  rw [Int8.toInt_toInt32]
  refine ⟨Int8.le_toInt _, by have := Int8.toInt_lt x.toInt8; omega, fun h1 h2 => ?_⟩
  rw [Int32.toInt_toInt8]
  apply Int.bmod_eq_of_le <;> omega
theorem z_i16 (x : Int32) : (-32768 : Int) ≤ x.toInt16.toInt32.toInt ∧ x.toInt16.toInt32.toInt ≤ 32767 ∧ ((-32768 : Int) ≤ x.toInt → x.toInt ≤ 32767 → x.toInt16.toInt32.toInt = x.toInt) := by
  rw [Int16.toInt_toInt32]
  refine ⟨Int16.le_toInt _, by have := Int16.toInt_lt x.toInt16; omega, fun h1 h2 => ?_⟩
  rw [Int32.toInt_toInt16]
  apply Int.bmod_eq_of_le <;> omega
theorem z_cut {lo hi : Int} {F : Int32 → Int32} (hF : ∀ x, lo ≤ (F x).toInt ∧ (F x).toInt ≤ hi ∧ (lo ≤ x.toInt → x.toInt ≤ hi → (F x).toInt = x.toInt)) {D : va_G} {K : Nat → ClassId} {β : ZB} {p : Program} {l : Launch} {e : Env} {R : Room} {s : State} {m : MethodId} {args : Array Value} {below : List Frame} {meth : Method} {c : Code} {Q : State → Prop} {σ0 : Nat → va_E} {ν0 : Nat → Int} {nv0 k0 : Nat} {E : ZE} {loc : List (Nat × AV)} {stk : List AV} {V : VS} {h : T2 AC} {n sl : Nat} {res : List ZS × List ZO} {ν : Nat → Int} {σ : Nat → va_E} {H : Heap} {locs : List Loc} {ls : Array Slot} {vs : List Value} (hr : h_cut lo hi np E loc stk V h n sl = some res) (hS : ∀ st ∈ res.1, z_W D K β p l e R s m args below meth c Q σ0 ν0 nv0 k0 nL st) (P : z_P D K β s σ0 ν0 nv0 k0 nL loc stk V h n ν σ H locs ls vs) : ∃ (x : Int32) (rest : List Value), vs = .int x :: rest ∧ W p l e R s m args below meth c H locs (n - k0) sl Q (F0 m np ls (.int (F x) :: rest)) := by
  obtain ⟨a, ha, hr⟩ := z_bdI hr
  obtain ⟨hk, hr⟩ := z_ifI hr
  have p7 := P.2.2.2.2.2.2.1
  rw [show stk = _ from z_p1I ha] at p7
  obtain ⟨vx, rest, rfl, q1, q2⟩ := z_fm_cons p7
  obtain ⟨wx, x, rfl, hx⟩ := z_mt_i q1 hk
  obtain ⟨f1, f2, f3⟩ := hF x
  exact ⟨x, rest, rfl, z_pushI hr hS P q2 (z_resI P.2.2.2.1 wx f1 f2 (fun h1 h2 => by rw [← hx] at *; exact f3 h1 h2))⟩
theorem s_i2b (d : decode cc pc = .ok (.i2b, 1)) (hn : pc + 1 = np) : z_sound S ms own mn cc nL pc (h_cut (-128) 127 np) := by
  subst hn
  intro D K β p l e R s m args below meth c Q σ0 ν0 nv0 k0 E X loc stk V h n sl res hr hS hO ν σ H locs ls vs P
  obtain ⟨x, rest, rfl, kk⟩ := z_cut z_i8 hr hS P
  exact lv_i2b X.1.1 X.1.2.1 d rfl kk
theorem s_i2s (d : decode cc pc = .ok (.i2s, 1)) (hn : pc + 1 = np) : z_sound S ms own mn cc nL pc (h_cut (-32768) 32767 np) := by
  subst hn
  intro D K β p l e R s m args below meth c Q σ0 ν0 nv0 k0 E X loc stk V h n sl res hr hS hO ν σ H locs ls vs P
  obtain ⟨x, rest, rfl, kk⟩ := z_cut z_i16 hr hS P
  exact lv_i2s X.1.1 X.1.2.1 d rfl kk
/-- a local counted on -/
def h_iinc (i : Nat) (d : Int) (nL' np : Nat) : ZH := fun _ loc stk V h n sl => z_bd (z_lkp loc i) fun a => z_if (z_and (z_isI a) (Nat.ble (Nat.succ i) nL')) (some ([(np, (i, (z_res 0 z_mn z_mx V (f_add (z_fm2 a) (d, []))).1) :: z_rm i loc, stk, (z_res 0 z_mn z_mx V (f_add (z_fm2 a) (d, []))).2, h, n, sl)], []))
theorem s_iinc {i : Nat} {z : Int} (d : decode cc pc = .ok (.iinc i z, 3)) (hz : (Int32.ofInt z).toInt = z) (hn : pc + 3 = np) : z_sound S ms own mn cc nL pc (h_iinc i z nL np) := by
  subst hn
  intro D K β p l e R s m args below meth c Q σ0 ν0 nv0 k0 E X loc stk V h n sl res hr hS hO ν σ H locs ls vs P
  obtain ⟨a, ha, hr⟩ := z_bdI hr
  obtain ⟨hk, hr⟩ := z_ifI hr
  obtain ⟨hk, hlt⟩ := z_andI hk
  cases hr
  obtain ⟨p1, p2, p3, p4, p5, p6, p7, p8⟩ := P
  obtain ⟨lv, h1, h2⟩ := p6
  obtain ⟨v, h3, h4⟩ := z_lkp_ok h2 ha
  obtain ⟨wx, x, rfl, hx⟩ := z_mt_i h4 hk
  obtain ⟨ν', e1, e2, e3, e4⟩ := z_resI (β := β) (x := x + Int32.ofInt z) (r := f_add (z_fm2 a) (z, [])) p4 (f_wf_add wx f_wf0) (z_mn_le _) (z_mx_le _) (fun g1 g2 => by
    have e : f_evm ν (f_add (z_fm2 a) (z, [])) = x.toInt + z := by rw [f_add_ev, ← hx]; show x.toInt + (z + 0) = _; omega
    rw [e] at g1 g2 ⊢
    rw [Int32.toInt_add, hz]
    exact bmod_id g1 g2)
  obtain ⟨k, hk'⟩ := List.getElem?_of_mem h3
  refine lv_iinc X.1.1 X.1.2.1 d h1 hk' rfl (Nat.le_of_ble_eq_true hlt) rfl (fun ls' hl => hS _ List.mem_cons_self ν' σ H locs ls' vs ⟨fun i hi => (e1 i (Nat.lt_of_lt_of_le hi p2)).trans (p1 i hi), Nat.le_trans p2 e2, p3, e3, z_hm_ext e1 e2 p5, ⟨_, hl, ⟨rfl, e4⟩, ?_⟩, z_fm_mono (fun _ _ => z_mt_ext e1 e2) p7, p8⟩)
  exact z_rm_ok (z_fm_mono (fun _ _ z => ⟨z.1, z_mt_ext e1 e2 z.2⟩) h2)
/-- the stack -/
def z_nL (a : AV) : Bool := match z_lg a with
  | true => false
  | false => true
theorem z_c1 {ν : Nat → Int} {nv : Nat} {β : ZB} {a : AV} {v : Value} (q : z_mt ν nv β a v) (h : z_nL a = true) : v.category = 1 := by
  rw [z_mt_cat q]
  unfold z_nL at h
  cases hh : z_lg a with
  | true => rw [hh] at h; cases h
  | false => rfl
theorem z_c2 {ν : Nat → Int} {nv : Nat} {β : ZB} {a : AV} {v : Value} (q : z_mt ν nv β a v) (h : z_lg a = true) : v.category = 2 := by
  rw [z_mt_cat q, h]
def h_dup (np : Nat) : ZH := fun _ loc stk V h n sl => z_bd (z_p1 stk) fun a => z_if (z_nL a.1) (some ([(np, loc, a.1 :: a.1 :: a.2, V, h, n, sl)], []))
def h_pop (np : Nat) : ZH := fun _ loc stk V h n sl => z_bd (z_p1 stk) fun a => z_if (z_nL a.1) (some ([(np, loc, a.2, V, h, n, sl)], []))
def h_dupx1 (np : Nat) : ZH := fun _ loc stk V h n sl => z_bd (z_p1 stk) fun a => z_bd (z_p1 a.2) fun d => z_if (z_and (z_nL a.1) (z_nL d.1)) (some ([(np, loc, a.1 :: d.1 :: a.1 :: d.2, V, h, n, sl)], []))
def h_dup2 (np : Nat) : ZH := fun _ loc stk V h n sl => z_bd (z_p1 stk) fun a => match z_lg a.1 with
  | true => some ([(np, loc, a.1 :: a.1 :: a.2, V, h, n, sl)], [])
  | false => z_bd (z_p1 a.2) fun d => z_if (z_nL d.1) (some ([(np, loc, a.1 :: d.1 :: a.1 :: d.1 :: d.2, V, h, n, sl)], []))
theorem s_dup (d : decode cc pc = .ok (.dup, 1)) (hn : pc + 1 = np) : z_sound S ms own mn cc nL pc (h_dup np) := by
  subst hn
  intro D K β p l e R s m args below meth c Q σ0 ν0 nv0 k0 E X loc stk V h n sl res hr hS hO ν σ H locs ls vs P
  obtain ⟨a, ha, hr⟩ := z_bdI hr
  obtain ⟨hk, hr⟩ := z_ifI hr
  cases hr
  have p7 := P.2.2.2.2.2.2.1
  rw [show stk = _ from z_p1I ha] at p7
  obtain ⟨vx, rest, rfl, q1, q2⟩ := z_fm_cons p7
  exact lv_dup X.1.1 X.1.2.1 d (z_c1 q1 hk) (hS _ List.mem_cons_self ν σ H locs ls _ (z_Pk P ⟨q1, q1, q2⟩))
theorem s_pop (d : decode cc pc = .ok (.pop, 1)) (hn : pc + 1 = np) : z_sound S ms own mn cc nL pc (h_pop np) := by
  subst hn
  intro D K β p l e R s m args below meth c Q σ0 ν0 nv0 k0 E X loc stk V h n sl res hr hS hO ν σ H locs ls vs P
  obtain ⟨a, ha, hr⟩ := z_bdI hr
  obtain ⟨hk, hr⟩ := z_ifI hr
  cases hr
  have p7 := P.2.2.2.2.2.2.1
  rw [show stk = _ from z_p1I ha] at p7
  obtain ⟨vx, rest, rfl, q1, q2⟩ := z_fm_cons p7
  exact lv_pop X.1.1 X.1.2.1 d (z_c1 q1 hk) (hS _ List.mem_cons_self ν σ H locs ls _ (z_Pk P q2))
theorem s_dup_x1 (d : decode cc pc = .ok (.dup_x1, 1)) (hn : pc + 1 = np) : z_sound S ms own mn cc nL pc (h_dupx1 np) := by
  subst hn
  intro D K β p l e R s m args below meth c Q σ0 ν0 nv0 k0 E X loc stk V h n sl res hr hS hO ν σ H locs ls vs P
  obtain ⟨a, ha, hr⟩ := z_bdI hr
  obtain ⟨g, hg, hr⟩ := z_bdI hr
  obtain ⟨hk, hr⟩ := z_ifI hr
  obtain ⟨hka, hkg⟩ := z_andI hk
  cases hr
  have p7 := P.2.2.2.2.2.2.1
  rw [show stk = _ from z_p1I ha, z_p1I hg] at p7
  obtain ⟨vx, r1, rfl, q1, q2⟩ := z_fm_cons p7
  obtain ⟨vy, rest, rfl, q3, q4⟩ := z_fm_cons q2
  exact lv_dup_x1 X.1.1 X.1.2.1 d (z_c1 q1 hka) (z_c1 q3 hkg) (hS _ List.mem_cons_self ν σ H locs ls _ (z_Pk P ⟨q1, q3, q1, q4⟩))
theorem s_dup2 (d : decode cc pc = .ok (.dup2, 1)) (hn : pc + 1 = np) : z_sound S ms own mn cc nL pc (h_dup2 np) := by
  subst hn
  intro D K β p l e R s m args below meth c Q σ0 ν0 nv0 k0 E X loc stk V h n sl res hr hS hO ν σ H locs ls vs P
  obtain ⟨a, ha, hr⟩ := z_bdI hr
  have p7 := P.2.2.2.2.2.2.1
  rw [show stk = _ from z_p1I ha] at p7
  obtain ⟨vx, r1, rfl, q1, q2⟩ := z_fm_cons p7
  cases hk : z_lg a.1 with
  | true =>
    rw [hk] at hr
    cases hr
    exact lv_dup2_2 X.1.1 X.1.2.1 d (z_c2 q1 hk) (hS _ List.mem_cons_self ν σ H locs ls _ (z_Pk P ⟨q1, q1, q2⟩))
  | false =>
    rw [hk] at hr
    obtain ⟨g, hg, hr⟩ := z_bdI hr
    obtain ⟨hkg, hr⟩ := z_ifI hr
    cases hr
    rw [z_p1I hg] at q2
    obtain ⟨vy, rest, rfl, q3, q4⟩ := z_fm_cons q2
    exact lv_dup2_11 X.1.1 X.1.2.1 d (z_c1 q1 (by unfold z_nL; rw [hk])) (z_c1 q3 hkg) (hS _ List.mem_cons_self ν σ H locs ls _ (z_Pk P ⟨q1, q3, q1, q3, q4⟩))
/-- branches -/
def h_goto (t : Nat) : ZH := fun _ loc stk V h n sl => some ([(t, loc, stk, V, h, n, sl)], [])
def z_mk (pc : Nat) (loc : List (Nat × AV)) (stk : List AV) (h : T2 AC) (n sl : Nat) (r : List ZS) : List VS → List ZS
  | [] => r
  | V :: l => (pc, loc, stk, V, h, n, sl) :: z_mk pc loc stk h n sl r l
theorem z_mkA {pc : Nat} {loc : List (Nat × AV)} {stk : List AV} {h : T2 AC} {n sl : Nat} {r : List ZS} {l : List VS} {V : VS} (q : V ∈ l) : (pc, loc, stk, V, h, n, sl) ∈ z_mk pc loc stk h n sl r l := by
  induction l with
  | nil => cases q
  | cons W l ih =>
    rcases List.mem_cons.mp q with rfl | q
    · exact List.mem_cons_self
    · exact List.mem_cons_of_mem _ (ih q)
theorem z_mkB {pc : Nat} {loc : List (Nat × AV)} {stk : List AV} {h : T2 AC} {n sl : Nat} {r : List ZS} {l : List VS} {st : ZS} (q : st ∈ r) : st ∈ z_mk pc loc stk h n sl r l := by
  induction l with
  | nil => exact q
  | cons W l ih => exact List.mem_cons_of_mem _ ih
def h_if (c t np : Nat) : ZH := fun _ loc stk V h n sl => z_bd (z_p1 stk) fun a => z_if (z_isI a.1) (z_bd (z_br c V (z_fm2 a.1) (0, [])) fun q => some (z_mk t loc a.2 h n sl (z_mk np loc a.2 h n sl [] q.2) q.1, []))
def h_icmp (c t np : Nat) : ZH := fun _ loc stk V h n sl => z_bd (z_p1 stk) fun a => z_bd (z_p1 a.2) fun d => z_if (z_and (z_isI a.1) (z_isI d.1)) (z_bd (z_br c V (z_fm2 d.1) (z_fm2 a.1)) fun q => some (z_mk t loc d.2 h n sl (z_mk np loc d.2 h n sl [] q.2) q.1, []))
def h_lcmp (c t np : Nat) : ZH := fun _ loc stk V h n sl => z_bd (z_p1 stk) fun a => z_bd (z_p1 a.2) fun d => z_if (z_and (z_isL a.1) (z_isL d.1)) (z_bd (z_br c V (z_fm2 d.1) (z_fm2 a.1)) fun q => some (z_mk t loc d.2 h n sl (z_mk np loc d.2 h n sl [] q.2) q.1, []))
theorem s_goto {off : Int} {t : Nat} (d : decode cc pc = .ok (.goto off, 3)) (ht : (pc : Int) + off = (t : Int)) : z_sound S ms own mn cc nL pc (h_goto t) := by
  intro D K β p l e R s m args below meth c Q σ0 ν0 nv0 k0 E X loc stk V h n sl res hr hS hO ν σ H locs ls vs P
  cases hr
  exact lv_goto X.1.1 X.1.2.1 d ht (hS _ List.mem_cons_self ν σ H locs ls _ P)
end L7
section L9
variable {D : va_G} {K : Nat → ClassId} {β : ZB} {p : Program} {l : Launch} {e : Env} {R : Room} {s : State} {m : MethodId} {args : Array Value} {below : List Frame} {meth : Method} {c : Code} {Q : State → Prop} {σ0 : Nat → va_E} {ν0 : Nat → Int} {nv0 k0 nL : Nat} {E : ZE} {loc : List (Nat × AV)} {stk : List AV} {V : VS} {h : T2 AC} {n sl : Nat} {res : List ZS × List ZO} {ν : Nat → Int} {σ : Nat → va_E} {H : Heap} {locs : List Loc} {ls : Array Slot} {vs : List Value} {co t np : Nat}
theorem z_if0 (hr : h_if co t np E loc stk V h n sl = some res) (hS : ∀ st ∈ res.1, z_W D K β p l e R s m args below meth c Q σ0 ν0 nv0 k0 nL st) (P : z_P D K β s σ0 ν0 nv0 k0 nL loc stk V h n ν σ H locs ls vs) : ∃ (x : Int32) (rest : List Value), vs = .int x :: rest ∧ (z_cmp co x.toInt 0 → W p l e R s m args below meth c H locs (n - k0) sl Q (F0 m t ls rest)) ∧ (¬ z_cmp co x.toInt 0 → W p l e R s m args below meth c H locs (n - k0) sl Q (F0 m np ls rest)) := by
  obtain ⟨a, ha, hr⟩ := z_bdI hr
  obtain ⟨hk, hr⟩ := z_ifI hr
  obtain ⟨q, hq, hr⟩ := z_bdI hr
  cases hr
  have p7 := P.2.2.2.2.2.2.1
  rw [z_p1I ha] at p7
  obtain ⟨vx, rest, rfl, q1, q2⟩ := z_fm_cons p7
  obtain ⟨wx, x, rfl, hx⟩ := z_mt_i q1 hk
  have hb := z_br_ok (c := co) (t := q.1) (f := q.2) (x := z_fm2 a.1) (y := (0, [])) P.2.2.2.1 wx f_wf0 hq
  rw [← hx, show f_evm ν ((0, []) : FM) = 0 from rfl] at hb
  refine ⟨x, rest, rfl, fun g => ?_, fun g => ?_⟩
  · obtain ⟨V', m1, m2, m3⟩ := hb.1 g
    exact hS _ (z_mkA m1) ν σ H locs ls rest (z_Pb (z_Pk P q2) m2 m3)
  · obtain ⟨V', m1, m2, m3⟩ := hb.2 g
    exact hS _ (z_mkB (z_mkA m1)) ν σ H locs ls rest (z_Pb (z_Pk P q2) m2 m3)
theorem z_icmp2 (hr : h_icmp co t np E loc stk V h n sl = some res) (hS : ∀ st ∈ res.1, z_W D K β p l e R s m args below meth c Q σ0 ν0 nv0 k0 nL st) (P : z_P D K β s σ0 ν0 nv0 k0 nL loc stk V h n ν σ H locs ls vs) : ∃ (x y : Int32) (rest : List Value), vs = .int y :: .int x :: rest ∧ (z_cmp co x.toInt y.toInt → W p l e R s m args below meth c H locs (n - k0) sl Q (F0 m t ls rest)) ∧ (¬ z_cmp co x.toInt y.toInt → W p l e R s m args below meth c H locs (n - k0) sl Q (F0 m np ls rest)) := by
  obtain ⟨a, ha, hr⟩ := z_bdI hr
  obtain ⟨d, hd, hr⟩ := z_bdI hr
  obtain ⟨hk, hr⟩ := z_ifI hr
  obtain ⟨q, hq, hr⟩ := z_bdI hr
  cases hr
  obtain ⟨x, y, rest, rfl, wx, wy, hx, hy, q4⟩ := z_two P ha hd hk
  have hb := z_br_ok (c := co) (t := q.1) (f := q.2) (x := z_fm2 d.1) (y := z_fm2 a.1) P.2.2.2.1 wx wy hq
  rw [← hx, ← hy] at hb
  refine ⟨x, y, rest, rfl, fun g => ?_, fun g => ?_⟩
  · obtain ⟨V', m1, m2, m3⟩ := hb.1 g
    exact hS _ (z_mkA m1) ν σ H locs ls rest (z_Pb (z_Pk P q4) m2 m3)
  · obtain ⟨V', m1, m2, m3⟩ := hb.2 g
    exact hS _ (z_mkB (z_mkA m1)) ν σ H locs ls rest (z_Pb (z_Pk P q4) m2 m3)
theorem z_lcmp2 (hr : h_lcmp co t np E loc stk V h n sl = some res) (hS : ∀ st ∈ res.1, z_W D K β p l e R s m args below meth c Q σ0 ν0 nv0 k0 nL st) (P : z_P D K β s σ0 ν0 nv0 k0 nL loc stk V h n ν σ H locs ls vs) : ∃ (x y : Int64) (rest : List Value), vs = .long y :: .long x :: rest ∧ (z_cmp co x.toInt y.toInt → W p l e R s m args below meth c H locs (n - k0) sl Q (F0 m t ls rest)) ∧ (¬ z_cmp co x.toInt y.toInt → W p l e R s m args below meth c H locs (n - k0) sl Q (F0 m np ls rest)) := by
  obtain ⟨a, ha, hr⟩ := z_bdI hr
  obtain ⟨d, hd, hr⟩ := z_bdI hr
  obtain ⟨hk, hr⟩ := z_ifI hr
  obtain ⟨q, hq, hr⟩ := z_bdI hr
  cases hr
  obtain ⟨x, y, rest, rfl, wx, wy, hx, hy, q4⟩ := z_twoL P ha hd hk
  have hb := z_br_ok (c := co) (t := q.1) (f := q.2) (x := z_fm2 d.1) (y := z_fm2 a.1) P.2.2.2.1 wx wy hq
  rw [← hx, ← hy] at hb
  refine ⟨x, y, rest, rfl, fun g => ?_, fun g => ?_⟩
  · obtain ⟨V', m1, m2, m3⟩ := hb.1 g
    exact hS _ (z_mkA m1) ν σ H locs ls rest (z_Pb (z_Pk P q4) m2 m3)
  · obtain ⟨V', m1, m2, m3⟩ := hb.2 g
    exact hS _ (z_mkB (z_mkA m1)) ν σ H locs ls rest (z_Pb (z_Pk P q4) m2 m3)
end L9
theorem cmp_eq {x y : Int64} : lg_cmp x y = 0 ↔ x.toInt = y.toInt := by
  have h1 := @cmp_lt x y
  have h2 := @cmp_gt x y
  constructor
  · intro e
    rw [e] at h1 h2
    have a1 : ¬ x.toInt < y.toInt := fun g => absurd (h1.mpr g) (by decide)
    have a2 : ¬ y.toInt < x.toInt := fun g => absurd (h2.mpr g) (by decide)
    omega
  · intro e
    have : x = y := Int64.toInt_inj.mp e
    subst this
    unfold lg_cmp
    simp
section LB
variable {S : List ZT} {ms : List ZM} {own mn : String} {cc : ByteArray} {nL pc np t : Nat} {off : Int}
theorem s_if_eq (d : decode cc pc = .ok (.ifCond .eq off, 3)) (ht : (pc : Int) + off = (t : Int)) (hn : pc + 3 = np) : z_sound S ms own mn cc nL pc (h_if 0 t np) := by
  subst hn
  intro D K β p l e R s m args below meth c Q σ0 ν0 nv0 k0 E X loc stk V h n sl res hr hS hO ν σ H locs ls vs P
  obtain ⟨x, rest, rfl, kt, kf⟩ := z_if0 hr hS P
  exact lv_if_eq X.1.1 X.1.2.1 d ht (fun g => kt (i_eq.mp g)) (fun g => kf (fun z => g (i_eq.mpr z)))
theorem s_icmp_eq (d : decode cc pc = .ok (.if_icmp .eq off, 3)) (ht : (pc : Int) + off = (t : Int)) (hn : pc + 3 = np) : z_sound S ms own mn cc nL pc (h_icmp 0 t np) := by
  subst hn
  intro D K β p l e R s m args below meth c Q σ0 ν0 nv0 k0 E X loc stk V h n sl res hr hS hO ν σ H locs ls vs P
  obtain ⟨x, y, rest, rfl, kt, kf⟩ := z_icmp2 hr hS P
  exact lv_icmp_eq X.1.1 X.1.2.1 d ht (fun g => kt (i_eq.mp g)) (fun g => kf (fun z => g (i_eq.mpr z)))
theorem s_lcmp_eq (d0 : decode cc pc = .ok (.lcmp, 1)) (d : decode cc (pc + 1) = .ok (.ifCond .eq off, 3)) (ht : ((pc + 1 : Nat) : Int) + off = (t : Int)) (hn : pc + 1 + 3 = np) : z_sound S ms own mn cc nL pc (h_lcmp 0 t np) := by
  subst hn
  intro D K β p l e R s m args below meth c Q σ0 ν0 nv0 k0 E X loc stk V h n sl res hr hS hO ν σ H locs ls vs P
  obtain ⟨x, y, rest, rfl, kt, kf⟩ := z_lcmp2 hr hS P
  exact W.lcmp X.1.1 X.1.2.1 d0 (lv_if_eq X.1.1 X.1.2.1 d ht (fun g => kt (cmp_eq.mp g)) (fun g => kf (fun z => g (cmp_eq.mpr z))))
theorem s_if_ne (d : decode cc pc = .ok (.ifCond .ne off, 3)) (ht : (pc : Int) + off = (t : Int)) (hn : pc + 3 = np) : z_sound S ms own mn cc nL pc (h_if 1 t np) := by
  subst hn
  intro D K β p l e R s m args below meth c Q σ0 ν0 nv0 k0 E X loc stk V h n sl res hr hS hO ν σ H locs ls vs P
  obtain ⟨x, rest, rfl, kt, kf⟩ := z_if0 hr hS P
  exact lv_if_ne X.1.1 X.1.2.1 d ht (fun g => kt (fun z => g (i_eq.mpr z))) (fun g => kf (fun z => z (i_eq.mp g)))
theorem s_icmp_ne (d : decode cc pc = .ok (.if_icmp .ne off, 3)) (ht : (pc : Int) + off = (t : Int)) (hn : pc + 3 = np) : z_sound S ms own mn cc nL pc (h_icmp 1 t np) := by
  subst hn
  intro D K β p l e R s m args below meth c Q σ0 ν0 nv0 k0 E X loc stk V h n sl res hr hS hO ν σ H locs ls vs P
  obtain ⟨x, y, rest, rfl, kt, kf⟩ := z_icmp2 hr hS P
  exact lv_icmp_ne X.1.1 X.1.2.1 d ht (fun g => kt (fun z => g (i_eq.mpr z))) (fun g => kf (fun z => z (i_eq.mp g)))
theorem s_lcmp_ne (d0 : decode cc pc = .ok (.lcmp, 1)) (d : decode cc (pc + 1) = .ok (.ifCond .ne off, 3)) (ht : ((pc + 1 : Nat) : Int) + off = (t : Int)) (hn : pc + 1 + 3 = np) : z_sound S ms own mn cc nL pc (h_lcmp 1 t np) := by
  subst hn
  intro D K β p l e R s m args below meth c Q σ0 ν0 nv0 k0 E X loc stk V h n sl res hr hS hO ν σ H locs ls vs P
  obtain ⟨x, y, rest, rfl, kt, kf⟩ := z_lcmp2 hr hS P
  exact W.lcmp X.1.1 X.1.2.1 d0 (lv_if_ne X.1.1 X.1.2.1 d ht (fun g => kt (fun z => g (cmp_eq.mpr z))) (fun g => kf (fun z => z (cmp_eq.mp g))))
theorem s_if_lt (d : decode cc pc = .ok (.ifCond .lt off, 3)) (ht : (pc : Int) + off = (t : Int)) (hn : pc + 3 = np) : z_sound S ms own mn cc nL pc (h_if 2 t np) := by
  subst hn
  intro D K β p l e R s m args below meth c Q σ0 ν0 nv0 k0 E X loc stk V h n sl res hr hS hO ν σ H locs ls vs P
  obtain ⟨x, rest, rfl, kt, kf⟩ := z_if0 hr hS P
  exact lv_if_lt X.1.1 X.1.2.1 d ht (fun g => kt (i_lt.mp g)) (fun g => kf (fun z => g (i_lt.mpr z)))
theorem s_icmp_lt (d : decode cc pc = .ok (.if_icmp .lt off, 3)) (ht : (pc : Int) + off = (t : Int)) (hn : pc + 3 = np) : z_sound S ms own mn cc nL pc (h_icmp 2 t np) := by
  subst hn
  intro D K β p l e R s m args below meth c Q σ0 ν0 nv0 k0 E X loc stk V h n sl res hr hS hO ν σ H locs ls vs P
  obtain ⟨x, y, rest, rfl, kt, kf⟩ := z_icmp2 hr hS P
  exact lv_icmp_lt X.1.1 X.1.2.1 d ht (fun g => kt (i_lt.mp g)) (fun g => kf (fun z => g (i_lt.mpr z)))
theorem s_lcmp_lt (d0 : decode cc pc = .ok (.lcmp, 1)) (d : decode cc (pc + 1) = .ok (.ifCond .lt off, 3)) (ht : ((pc + 1 : Nat) : Int) + off = (t : Int)) (hn : pc + 1 + 3 = np) : z_sound S ms own mn cc nL pc (h_lcmp 2 t np) := by
  subst hn
  intro D K β p l e R s m args below meth c Q σ0 ν0 nv0 k0 E X loc stk V h n sl res hr hS hO ν σ H locs ls vs P
  obtain ⟨x, y, rest, rfl, kt, kf⟩ := z_lcmp2 hr hS P
  exact W.lcmp X.1.1 X.1.2.1 d0 (lv_if_lt X.1.1 X.1.2.1 d ht (fun g => kt (cmp_lt.mp g)) (fun g => kf (fun z => g (cmp_lt.mpr z))))
theorem s_if_ge (d : decode cc pc = .ok (.ifCond .ge off, 3)) (ht : (pc : Int) + off = (t : Int)) (hn : pc + 3 = np) : z_sound S ms own mn cc nL pc (h_if 3 t np) := by
  subst hn
  intro D K β p l e R s m args below meth c Q σ0 ν0 nv0 k0 E X loc stk V h n sl res hr hS hO ν σ H locs ls vs P
  obtain ⟨x, rest, rfl, kt, kf⟩ := z_if0 hr hS P
  exact lv_if_ge X.1.1 X.1.2.1 d ht (fun g => kt (i_le.mp g)) (fun g => kf (fun z => g (i_le.mpr z)))
theorem s_icmp_ge (d : decode cc pc = .ok (.if_icmp .ge off, 3)) (ht : (pc : Int) + off = (t : Int)) (hn : pc + 3 = np) : z_sound S ms own mn cc nL pc (h_icmp 3 t np) := by
  subst hn
  intro D K β p l e R s m args below meth c Q σ0 ν0 nv0 k0 E X loc stk V h n sl res hr hS hO ν σ H locs ls vs P
  obtain ⟨x, y, rest, rfl, kt, kf⟩ := z_icmp2 hr hS P
  exact lv_icmp_ge X.1.1 X.1.2.1 d ht (fun g => kt (i_le.mp g)) (fun g => kf (fun z => g (i_le.mpr z)))
theorem s_lcmp_ge (d0 : decode cc pc = .ok (.lcmp, 1)) (d : decode cc (pc + 1) = .ok (.ifCond .ge off, 3)) (ht : ((pc + 1 : Nat) : Int) + off = (t : Int)) (hn : pc + 1 + 3 = np) : z_sound S ms own mn cc nL pc (h_lcmp 3 t np) := by
  subst hn
  intro D K β p l e R s m args below meth c Q σ0 ν0 nv0 k0 E X loc stk V h n sl res hr hS hO ν σ H locs ls vs P
  obtain ⟨x, y, rest, rfl, kt, kf⟩ := z_lcmp2 hr hS P
  exact W.lcmp X.1.1 X.1.2.1 d0 (lv_if_ge X.1.1 X.1.2.1 d ht (fun g => kt (Int.not_lt.mp (fun z => absurd (i_lt.mp (cmp_lt.mpr z)) (Int.not_lt.mpr (i_le.mp g))))) (fun g => kf (Int.not_le.mpr (cmp_lt.mp (n_le g)))))
theorem s_if_gt (d : decode cc pc = .ok (.ifCond .gt off, 3)) (ht : (pc : Int) + off = (t : Int)) (hn : pc + 3 = np) : z_sound S ms own mn cc nL pc (h_if 4 t np) := by
  subst hn
  intro D K β p l e R s m args below meth c Q σ0 ν0 nv0 k0 E X loc stk V h n sl res hr hS hO ν σ H locs ls vs P
  obtain ⟨x, rest, rfl, kt, kf⟩ := z_if0 hr hS P
  exact lv_if_gt X.1.1 X.1.2.1 d ht (fun g => kt (i_lt.mp g)) (fun g => kf (fun z => g (i_lt.mpr z)))
theorem s_icmp_gt (d : decode cc pc = .ok (.if_icmp .gt off, 3)) (ht : (pc : Int) + off = (t : Int)) (hn : pc + 3 = np) : z_sound S ms own mn cc nL pc (h_icmp 4 t np) := by
  subst hn
  intro D K β p l e R s m args below meth c Q σ0 ν0 nv0 k0 E X loc stk V h n sl res hr hS hO ν σ H locs ls vs P
  obtain ⟨x, y, rest, rfl, kt, kf⟩ := z_icmp2 hr hS P
  exact lv_icmp_gt X.1.1 X.1.2.1 d ht (fun g => kt (i_lt.mp g)) (fun g => kf (fun z => g (i_lt.mpr z)))
theorem s_lcmp_gt (d0 : decode cc pc = .ok (.lcmp, 1)) (d : decode cc (pc + 1) = .ok (.ifCond .gt off, 3)) (ht : ((pc + 1 : Nat) : Int) + off = (t : Int)) (hn : pc + 1 + 3 = np) : z_sound S ms own mn cc nL pc (h_lcmp 4 t np) := by
  subst hn
  intro D K β p l e R s m args below meth c Q σ0 ν0 nv0 k0 E X loc stk V h n sl res hr hS hO ν σ H locs ls vs P
  obtain ⟨x, y, rest, rfl, kt, kf⟩ := z_lcmp2 hr hS P
  exact W.lcmp X.1.1 X.1.2.1 d0 (lv_if_gt X.1.1 X.1.2.1 d ht (fun g => kt (cmp_gt.mp g)) (fun g => kf (fun z => g (cmp_gt.mpr z))))
theorem s_if_le (d : decode cc pc = .ok (.ifCond .le off, 3)) (ht : (pc : Int) + off = (t : Int)) (hn : pc + 3 = np) : z_sound S ms own mn cc nL pc (h_if 5 t np) := by
  subst hn
  intro D K β p l e R s m args below meth c Q σ0 ν0 nv0 k0 E X loc stk V h n sl res hr hS hO ν σ H locs ls vs P
  obtain ⟨x, rest, rfl, kt, kf⟩ := z_if0 hr hS P
  exact lv_if_le X.1.1 X.1.2.1 d ht (fun g => kt (i_le.mp g)) (fun g => kf (fun z => g (i_le.mpr z)))
theorem s_icmp_le (d : decode cc pc = .ok (.if_icmp .le off, 3)) (ht : (pc : Int) + off = (t : Int)) (hn : pc + 3 = np) : z_sound S ms own mn cc nL pc (h_icmp 5 t np) := by
  subst hn
  intro D K β p l e R s m args below meth c Q σ0 ν0 nv0 k0 E X loc stk V h n sl res hr hS hO ν σ H locs ls vs P
  obtain ⟨x, y, rest, rfl, kt, kf⟩ := z_icmp2 hr hS P
  exact lv_icmp_le X.1.1 X.1.2.1 d ht (fun g => kt (i_le.mp g)) (fun g => kf (fun z => g (i_le.mpr z)))
theorem s_lcmp_le (d0 : decode cc pc = .ok (.lcmp, 1)) (d : decode cc (pc + 1) = .ok (.ifCond .le off, 3)) (ht : ((pc + 1 : Nat) : Int) + off = (t : Int)) (hn : pc + 1 + 3 = np) : z_sound S ms own mn cc nL pc (h_lcmp 5 t np) := by
  subst hn
  intro D K β p l e R s m args below meth c Q σ0 ν0 nv0 k0 E X loc stk V h n sl res hr hS hO ν σ H locs ls vs P
  obtain ⟨x, y, rest, rfl, kt, kf⟩ := z_lcmp2 hr hS P
  exact W.lcmp X.1.1 X.1.2.1 d0 (lv_if_le X.1.1 X.1.2.1 d ht (fun g => kt (Int.not_lt.mp (fun z => absurd (i_lt.mp (cmp_gt.mpr z)) (Int.not_lt.mpr (i_le.mp g))))) (fun g => kf (Int.not_le.mpr (cmp_gt.mp (n_le g)))))
end LB
