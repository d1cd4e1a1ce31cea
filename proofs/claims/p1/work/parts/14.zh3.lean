section L5
variable {ms : List ZM} {D : va_G} {K : Nat → ClassId} {B b : Nat} {p : Program} {l : Launch} {e : Env} {R : Room} {s : State} {m : MethodId} {args : Array Value} {below : List Frame} {meth : Method} {c : Code} {Q : State → Prop} {ν0 : Nat → Int} {nv0 k0 nL : Nat} {E : ZE} {own mn : String} {cc : ByteArray} {loc : List (Nat × AV)} {stk : List AV} {V : VS} {h : T2 AC} {n sl : Nat} {res : List ZS × List ZO} {ν : Nat → Int} {σ : Nat → va_E} {H : Heap} {locs : List Loc} {ls : Array Slot} {vs : List Value} {pc np : Nat}
theorem z_bin {g : Int × Int → Int × Int → Option (Int × Int)} {F : Int32 → Int32 → Int32} (hg : z_gs g F) (hr : h_bin g np E loc stk V h n sl = some res) (hS : ∀ st ∈ res.1, z_W D K B b p l e R s m args below meth c Q ν0 nv0 k0 nL st) (P : z_P D K B b s ν0 nv0 k0 nL loc stk V h n ν σ H locs ls vs) : ∃ (x y : Int32) (rest : List Value) (i j w : Int × Int), vs = .int y :: .int x :: rest ∧ j.1 ≤ y.toInt ∧ y.toInt ≤ j.2 ∧ g i j = some w ∧ W p l e R s m args below meth c H locs (n - k0) sl Q (F0 m np ls (.int (F x y) :: rest)) := by
  obtain ⟨a, ha, hr⟩ := z_bdI hr
  obtain ⟨d, hd, hr⟩ := z_bdI hr
  obtain ⟨hk, hr⟩ := z_ifI hr
  obtain ⟨hka, hkd⟩ := z_andI hk
  obtain ⟨q, hq, hr⟩ := z_bdI hr
  obtain ⟨w, hw, hr⟩ := z_bdI hr
  cases hr
  have p7 := P.2.2.2.2.2.2.1
  rw [z_p1I ha, z_p1I hd] at p7
  obtain ⟨vy, r1, rfl, q1, q2⟩ := z_fm_cons p7
  obtain ⟨vx, rest, rfl, q3, q4⟩ := z_fm_cons q2
  obtain ⟨y, rfl, hy⟩ := z_mt_i q1 hka
  obtain ⟨x, rfl, hx⟩ := z_mt_i q3 hkd
  obtain ⟨i1, i2⟩ := z_bndI hq
  have bx := z_iv_ok P.2.2.2.1 hx i1
  have by' := z_iv_ok P.2.2.2.1 hy i2
  have hz := hg x y q.1 q.2 w bx.1 bx.2 by'.1 by'.2 hw
  exact ⟨x, y, rest, q.1, q.2, w, rfl, by'.1, by'.2, hw, hS _ List.mem_cons_self ν σ H locs ls _ (z_Pk P ⟨z_mkI hz.1 hz.2, q4⟩)⟩
theorem z_binL {g : Int × Int → Int × Int → Option (Int × Int)} {F : Int64 → Int64 → Int64} (hg : z_gsL g F) (hr : h_binL g np E loc stk V h n sl = some res) (hS : ∀ st ∈ res.1, z_W D K B b p l e R s m args below meth c Q ν0 nv0 k0 nL st) (P : z_P D K B b s ν0 nv0 k0 nL loc stk V h n ν σ H locs ls vs) : ∃ (x y : Int64) (rest : List Value) (i j w : Int × Int), vs = .long y :: .long x :: rest ∧ j.1 ≤ y.toInt ∧ y.toInt ≤ j.2 ∧ g i j = some w ∧ W p l e R s m args below meth c H locs (n - k0) sl Q (F0 m np ls (.long (F x y) :: rest)) := by
  obtain ⟨a, ha, hr⟩ := z_bdI hr
  obtain ⟨d, hd, hr⟩ := z_bdI hr
  obtain ⟨hk, hr⟩ := z_ifI hr
  obtain ⟨hka, hkd⟩ := z_andI hk
  obtain ⟨q, hq, hr⟩ := z_bdI hr
  obtain ⟨w, hw, hr⟩ := z_bdI hr
  cases hr
  have p7 := P.2.2.2.2.2.2.1
  rw [z_p1I ha, z_p1I hd] at p7
  obtain ⟨vy, r1, rfl, q1, q2⟩ := z_fm_cons p7
  obtain ⟨vx, rest, rfl, q3, q4⟩ := z_fm_cons q2
  obtain ⟨y, rfl, hy⟩ := z_mt_l q1 hka
  obtain ⟨x, rfl, hx⟩ := z_mt_l q3 hkd
  obtain ⟨i1, i2⟩ := z_bndI hq
  have bx := z_iv_ok P.2.2.2.1 hx i1
  have by' := z_iv_ok P.2.2.2.1 hy i2
  have hz := hg x y q.1 q.2 w bx.1 bx.2 by'.1 by'.2 hw
  exact ⟨x, y, rest, q.1, q.2, w, rfl, by'.1, by'.2, hw, hS _ List.mem_cons_self ν σ H locs ls _ (z_Pk P ⟨z_mkL hz.1 hz.2, q4⟩)⟩
end L5
/-! longs -/
def gL_add (i j : Int × Int) : Option (Int × Int) := some (z_fitL (Int.add i.1 j.1, Int.add i.2 j.2))
theorem gL_add_ok : z_gsL gL_add (fun x y => x + y) := by
  intro x y i j w h1 h2 h3 h4 h
  cases h
  exact z_fitL_ok (Int64.toInt_add x y).symm (Int.add_le_add h1 h3) (Int.add_le_add h2 h4)
def gL_mul (i j : Int × Int) : Option (Int × Int) := match z_and (z_le 0 i.1) (z_le 0 j.1) with
  | true => some (z_fitL (Int.mul i.1 j.1, Int.mul i.2 j.2))
  | false => some (z_mnL, z_mxL)
theorem gL_mul_ok : z_gsL gL_mul (fun x y => x * y) := by
  intro x y i j w h1 h2 h3 h4 h
  unfold gL_mul at h
  cases e : z_and (z_le 0 i.1) (z_le 0 j.1) with
  | true =>
    rw [e] at h
    obtain ⟨a1, a2⟩ := z_andI e
    have a1 := z_le_iff.mp a1
    have a2 := z_le_iff.mp a2
    cases h
    exact z_fitL_ok (Int64.toInt_mul x y).symm (Int.mul_le_mul h1 h3 a2 (by omega)) (Int.mul_le_mul h2 h4 (by omega) (by omega))
  | false =>
    rw [e] at h
    cases h
    exact ⟨z_mnL_le _, z_mxL_le _⟩
def gL_any (_ _ : Int × Int) : Option (Int × Int) := some (z_mnL, z_mxL)
theorem gL_any_ok {F : Int64 → Int64 → Int64} : z_gsL gL_any F := by
  intro x y i j w _ _ _ _ h
  cases h
  exact ⟨z_mnL_le _, z_mxL_le _⟩
def gL_n0 (g : Int × Int → Int × Int → Option (Int × Int)) (i j : Int × Int) : Option (Int × Int) := match z_n0 j with
  | true => g i j
  | false => none
theorem gL_n0_ok {F : Int64 → Int64 → Int64} {g : Int × Int → Int × Int → Option (Int × Int)} (hg : z_gsL g F) : z_gsL (gL_n0 g) F := by
  intro x y i j w h1 h2 h3 h4 h
  unfold gL_n0 at h
  cases e : z_n0 j with
  | false => rw [e] at h; cases h
  | true => rw [e] at h; exact hg x y i j w h1 h2 h3 h4 h
section L6
variable {ms : List ZM} {own mn : String} {cc : ByteArray} {nL pc np : Nat} {g : Int × Int → Int × Int → Option (Int × Int)}
theorem s_iadd (d : decode cc pc = .ok (.iadd, 1)) (hn : pc + 1 = np) : z_sound ms own mn cc nL pc (h_bin g_add np) := by
  subst hn
  intro D K B b p l e R s m args below meth c Q ν0 nv0 k0 E X loc stk V h n sl res hr hS hO ν σ H locs ls vs P
  obtain ⟨x, y, rest, i, j, w, rfl, -, -, -, kk⟩ := z_bin g_add_ok hr hS P
  exact lv_iadd X.1.1 X.1.2.1 d kk
theorem s_isub (d : decode cc pc = .ok (.isub, 1)) (hn : pc + 1 = np) : z_sound ms own mn cc nL pc (h_bin g_sub np) := by
  subst hn
  intro D K B b p l e R s m args below meth c Q ν0 nv0 k0 E X loc stk V h n sl res hr hS hO ν σ H locs ls vs P
  obtain ⟨x, y, rest, i, j, w, rfl, -, -, -, kk⟩ := z_bin g_sub_ok hr hS P
  exact lv_isub X.1.1 X.1.2.1 d kk
theorem s_imul (d : decode cc pc = .ok (.imul, 1)) (hn : pc + 1 = np) : z_sound ms own mn cc nL pc (h_bin g_mul np) := by
  subst hn
  intro D K B b p l e R s m args below meth c Q ν0 nv0 k0 E X loc stk V h n sl res hr hS hO ν σ H locs ls vs P
  obtain ⟨x, y, rest, i, j, w, rfl, -, -, -, kk⟩ := z_bin g_mul_ok hr hS P
  exact lv_imul X.1.1 X.1.2.1 d kk
theorem s_iand (hg : z_gs g (fun x y => x &&& y)) (d : decode cc pc = .ok (.iand, 1)) (hn : pc + 1 = np) : z_sound ms own mn cc nL pc (h_bin g np) := by
  subst hn
  intro D K B b p l e R s m args below meth c Q ν0 nv0 k0 E X loc stk V h n sl res hr hS hO ν σ H locs ls vs P
  obtain ⟨x, y, rest, i, j, w, rfl, -, -, -, kk⟩ := z_bin hg hr hS P
  exact lv_iand X.1.1 X.1.2.1 d kk
theorem s_ior (hg : z_gs g (fun x y => x ||| y)) (d : decode cc pc = .ok (.ior, 1)) (hn : pc + 1 = np) : z_sound ms own mn cc nL pc (h_bin g np) := by
  subst hn
  intro D K B b p l e R s m args below meth c Q ν0 nv0 k0 E X loc stk V h n sl res hr hS hO ν σ H locs ls vs P
  obtain ⟨x, y, rest, i, j, w, rfl, -, -, -, kk⟩ := z_bin hg hr hS P
  exact lv_ior X.1.1 X.1.2.1 d kk
theorem s_ixor (hg : z_gs g (fun x y => x ^^^ y)) (d : decode cc pc = .ok (.ixor, 1)) (hn : pc + 1 = np) : z_sound ms own mn cc nL pc (h_bin g np) := by
  subst hn
  intro D K B b p l e R s m args below meth c Q ν0 nv0 k0 E X loc stk V h n sl res hr hS hO ν σ H locs ls vs P
  obtain ⟨x, y, rest, i, j, w, rfl, -, -, -, kk⟩ := z_bin hg hr hS P
  exact lv_ixor X.1.1 X.1.2.1 d kk
theorem s_ishl (hg : z_gs g (fun x y => x <<< (y &&& 31))) (d : decode cc pc = .ok (.ishl, 1)) (hn : pc + 1 = np) : z_sound ms own mn cc nL pc (h_bin g np) := by
  subst hn
  intro D K B b p l e R s m args below meth c Q ν0 nv0 k0 E X loc stk V h n sl res hr hS hO ν σ H locs ls vs P
  obtain ⟨x, y, rest, i, j, w, rfl, -, -, -, kk⟩ := z_bin hg hr hS P
  exact lv_ishl X.1.1 X.1.2.1 d kk
theorem s_ishr (hg : z_gs g (fun x y => x >>> (y &&& 31))) (d : decode cc pc = .ok (.ishr, 1)) (hn : pc + 1 = np) : z_sound ms own mn cc nL pc (h_bin g np) := by
  subst hn
  intro D K B b p l e R s m args below meth c Q ν0 nv0 k0 E X loc stk V h n sl res hr hS hO ν σ H locs ls vs P
  obtain ⟨x, y, rest, i, j, w, rfl, -, -, -, kk⟩ := z_bin hg hr hS P
  exact lv_ishr X.1.1 X.1.2.1 d kk
theorem s_iushr (hg : z_gs g (fun x y => (x.toUInt32 >>> (y.toUInt32 &&& Int32.toUInt32 31)).toInt32)) (d : decode cc pc = .ok (.iushr, 1)) (hn : pc + 1 = np) : z_sound ms own mn cc nL pc (h_bin g np) := by
  subst hn
  intro D K B b p l e R s m args below meth c Q ν0 nv0 k0 E X loc stk V h n sl res hr hS hO ν σ H locs ls vs P
  obtain ⟨x, y, rest, i, j, w, rfl, -, -, -, kk⟩ := z_bin hg hr hS P
  exact lv_iushr X.1.1 X.1.2.1 d rfl kk
theorem z_gne {F : Int32 → Int32 → Int32} {i j w : Int × Int} {y : Int32} (h : g_div F g i j = some w) (h1 : j.1 ≤ y.toInt) (h2 : y.toInt ≤ j.2) : ¬ y = 0 := by
  unfold g_div at h
  cases e : z_n0 j with
  | false => rw [e] at h; cases h
  | true => intro e2; exact z_n0I e h1 h2 (by rw [e2]; rfl)
theorem s_idiv (hg : z_gs g (fun x y => x / y)) (d : decode cc pc = .ok (.idiv, 1)) (hn : pc + 1 = np) : z_sound ms own mn cc nL pc (h_bin (g_div (fun x y => x / y) g) np) := by
  subst hn
  intro D K B b p l e R s m args below meth c Q ν0 nv0 k0 E X loc stk V h n sl res hr hS hO ν σ H locs ls vs P
  obtain ⟨x, y, rest, i, j, w, rfl, h1, h2, h3, kk⟩ := z_bin (g_div_ok hg) hr hS P
  exact lv_idiv X.1.1 X.1.2.1 d (z_gne h3 h1 h2) kk
theorem s_irem (hg : z_gs g (fun x y => x - x / y * y)) (d : decode cc pc = .ok (.irem, 1)) (hn : pc + 1 = np) : z_sound ms own mn cc nL pc (h_bin (g_div (fun x y => x - x / y * y) g) np) := by
  subst hn
  intro D K B b p l e R s m args below meth c Q ν0 nv0 k0 E X loc stk V h n sl res hr hS hO ν σ H locs ls vs P
  obtain ⟨x, y, rest, i, j, w, rfl, h1, h2, h3, kk⟩ := z_bin (g_div_ok hg) hr hS P
  exact lv_irem X.1.1 X.1.2.1 d (z_gne h3 h1 h2) kk
theorem s_ladd (d : decode cc pc = .ok (.ladd, 1)) (hn : pc + 1 = np) : z_sound ms own mn cc nL pc (h_binL gL_add np) := by
  subst hn
  intro D K B b p l e R s m args below meth c Q ν0 nv0 k0 E X loc stk V h n sl res hr hS hO ν σ H locs ls vs P
  obtain ⟨x, y, rest, i, j, w, rfl, -, -, -, kk⟩ := z_binL gL_add_ok hr hS P
  exact lv_ladd X.1.1 X.1.2.1 d kk
theorem s_lmul (d : decode cc pc = .ok (.lmul, 1)) (hn : pc + 1 = np) : z_sound ms own mn cc nL pc (h_binL gL_mul np) := by
  subst hn
  intro D K B b p l e R s m args below meth c Q ν0 nv0 k0 E X loc stk V h n sl res hr hS hO ν σ H locs ls vs P
  obtain ⟨x, y, rest, i, j, w, rfl, -, -, -, kk⟩ := z_binL gL_mul_ok hr hS P
  exact lv_lmul X.1.1 X.1.2.1 d kk
theorem s_land (hg : z_gsL g (fun x y => x &&& y)) (d : decode cc pc = .ok (.land, 1)) (hn : pc + 1 = np) : z_sound ms own mn cc nL pc (h_binL g np) := by
  subst hn
  intro D K B b p l e R s m args below meth c Q ν0 nv0 k0 E X loc stk V h n sl res hr hS hO ν σ H locs ls vs P
  obtain ⟨x, y, rest, i, j, w, rfl, -, -, -, kk⟩ := z_binL hg hr hS P
  exact lv_land X.1.1 X.1.2.1 d kk
theorem s_lor (hg : z_gsL g (fun x y => x ||| y)) (d : decode cc pc = .ok (.lor, 1)) (hn : pc + 1 = np) : z_sound ms own mn cc nL pc (h_binL g np) := by
  subst hn
  intro D K B b p l e R s m args below meth c Q ν0 nv0 k0 E X loc stk V h n sl res hr hS hO ν σ H locs ls vs P
  obtain ⟨x, y, rest, i, j, w, rfl, -, -, -, kk⟩ := z_binL hg hr hS P
  exact lv_lor X.1.1 X.1.2.1 d kk
theorem z_gneL {i j w : Int × Int} {y : Int64} (h : gL_n0 g i j = some w) (h1 : j.1 ≤ y.toInt) (h2 : y.toInt ≤ j.2) : ¬ y = 0 := by
  unfold gL_n0 at h
  cases e : z_n0 j with
  | false => rw [e] at h; cases h
  | true => intro e2; exact z_n0I e h1 h2 (by rw [e2]; rfl)
theorem s_ldiv (hg : z_gsL g (fun x y => x / y)) (d : decode cc pc = .ok (.ldiv, 1)) (hn : pc + 1 = np) : z_sound ms own mn cc nL pc (h_binL (gL_n0 g) np) := by
  subst hn
  intro D K B b p l e R s m args below meth c Q ν0 nv0 k0 E X loc stk V h n sl res hr hS hO ν σ H locs ls vs P
  obtain ⟨x, y, rest, i, j, w, rfl, h1, h2, h3, kk⟩ := z_binL (gL_n0_ok hg) hr hS P
  exact lv_ldiv X.1.1 X.1.2.1 d (z_gneL h3 h1 h2) kk
theorem s_lrem (hg : z_gsL g (fun x y => x - x / y * y)) (d : decode cc pc = .ok (.lrem, 1)) (hn : pc + 1 = np) : z_sound ms own mn cc nL pc (h_binL (gL_n0 g) np) := by
  subst hn
  intro D K B b p l e R s m args below meth c Q ν0 nv0 k0 E X loc stk V h n sl res hr hS hO ν σ H locs ls vs P
  obtain ⟨x, y, rest, i, j, w, rfl, h1, h2, h3, kk⟩ := z_binL (gL_n0_ok hg) hr hS P
  exact lv_lrem X.1.1 X.1.2.1 d (z_gneL h3 h1 h2) kk
end L6
/-- a long shifted by an int: any long -/
def h_lsh (np : Nat) : ZH := fun _ loc stk V h n sl => z_bd (z_p1 stk) fun a => z_bd (z_p1 a.2) fun d => z_if (z_and (z_isI a.1) (z_isL d.1)) (some ([(np, loc, (2, 0, z_mnL, z_mxL) :: d.2, V, h, n, sl)], []))
/-- int to long, long to int, int to byte, short, char -/
def h_i2l (np : Nat) : ZH := fun _ loc stk V h n sl => z_bd (z_p1 stk) fun a => z_if (z_isI a.1) (some ([(np, loc, (Nat.add a.1.1 2, a.1.2) :: a.2, V, h, n, sl)], []))
def z_in (i : Int × Int) (lo hi : Int) : Bool := z_and (z_le lo i.1) (z_le i.2 hi)
def h_l2i (np : Nat) : ZH := fun _ loc stk V h n sl => z_bd (z_p1 stk) fun a => z_if (z_isL a.1) (z_bd (z_iv V a.1) fun i => match z_in i z_mn z_mx with
  | true => some ([(np, loc, (Nat.sub a.1.1 2, a.1.2) :: a.2, V, h, n, sl)], [])
  | false => some ([(np, loc, (0, 0, z_mn, z_mx) :: a.2, V, h, n, sl)], []))
def h_cut (lo hi : Int) (np : Nat) : ZH := fun _ loc stk V h n sl => z_bd (z_p1 stk) fun a => z_if (z_isI a.1) (z_bd (z_iv V a.1) fun i => match z_in i lo hi with
  | true => some ([(np, loc, a.1 :: a.2, V, h, n, sl)], [])
  | false => some ([(np, loc, (0, 0, lo, hi) :: a.2, V, h, n, sl)], []))
theorem z_inI {i : Int × Int} {lo hi : Int} (h : z_in i lo hi = true) : lo ≤ i.1 ∧ i.2 ≤ hi := ⟨z_le_iff.mp (z_andI h).1, z_le_iff.mp (z_andI h).2⟩
section L7
variable {ms : List ZM} {own mn : String} {cc : ByteArray} {nL pc np : Nat}
theorem z_lsh {D : va_G} {K : Nat → ClassId} {B b : Nat} {p : Program} {l : Launch} {e : Env} {R : Room} {s : State} {m : MethodId} {args : Array Value} {below : List Frame} {meth : Method} {c : Code} {Q : State → Prop} {ν0 : Nat → Int} {nv0 k0 : Nat} {E : ZE} {loc : List (Nat × AV)} {stk : List AV} {V : VS} {h : T2 AC} {n sl : Nat} {res : List ZS × List ZO} {ν : Nat → Int} {σ : Nat → va_E} {H : Heap} {locs : List Loc} {ls : Array Slot} {vs : List Value} (hr : h_lsh np E loc stk V h n sl = some res) (hS : ∀ st ∈ res.1, z_W D K B b p l e R s m args below meth c Q ν0 nv0 k0 nL st) (P : z_P D K B b s ν0 nv0 k0 nL loc stk V h n ν σ H locs ls vs) : ∃ (x : Int64) (y : Int32) (rest : List Value), vs = .int y :: .long x :: rest ∧ ∀ z : Int64, W p l e R s m args below meth c H locs (n - k0) sl Q (F0 m np ls (.long z :: rest)) := by
  obtain ⟨a, ha, hr⟩ := z_bdI hr
  obtain ⟨d, hd, hr⟩ := z_bdI hr
  obtain ⟨hk, hr⟩ := z_ifI hr
  obtain ⟨hka, hkd⟩ := z_andI hk
  cases hr
  have p7 := P.2.2.2.2.2.2.1
  rw [z_p1I ha, z_p1I hd] at p7
  obtain ⟨vy, r1, rfl, q1, q2⟩ := z_fm_cons p7
  obtain ⟨vx, rest, rfl, q3, q4⟩ := z_fm_cons q2
  obtain ⟨y, rfl, hy⟩ := z_mt_i q1 hka
  obtain ⟨x, rfl, hx⟩ := z_mt_l q3 hkd
  exact ⟨x, y, rest, rfl, fun z => hS _ List.mem_cons_self ν σ H locs ls _ (z_Pk P ⟨z_mkL (z_mnL_le _) (z_mxL_le _), q4⟩)⟩
theorem s_lshl (d : decode cc pc = .ok (.lshl, 1)) (hn : pc + 1 = np) : z_sound ms own mn cc nL pc (h_lsh np) := by
  subst hn
  intro D K B b p l e R s m args below meth c Q ν0 nv0 k0 E X loc stk V h n sl res hr hS hO ν σ H locs ls vs P
  obtain ⟨x, y, rest, rfl, kk⟩ := z_lsh hr hS P
  exact lv_lshl X.1.1 X.1.2.1 d rfl (kk _)
theorem s_lshr (d : decode cc pc = .ok (.lshr, 1)) (hn : pc + 1 = np) : z_sound ms own mn cc nL pc (h_lsh np) := by
  subst hn
  intro D K B b p l e R s m args below meth c Q ν0 nv0 k0 E X loc stk V h n sl res hr hS hO ν σ H locs ls vs P
  obtain ⟨x, y, rest, rfl, kk⟩ := z_lsh hr hS P
  exact lv_lshr X.1.1 X.1.2.1 d rfl (kk _)
theorem s_i2l (d : decode cc pc = .ok (.i2l, 1)) (hn : pc + 1 = np) : z_sound ms own mn cc nL pc (h_i2l np) := by
  subst hn
  intro D K B b p l e R s m args below meth c Q ν0 nv0 k0 E X loc stk V h n sl res hr hS hO ν σ H locs ls vs P
  obtain ⟨a, ha, hr⟩ := z_bdI hr
  obtain ⟨hk, hr⟩ := z_ifI hr
  cases hr
  have p7 := P.2.2.2.2.2.2.1
  rw [show stk = _ from z_p1I ha] at p7
  obtain ⟨vx, rest, rfl, q1, q2⟩ := z_fm_cons p7
  obtain ⟨x, rfl, hx⟩ := z_mt_i q1 hk
  refine lv_i2l X.1.1 X.1.2.1 d rfl (hS _ List.mem_cons_self ν σ H locs ls _ (z_Pk P ⟨Or.inr (Or.inl ⟨?_, x.toInt64, rfl, ?_⟩), q2⟩))
  · have := z_isI_iff.mp hk
    show a.1.1 + 2 = 2 ∨ a.1.1 + 2 = 3
    omega
  · rw [Int32.toInt_toInt64]
    rcases hx with ⟨h1, h2⟩ | ⟨h1, h2⟩
    · exact Or.inl ⟨by show (a.1.1 + 2) % 2 = 0; omega, h2⟩
    · exact Or.inr ⟨by show (a.1.1 + 2) % 2 = 1; omega, h2⟩
theorem s_l2i (d : decode cc pc = .ok (.l2i, 1)) (hn : pc + 1 = np) : z_sound ms own mn cc nL pc (h_l2i np) := by
  subst hn
  intro D K B b p l e R s m args below meth c Q ν0 nv0 k0 E X loc stk V h n sl res hr hS hO ν σ H locs ls vs P
  obtain ⟨a, ha, hr⟩ := z_bdI hr
  obtain ⟨hk, hr⟩ := z_ifI hr
  obtain ⟨i, hi, hr⟩ := z_bdI hr
  have p7 := P.2.2.2.2.2.2.1
  rw [show stk = _ from z_p1I ha] at p7
  obtain ⟨vx, rest, rfl, q1, q2⟩ := z_fm_cons p7
  obtain ⟨x, rfl, hx⟩ := z_mt_l q1 hk
  have hb := z_iv_ok P.2.2.2.1 hx hi
  cases hc : z_in i z_mn z_mx with
  | false =>
    rw [hc] at hr
    cases hr
    exact lv_l2i X.1.1 X.1.2.1 d rfl (hS _ List.mem_cons_self ν σ H locs ls _ (z_Pk P ⟨z_mkI (z_mn_le _) (z_mx_le _), q2⟩))
  | true =>
    rw [hc] at hr
    cases hr
    obtain ⟨c1, c2⟩ := z_inI hc
    refine lv_l2i X.1.1 X.1.2.1 d rfl (hS _ List.mem_cons_self ν σ H locs ls _ (z_Pk P ⟨Or.inl ⟨?_, x.toInt32, rfl, ?_⟩, q2⟩))
    · have := z_isL_iff.mp hk
      show a.1.1 - 2 < 2
      omega
    · have c1 : (-2147483648 : Int) ≤ i.1 := c1
      have c2 : i.2 ≤ (2147483647 : Int) := c2
      rw [Int64.toInt_toInt32, bmod_id (by omega) (by omega)]
      have := z_isL_iff.mp hk
      rcases hx with ⟨h1, h2⟩ | ⟨h1, h2⟩
      · exact Or.inl ⟨by show (a.1.1 - 2) % 2 = 0; omega, h2⟩
      · exact Or.inr ⟨by show (a.1.1 - 2) % 2 = 1; omega, h2⟩
end L7
