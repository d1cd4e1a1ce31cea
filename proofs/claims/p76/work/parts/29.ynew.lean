/-! new cells, lengths, switches -/
section LN
variable {S : List ZT} {ms : List ZM} {own mn : String} {cc : ByteArray} {nL pc np : Nat}
def z_dv (a : AV) : Value := match a.1 with
  | 0 => .int 0
  | 1 => .int 0
  | 2 => .long 0
  | 3 => .long 0
  | _ => .null
def z_nilF (l : FL) : Bool := match l with
  | [] => true
  | _ :: _ => false
theorem z_nilFI {l : FL} (h : z_nilF l = true) : l = [] := by cases l with | nil => rfl | cons => cases h
def z_isd (a : AV) : Bool := match a.1 with
  | 0 => z_and (z_eq0 a.2.2.1) (z_nilF a.2.2.2.2)
  | 1 => z_and (Nat.beq a.2.1 0) (z_and (z_le a.2.2.1 0) (z_le 0 a.2.2.2.1))
  | 2 => z_and (z_eq0 a.2.2.1) (z_nilF a.2.2.2.2)
  | 3 => z_and (Nat.beq a.2.1 0) (z_and (z_le a.2.2.1 0) (z_le 0 a.2.2.2.1))
  | 5 => true
  | _ => false
def z_isds : List AV → Bool
  | [] => true
  | a :: l => z_and (z_isd a) (z_isds l)
theorem z_isdI {ν : Nat → Int} {nv : Nat} {β : ZB} {a : AV} (h : z_isd a = true) : z_mt ν nv β a (z_dv a) := by
  obtain ⟨t, i, lo, hi, fl⟩ := a
  match t, h with
  | 0, h =>
    obtain ⟨h1, h2⟩ := z_andI h
    have k1 : lo = 0 := z_eq0I h1
    have k2 : fl = [] := z_nilFI h2
    clear h h1 h2
    subst k1; subst k2
    exact Or.inl ⟨rfl, f_wf0, 0, rfl, rfl⟩
  | 1, h =>
    obtain ⟨h1, h2⟩ := z_andI h
    obtain ⟨h2, h3⟩ := z_andI h2
    exact Or.inr (Or.inl ⟨rfl, 0, rfl, z_le_iff.mp h2, z_le_iff.mp h3, Or.inl (Nat.eq_of_beq_eq_true h1)⟩)
  | 2, h =>
    obtain ⟨h1, h2⟩ := z_andI h
    have k1 : lo = 0 := z_eq0I h1
    have k2 : fl = [] := z_nilFI h2
    clear h h1 h2
    subst k1; subst k2
    exact Or.inr (Or.inr (Or.inl ⟨rfl, f_wf0, 0, rfl, rfl⟩))
  | 3, h =>
    obtain ⟨h1, h2⟩ := z_andI h
    obtain ⟨h2, h3⟩ := z_andI h2
    exact Or.inr (Or.inr (Or.inr (Or.inl ⟨rfl, 0, rfl, z_le_iff.mp h2, z_le_iff.mp h3, Or.inl (Nat.eq_of_beq_eq_true h1)⟩)))
  | 5, _ => exact Or.inr (Or.inr (Or.inr (Or.inr (Or.inr (Or.inl ⟨rfl, Or.inl rfl⟩)))))
  | 4, h => cases h
  | t + 6, h => cases h
theorem z_isdsI {ν : Nat → Int} {nv : Nat} {β : ZB} {l : List AV} (h : z_isds l = true) : z_fm (z_mt ν nv β) l (l.map z_dv) := by
  induction l with
  | nil => trivial
  | cons a l ih => exact ⟨z_isdI (z_andI h).1, ih (z_andI h).2⟩
theorem z_mkR {ν : Nat → Int} {nv : Nat} {β : ZB} {i : Nat} : z_mt ν nv β (4, i, 0, 0, []) (.ref (β.1 + i)) := Or.inr (Or.inr (Or.inr (Or.inr (Or.inl ⟨rfl, rfl⟩))))
def h_new (ci N : Nat) (ds : List AV) (np : Nat) : ZH := fun E loc stk V h n sl => z_if (z_and (Nat.ble (Nat.succ n) E.2.2.2.1) (Nat.ble (Nat.add sl N) E.2.2.2.2.1)) (z_bd (z_g2 h n) fun _ => some ([(np, loc, (4, n, 0, 0, []) :: stk, V, z_s2 h n (0, ci, ds), Nat.succ n, Nat.add sl N)], []))
theorem s_new {ci N ix : Nat} {C : String} {T : u_T} {ty0 : Nat → FieldType} {ds : List AV} (J : CIn ci C T N ty0) (hcl : Cond.classLink own ix C ∈ bw) (hin : Cond.instantiable C N ∈ bw) (hini : Cond.initialized C ∈ bw) (hd1 : z_isds ds = true) (hd2 : ∀ j, j < N → defaultValue (ty0 j) = vp_V (ds.map z_dv) j) (d : decode cc pc = .ok (.new ix, 3)) (hn : pc + 3 = np) : z_sound S ms own mn cc nL pc (h_new ci N ds np) := by
  subst hn
  intro D K β p l e R s m args below meth c Q σ0 ν0 nv0 k0 E X loc stk V h n sl res hr hS hO ν σ H locs ls vs P
  obtain ⟨hk, hr⟩ := z_ifI hr
  obtain ⟨hk1, hk2⟩ := z_andI hk
  obtain ⟨c0, hc, hr⟩ := z_bdI hr
  cases hr
  obtain ⟨p1, p2, p3, p4, p5, p6, p7, p8⟩ := P
  have hk1 : n + 1 ≤ E.2.2.2.1 := Nat.le_of_ble_eq_true hk1
  have hk2 : sl + N ≤ E.2.2.2.2.1 := Nat.le_of_ble_eq_true hk2
  obtain ⟨x1, x2, x3, x4, x5, x6, x7, x8, x9⟩ := X
  have p3 : k0 ≤ n := p3
  show W p l e R s m args below meth c H locs (n - k0) sl Q (F0 m pc ls vs)
  refine hp_new (k0 := k0) x1 x7 (show k0 + (n - k0) = n by omega) p8 J hcl hin hini (fs := ds.map z_dv) hd2 (by omega) (by omega) d (fun H hH => ?_)
  have := hS _ List.mem_cons_self ν _ H locs ls (.ref (β.1 + n) :: vs) ⟨p1, p2, (by show k0 ≤ n + 1; omega), p4, z_hm_new p5 hc (show (0 : Nat) < 99 by omega) (Or.inl ⟨rfl, _, rfl, z_isdsI hd1⟩), p6, ⟨z_mkR, p7⟩, hH⟩
  exact W.cs (show n - k0 + 1 = n + 1 - k0 by omega) rfl this
def h_newa (kk t np : Nat) : ZH := fun E loc stk V h n sl => z_bd (z_p1 stk) fun a => z_if (z_and (z_isI a.1) (z_and (z_nilF a.1.2.2.2.2) (z_and (z_le 0 a.1.2.2.1) (z_and (z_le a.1.2.2.1 100000) (z_and (Nat.ble (Nat.succ n) E.2.2.2.1) (Nat.ble (Nat.add sl (Int.toNat a.1.2.2.1)) E.2.2.2.2.1)))))) (z_bd (z_g2 h n) fun _ => some ([(np, loc, (4, n, 0, 0, []) :: a.2, V, z_s2 h n (kk, Int.toNat a.1.2.2.1, [(t, 0, 0, 0, [])]), Nat.succ n, Nat.add sl (Int.toNat a.1.2.2.1))], []))
theorem z_newa {kk t : Nat} {D : va_G} {K : Nat → ClassId} {β : ZB} {p : Program} {l : Launch} {e : Env} {R : Room} {s : State} {m : MethodId} {args : Array Value} {below : List Frame} {meth : Method} {c : Code} {Q : State → Prop} {σ0 : Nat → va_E} {ν0 : Nat → Int} {nv0 k0 : Nat} {E : ZE} {loc : List (Nat × AV)} {stk : List AV} {V : VS} {h : T2 AC} {n sl : Nat} {res : List ZS × List ZO} {ν : Nat → Int} {σ : Nat → va_E} {H : Heap} {locs : List Loc} {ls : Array Slot} {vs : List Value} (h9 : kk < 99) (X : z_C S ms D K β p l R s m args meth c own mn cc k0 nL E) (hr : h_newa kk t np E loc stk V h n sl = some res) (hS : ∀ st ∈ res.1, z_W D K β p l e R s m args below meth c Q σ0 ν0 nv0 k0 nL st) (P : z_P D K β s σ0 ν0 nv0 k0 nL loc stk V h n ν σ H locs ls vs) : ∃ (x : Int32) (N : Nat) (rest : List Value), vs = .int x :: rest ∧ ¬ x < 0 ∧ x.toNatClampNeg = N ∧ N ≤ 100000 ∧ n - k0 + 1 ≤ R.cells ∧ sl + N ≤ R.slots ∧ k0 + (n - k0) = n ∧ ∀ (H : Heap) (locs : List Loc) (e' : va_E), z_mc ν (z_len V.1) β K (kk, N, [(t, 0, 0, 0, [])]) e' → hw D β.1 (n + 1) (va_up σ n e') s H locs → W p l e R s m args below meth c H locs (n - k0 + 1) (sl + N) Q (F0 m np ls (.ref (β.1 + n) :: rest)) := by
  obtain ⟨a, ha, hr⟩ := z_bdI hr
  obtain ⟨hk, hr⟩ := z_ifI hr
  obtain ⟨hka, hk⟩ := z_andI hk
  obtain ⟨g1, hk⟩ := z_andI hk
  obtain ⟨g2, hk⟩ := z_andI hk
  obtain ⟨g3, hk⟩ := z_andI hk
  obtain ⟨g4, g5⟩ := z_andI hk
  obtain ⟨c0, hc, hr⟩ := z_bdI hr
  cases hr
  obtain ⟨p1, p2, p3, p4, p5, p6, p7, p8⟩ := P
  rw [show stk = _ from z_p1I ha] at p7
  obtain ⟨vx, rest, rfl, q1, q2⟩ := z_fm_cons p7
  obtain ⟨-, x, rfl, hx⟩ := z_mt_i q1 hka
  have hx : x.toInt = a.1.2.2.1 + f_ev ν a.1.2.2.2.2 := hx
  rw [z_nilFI g1] at hx
  have hx : x.toInt = a.1.2.2.1 + 0 := hx
  have g2 := z_le_iff.mp g2
  have g3 := z_le_iff.mp g3
  have g4 : n + 1 ≤ E.2.2.2.1 := Nat.le_of_ble_eq_true g4
  have g5 : sl + Int.toNat a.1.2.2.1 ≤ E.2.2.2.2.1 := Nat.le_of_ble_eq_true g5
  obtain ⟨x1, x2, x3, x4, x5, x6, x7, x8, x9⟩ := X
  have e : (x.toNatClampNeg : Int) = x.toInt := rg_clamp (a := a.1.2.2.1) (b := a.1.2.2.1) ⟨by omega, by omega⟩ g2
  have eN : x.toNatClampNeg = Int.toNat a.1.2.2.1 := by omega
  refine ⟨x, Int.toNat a.1.2.2.1, rest, rfl, fun h => absurd (i_lt.mp h) (by show ¬ x.toInt < 0; omega), eN, by omega, by omega, by omega, by omega, fun H locs e' he hH => ?_⟩
  have := hS _ List.mem_cons_self ν _ H locs ls (.ref (β.1 + n) :: rest) ⟨p1, p2, (by show k0 ≤ n + 1; omega), p4, z_hm_new p5 hc h9 he, p6, ⟨z_mkR, q2⟩, hH⟩
  exact W.cs (show n - k0 + 1 = n + 1 - k0 by omega) rfl this
theorem s_newI (hac : Cond.arrayClass .int ∈ bw) (d : decode cc pc = .ok (.newarray .int, 2)) (hn : pc + 2 = np) : z_sound S ms own mn cc nL pc (h_newa 1 1 np) := by
  subst hn
  intro D K β p l e R s m args below meth c Q σ0 ν0 nv0 k0 E X loc stk V h n sl res hr hS hO ν σ H locs ls vs P
  obtain ⟨x, N, rest, rfl, h1, h2, h3, h4, h5, h6, kk⟩ := z_newa (by omega) X hr hS P
  exact hp_newa 0 (atype := .int) (k0 := k0) X.1 X.2.2.2.2.2.2.1 h6 P.2.2.2.2.2.2.2 rfl hac rfl (a0 := (N, .inl (fun _ => 0))) (fun _ => rfl) h1 h2 (show N * 4 ≤ 536870912 by omega) h4 h5 d (fun H hH => kk H locs _ (Or.inr (Or.inl ⟨Or.inl rfl, _, rfl, fun j _ => ⟨_, rfl, z_isdI (a := (1, 0, 0, 0, [])) rfl⟩⟩)) hH)
theorem s_newB (hac : Cond.arrayClass .byte ∈ bw) (d : decode cc pc = .ok (.newarray .byte, 2)) (hn : pc + 2 = np) : z_sound S ms own mn cc nL pc (h_newa 2 1 np) := by
  subst hn
  intro D K β p l e R s m args below meth c Q σ0 ν0 nv0 k0 E X loc stk V h n sl res hr hS hO ν σ H locs ls vs P
  obtain ⟨x, N, rest, rfl, h1, h2, h3, h4, h5, h6, kk⟩ := z_newa (by omega) X hr hS P
  exact hp_newa 1 (atype := .byte) (k0 := k0) X.1 X.2.2.2.2.2.2.1 h6 P.2.2.2.2.2.2.2 rfl hac rfl (a0 := (N, .inl (fun _ => 0))) (fun _ => rfl) h1 h2 (show N * 1 ≤ 536870912 by omega) h4 h5 d (fun H hH => kk H locs _ (Or.inr (Or.inl ⟨Or.inr (Or.inl rfl), _, rfl, fun j _ => ⟨_, rfl, z_isdI (a := (1, 0, 0, 0, [])) rfl⟩⟩)) hH)
theorem s_newZ (hac : Cond.arrayClass .boolean ∈ bw) (d : decode cc pc = .ok (.newarray .boolean, 2)) (hn : pc + 2 = np) : z_sound S ms own mn cc nL pc (h_newa 4 1 np) := by
  subst hn
  intro D K β p l e R s m args below meth c Q σ0 ν0 nv0 k0 E X loc stk V h n sl res hr hS hO ν σ H locs ls vs P
  obtain ⟨x, N, rest, rfl, h1, h2, h3, h4, h5, h6, kk⟩ := z_newa (by omega) X hr hS P
  exact hp_newa 3 (atype := .boolean) (k0 := k0) X.1 X.2.2.2.2.2.2.1 h6 P.2.2.2.2.2.2.2 rfl hac rfl (a0 := (N, .inl (fun _ => 0))) (fun _ => rfl) h1 h2 (show N * 1 ≤ 536870912 by omega) h4 h5 d (fun H hH => kk H locs _ (Or.inr (Or.inl ⟨Or.inr (Or.inr rfl), _, rfl, fun j _ => ⟨_, rfl, z_isdI (a := (1, 0, 0, 0, [])) rfl⟩⟩)) hH)
theorem s_newL (hac : Cond.arrayClass .long ∈ bw) (d : decode cc pc = .ok (.newarray .long, 2)) (hn : pc + 2 = np) : z_sound S ms own mn cc nL pc (h_newa 3 3 np) := by
  subst hn
  intro D K β p l e R s m args below meth c Q σ0 ν0 nv0 k0 E X loc stk V h n sl res hr hS hO ν σ H locs ls vs P
  obtain ⟨x, N, rest, rfl, h1, h2, h3, h4, h5, h6, kk⟩ := z_newa (by omega) X hr hS P
  exact hp_newa 2 (atype := .long) (k0 := k0) X.1 X.2.2.2.2.2.2.1 h6 P.2.2.2.2.2.2.2 rfl hac rfl (a0 := (N, .inr (.inl (fun _ => 0)))) (fun _ => rfl) h1 h2 (show N * 8 ≤ 536870912 by omega) h4 h5 d (fun H hH => kk H locs _ (Or.inr (Or.inr (Or.inl ⟨rfl, _, rfl, fun j _ => ⟨_, rfl, z_isdI (a := (3, 0, 0, 0, [])) rfl⟩⟩))) hH)
theorem s_anew {kk ix : Nat} {C : String} (h56 : kk = 5 ∨ kk = 6) (ht : ∀ K : Nat → ClassId, (ty6 K)[kk - 1]? = some (K (kk - 1), .object C)) (hcl : Cond.classLink own ix C ∈ bw) (hao : ∀ (D : va_G) (K : Nat → ClassId) (s : State), KK D K s → va_AO C s) (d : decode cc pc = .ok (.anewarray ix, 3)) (hn : pc + 3 = np) : z_sound S ms own mn cc nL pc (h_newa kk 5 np) := by
  subst hn
  intro D K β p l e R s m args below meth c Q σ0 ν0 nv0 k0 E X loc stk V h n sl res hr hS hO ν σ H locs ls vs P
  obtain ⟨x, N, rest, rfl, h1, h2, h3, h4, h5, h6, kk'⟩ := z_newa (by omega) X hr hS P
  exact hp_newq (kk - 1) (k0 := k0) X.1 X.2.2.2.2.2.2.1 h6 P.2.2.2.2.2.2.2 hcl (hao D K s X.1.2.2.2.2.2) (ht K) h1 h2 (by omega) h4 h5 d (fun H hH => kk' H locs _ (Or.inr (Or.inr (Or.inr (Or.inl ⟨h56, _, rfl, fun j _ => ⟨_, rfl, z_isdI (a := (5, 0, 0, 0, [])) rfl⟩⟩)))) hH)
/-- lengths -/
def h_alen (np : Nat) : ZH := fun _ loc stk V h n sl => z_bd (z_p1 stk) fun a => z_if (Nat.beq a.1.1 4) (z_bd (z_g2 h a.1.2.1) fun c => z_if (z_and (z_and (Nat.ble 1 (Nat.mod c.1 100)) (Nat.ble (Nat.mod c.1 100) 4)) (Nat.ble c.2.1 100000)) (some ([(np, loc, (0, 0, Int.ofNat c.2.1, 0, []) :: a.2, V, h, n, sl)], [])))
theorem z_ofN {N : Nat} (h : N ≤ 100000) : (Int32.ofNat N).toInt = (N : Int) := by
  rw [Int32.toInt_ofNat_of_lt (by omega)]
theorem s_alen (d : decode cc pc = .ok (.arraylength, 1)) (hn : pc + 1 = np) : z_sound S ms own mn cc nL pc (h_alen np) := by
  subst hn
  intro D K β p l e R s m args below meth c Q σ0 ν0 nv0 k0 E X loc stk V h n sl res hr hS hO ν σ H locs ls vs P
  obtain ⟨a, ha, hr⟩ := z_bdI hr
  obtain ⟨hka, hr⟩ := z_ifI hr
  obtain ⟨cl, hc, hr⟩ := z_bdI hr
  obtain ⟨hk, hr⟩ := z_ifI hr
  obtain ⟨hk1, hk2⟩ := z_andI hk
  obtain ⟨hk1, hk3⟩ := z_andI hk1
  cases hr
  have p7 := P.2.2.2.2.2.2.1
  rw [show stk = _ from z_p1I ha] at p7
  obtain ⟨vx, rest, rfl, q1, q2⟩ := z_fm_cons p7
  obtain rfl := z_mt_r q1 hka
  have hk1 : 1 ≤ cl.1 % 100 := Nat.le_of_ble_eq_true hk1
  have hk3 : cl.1 % 100 ≤ 4 := Nat.le_of_ble_eq_true hk3
  have hN := z_ofN (Nat.le_of_ble_eq_true hk2)
  have kk := hS _ List.mem_cons_self ν σ H locs ls (.int (Int32.ofNat cl.2.1) :: rest) (z_Pk P ⟨z_mkI (f := (Int.ofNat cl.2.1, [])) f_wf0 (by rw [hN]; show (cl.2.1 : Int) = (cl.2.1 : Int) + 0; omega), q2⟩)
  by_cases h3 : cl.1 % 100 = 3
  · obtain ⟨hi, f, hf, -⟩ := z_arL P.2.2.2.2.1 hc h3
    exact hp_alen 2 X.1 P.2.2.2.2.2.2.2 _ hi hf rfl rfl d kk
  · obtain ⟨hi, f, hf, -⟩ := z_arI P.2.2.2.2.1 hc (by omega)
    rcases (show cl.1 % 100 = 1 ∨ cl.1 % 100 = 2 ∨ cl.1 % 100 = 4 by omega) with h | h | h
    · rw [h] at hf
      exact hp_alen 0 X.1 P.2.2.2.2.2.2.2 _ hi hf rfl rfl d kk
    · rw [h] at hf
      exact hp_alen 1 X.1 P.2.2.2.2.2.2.2 _ hi hf rfl rfl d kk
    · rw [h] at hf
      exact hp_alen 3 X.1 P.2.2.2.2.2.2.2 _ hi hf rfl rfl d kk
/-- switches by a table -/
def z_tabs (V : VS) (a : FM) (loc : List (Nat × AV)) (stk : List AV) (h : T2 AC) (n sl : Nat) : Int → List Nat → List ZS → List ZS
  | _, [], r => r
  | k, t :: ts, r => match z_eq V a (k, []) with
    | some V' => (t, loc, stk, V', h, n, sl) :: z_tabs V a loc stk h n sl (Int.add k 1) ts r
    | none => z_tabs V a loc stk h n sl (Int.add k 1) ts r
def z_o1 (o : Option VS) (pc : Nat) (loc : List (Nat × AV)) (stk : List AV) (h : T2 AC) (n sl : Nat) (r : List ZS) : List ZS := match o with
  | some V => (pc, loc, stk, V, h, n, sl) :: r
  | none => r
def h_tab (lo hi : Int) (ts : List Nat) (df : Nat) : ZH := fun _ loc stk V h n sl => z_bd (z_p1 stk) fun a => z_if (z_isI a.1) (some (z_o1 (z_lt V (z_fm2 a.1) (lo, [])) df loc a.2 h n sl (z_o1 (z_lt V (hi, []) (z_fm2 a.1)) df loc a.2 h n sl (z_tabs V (z_fm2 a.1) loc a.2 h n sl lo ts [])), []))
theorem z_tabs_in {V V' : VS} {a : FM} {loc : List (Nat × AV)} {stk : List AV} {h : T2 AC} {n sl t j : Nat} {lo : Int} {ts : List Nat} {r : List ZS} (ht : z_nth ts j = some t) (hV : z_eq V a (lo + j, []) = some V') : (t, loc, stk, V', h, n, sl) ∈ z_tabs V a loc stk h n sl lo ts r := by
  induction ts generalizing lo j with
  | nil => cases ht
  | cons u ts ih =>
    unfold z_tabs
    cases j with
    | zero =>
      cases ht
      rw [show lo + ((0 : Nat) : Int) = lo by omega] at hV
      rw [hV]
      exact List.mem_cons_self
    | succ j =>
      have := ih (lo := Int.add lo 1) ht (by rw [show Int.add lo 1 + (j : Int) = lo + ((j + 1 : Nat) : Int) by show lo + 1 + (j : Int) = _; omega]; exact hV)
      cases z_eq V a (lo, []) with
      | none => exact this
      | some W => exact List.mem_cons_of_mem _ this
theorem z_o1_in {o : Option VS} {pc : Nat} {loc : List (Nat × AV)} {stk : List AV} {h : T2 AC} {n sl : Nat} {r : List ZS} {st : ZS} (q : st ∈ r) : st ∈ z_o1 o pc loc stk h n sl r := by
  cases o with
  | none => exact q
  | some V => exact List.mem_cons_of_mem _ q
def z_tgt (pc : Nat) : List Int → List Nat → Bool
  | [], [] => true
  | o :: os, t :: ts => z_and (decide ((pc : Int) + o = (t : Int))) (z_tgt pc os ts)
  | _, _ => false
theorem z_tgtI {pc : Nat} {os : List Int} {ts : List Nat} (h : z_tgt pc os ts = true) {j : Nat} (hj : j < ts.length) : ∃ (o : Int) (t : Nat), os[j]? = some o ∧ z_nth ts j = some t ∧ (pc : Int) + o = (t : Int) := by
  induction os generalizing ts j with
  | nil => cases ts with
    | nil => simp at hj
    | cons => cases h
  | cons o os ih => cases ts with
    | nil => cases h
    | cons t ts =>
      obtain ⟨h1, h2⟩ := z_andI h
      cases j with
      | zero => exact ⟨o, t, rfl, rfl, of_decide_eq_true h1⟩
      | succ j =>
        obtain ⟨o', t', e1, e2, e3⟩ := ih h2 (j := j) (by simpa using hj)
        exact ⟨o', t', by simpa using e1, e2, e3⟩
theorem s_tab {len df : Nat} {dfo lo hi : Int} {offs : Array Int} {ts : List Nat} (d : decode cc pc = .ok (.tableswitch dfo lo hi offs, len)) (hd : (pc : Int) + dfo = (df : Int)) (ht : z_tgt pc offs.toList ts = true) (hl : lo + (ts.length : Int) = hi + 1) : z_sound S ms own mn cc nL pc (h_tab lo hi ts df) := by
  intro D K β p l e R s m args below meth c Q σ0 ν0 nv0 k0 E X loc stk V h n sl res hr hS hO ν σ H locs ls vs P
  obtain ⟨a, ha, hr⟩ := z_bdI hr
  obtain ⟨hk, hr⟩ := z_ifI hr
  cases hr
  have p7 := P.2.2.2.2.2.2.1
  rw [show stk = _ from z_p1I ha] at p7
  obtain ⟨vx, rest, rfl, q1, q2⟩ := z_fm_cons p7
  obtain ⟨wx, x, rfl, hx⟩ := z_mt_i q1 hk
  have ev : ∀ k : Int, f_evm ν ((k, []) : FM) = k := fun k => by show k + 0 = k; omega
  by_cases c1 : x.toInt < lo
  · obtain ⟨V', e1, e2, e3⟩ := z_lt_ok (x := z_fm2 a.1) (y := (lo, [])) P.2.2.2.1 wx f_wf0 (by rw [← hx, ev]; exact c1)
    refine lv_tableOut X.1.1 X.1.2.1 d (Or.inl c1) hd (hS (df, loc, a.2, V', h, n, sl) ?_ ν σ H locs ls rest (z_Pb (z_Pk P q2) e2 e3))
    show _ ∈ z_o1 _ _ _ _ _ _ _ _
    rw [e1]
    exact List.mem_cons_self
  · by_cases c2 : hi < x.toInt
    · obtain ⟨V', e1, e2, e3⟩ := z_lt_ok (x := (hi, [])) (y := z_fm2 a.1) P.2.2.2.1 f_wf0 wx (by rw [← hx, ev]; exact c2)
      refine lv_tableOut X.1.1 X.1.2.1 d (Or.inr c2) hd (hS (df, loc, a.2, V', h, n, sl) ?_ ν σ H locs ls rest (z_Pb (z_Pk P q2) e2 e3))
      refine z_o1_in ?_
      rw [e1]
      exact List.mem_cons_self
    · have hj : (x.toInt - lo).toNat < ts.length := by omega
      obtain ⟨o, t, o1, o2, o3⟩ := z_tgtI ht hj
      obtain ⟨V', e1, e2, e3⟩ := z_eq_ok (x := z_fm2 a.1) (y := (x.toInt, [])) P.2.2.2.1 wx f_wf0 (by rw [← hx, ev])
      refine lv_tableIn X.1.1 X.1.2.1 d c1 c2 (off := o) (by simpa using o1) o3 (hS (t, loc, a.2, V', h, n, sl) (z_o1_in (z_o1_in (z_tabs_in o2 ?_))) ν σ H locs ls rest (z_Pb (z_Pk P q2) e2 e3))
      rw [show lo + ((x.toInt - lo).toNat : Int) = x.toInt by omega]
      exact e1
end LN
