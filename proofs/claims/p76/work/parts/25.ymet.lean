/-! methods: what a run from the entry, with its cut points, brings to a call -/
/-- what an int that is returned must lie in: 0 any, 1 boolean, 2 char, 3 byte -/
def z_bob (bo : Nat) : Int × Int := match bo with
  | 0 => (z_mn, z_mx)
  | 1 => (0, 1)
  | 2 => (0, 65535)
  | _ => (-128, 127)
abbrev ZP : Type := T2 ZH × Nat × Nat × Nat × Nat × Nat
def z_rt (rk bo : Nat) (ret : Option FieldType) : Prop := (rk = 0 ∧ ret = none) ∨ (rk = 1 ∧ ∃ fi, ret = some fi ∧ ∀ x : Int32, (z_bob bo).1 ≤ x.toInt → x.toInt ≤ (z_bob bo).2 → narrow fi (.int x) = .int x) ∨ (rk = 2 ∧ ret = some .long)
def z_good (S : List ZT) (ms : List ZM) (q : Nat) (M : ZP) : Prop := ∃ (y : MethodName) (bytes : ByteArray) (ret : Option FieldType), z_nth ms q = some (y, bytes, M.2.1, ret, M.2.2.1, M.2.2.2.2.1, M.2.2.2.2.2) ∧ plainFor y = true ∧ z_rt M.2.2.1 M.2.2.2.1 ret ∧ z_tok2 S ms y.cls y.name bytes M.2.1 0 M.1
/-- a return as it should be -/
def z_okb (bo : Nat) (n' ms rk : Nat) (o : ZO) : Bool := z_and (z_and (Nat.beq o.2.2.2.2.1 n') (z_and (Nat.ble o.2.2.2.2.2.1 ms) (z_and (Nat.beq o.1 rk) (match rk with
    | 0 => true
    | 1 => z_isI o.2.1
    | _ => z_isL o.2.1)))) (match bo with
    | 0 => true
    | _ => z_inR o.2.2.1 (z_fm2 o.2.1) (z_bob bo).1 (z_bob bo).2)
theorem z_okbI {bo : Nat} {n' ms rk : Nat} {o : ZO} (h : z_okb bo n' ms rk o = true) : o.2.2.2.2.1 = n' ∧ o.2.2.2.2.2.1 ≤ ms ∧ o.1 = rk ∧ (rk = 1 → z_isI o.2.1 = true) ∧ (rk = 2 → z_isL o.2.1 = true) ∧ (bo ≠ 0 → z_inR o.2.2.1 (z_fm2 o.2.1) (z_bob bo).1 (z_bob bo).2 = true) := by
  obtain ⟨h1, h2⟩ := z_andI h
  obtain ⟨g1, g2⟩ := z_andI h1
  obtain ⟨g2, g3⟩ := z_andI g2
  obtain ⟨g3, g4⟩ := z_andI g3
  refine ⟨Nat.eq_of_beq_eq_true g1, Nat.le_of_ble_eq_true g2, Nat.eq_of_beq_eq_true g3, fun e => by subst e; exact g4, fun e => by subst e; exact g4, fun hb => ?_⟩
  cases bo with
  | zero => exact absurd rfl hb
  | succ k => exact h2
theorem nar_b {x : Int32} (h1 : 0 ≤ x.toInt) (h2 : x.toInt ≤ 1) : narrow .boolean (.int x) = .int x := by
  rcases (show x.toInt = 0 ∨ x.toInt = 1 by omega) with g | g
  · have : x = 0 := Int32.toInt_inj.mp g
    subst this; rfl
  · have : x = 1 := Int32.toInt_inj.mp g
    subst this; rfl
theorem z_i2c (x : Int32) : (0 : Int) ≤ (x.toUInt32 % 65536).toInt32.toInt ∧ (x.toUInt32 % 65536).toInt32.toInt ≤ 65535 ∧ ((0 : Int) ≤ x.toInt → x.toInt ≤ 65535 → (x.toUInt32 % 65536).toInt32.toInt = x.toInt) := by
  have e : (x.toUInt32 % 65536).toInt32.toInt = ((x.toUInt32.toNat % 65536 : Nat) : Int) := by
    have hm : (x.toUInt32 % 65536).toNat = x.toUInt32.toNat % 65536 := by rw [UInt32.toNat_mod]; rfl
    rw [← hm]
    have hlt : (x.toUInt32 % 65536).toNat < 65536 := by rw [hm]; exact Nat.mod_lt _ (by omega)
    generalize x.toUInt32 % 65536 = u at hlt
    rw [← Int32.toInt_toBitVec]
    show u.toBitVec.toInt = _
    rw [BitVec.toInt_eq_toNat_of_lt (by show 2 * u.toNat < 2 ^ 32; omega)]
    rfl
  rw [e]
  refine ⟨Int.natCast_nonneg _, by have := Nat.mod_lt x.toUInt32.toNat (show 65536 > 0 by omega); omega, fun h1 h2 => ?_⟩
  have hx : ((x.toUInt32.toNat : Nat) : Int) = x.toInt := by
    rw [← Int32.toInt_toBitVec] at h1 h2 ⊢
    show ((x.toBitVec.toNat : Nat) : Int) = _
    rw [BitVec.toInt_eq_toNat_cond] at h1 h2 ⊢
    have := x.toBitVec.isLt
    split at h1
    · rename_i g; rw [if_pos g]
    · omega
  have : x.toUInt32.toNat < 65536 := by omega
  rw [Nat.mod_eq_of_lt this]
  exact hx
theorem nar_i {x : Int32} : narrow .int (.int x) = .int x := rfl
theorem nar_c {x : Int32} (h1 : 0 ≤ x.toInt) (h2 : x.toInt ≤ 65535) : narrow .char (.int x) = .int x := by
  show Value.int ((x.toUInt32 % 65536).toInt32) = .int x
  exact congrArg Value.int (Int32.toInt_inj.mp ((z_i2c x).2.2 h1 h2))
theorem nar_y {x : Int32} (h1 : -128 ≤ x.toInt) (h2 : x.toInt ≤ 127) : narrow .byte (.int x) = .int x := by
  show Value.int x.toInt8.toInt32 = .int x
  exact congrArg Value.int (Int32.toInt_inj.mp ((z_i8 x).2.2 h1 h2))
section MT
variable {S : List ZT} {ms : List ZM} {l : Launch} {D : va_G} {K : Nat → ClassId} {β : ZB} {call : ZCall} {q : Nat} {M : ZP} {args : List AV} {V : VS} {h : T2 AC} {n f0 lo0 k k' b nc L : Nat} {os posts : List ZO} {cuts : List ZCut} {okr : ZO → Bool} {good : ZO → Prop}
theorem z_met_ok (hcall : ∀ (q : Nat) (a : List AV) (V : VS) (h : T2 AC) (n f lo : Nat) (outs : List ZO), call q a V h n f lo = some outs → z_M S ms l D K β q a V h n f lo outs) (hM : z_good S ms q M) (hlen : Nat.ble (z_cat args) M.2.1 = true)
    (hit : z_iter M.1 (call, f0, lo0, Nat.add n M.2.2.2.2.1, M.2.2.2.2.2, false) k ([(0, z_arg 0 args, [], V, h, n, 0)], []) = some ([], os))
    (hos : ∀ o ∈ os, (10 ≤ o.1 ∧ z_okC (z_len V.1) nc 0 none o cuts = true) ∨ (o.1 < 10 ∧ good o))
    (hh : ∀ (j : Nat) (C : ZCut), z_nth cuts j = some C → ∀ (y : MethodName) (bytes : ByteArray) (ret : Option FieldType), z_nth ms q = some (y, bytes, M.2.1, ret, M.2.2.1, M.2.2.2.2.1, M.2.2.2.2.2) → z_sound S ms y.cls y.name bytes M.2.1 C.1 C.2.2.2)
    (hk : ∀ (j : Nat) (C : ZCut), z_nth cuts j = some C → z_chkC M.1 (call, f0, lo0, Nat.add n M.2.2.2.2.1, M.2.2.2.2.2, false) cuts (z_len V.1) b nc 0 k' L okr C = true)
    (hg : ∀ o, o.1 < 10 → okr o = true → good o)
    (hr : ∀ o, o.1 < 10 → good o → z_okb M.2.2.2.1 (n + M.2.2.2.2.1) M.2.2.2.2.2 M.2.2.1 o = true ∧ ∀ (σ0 : Nat → va_E) (ν ν' : Nat → Int) (u : Nat → va_E) (v : Value), (∀ i, i < z_len V.1 → ν' i = ν i) → z_len V.1 ≤ z_len o.2.2.1.1 → z_sat ν' o.2.2.1 → z_hm ν' (z_len o.2.2.1.1) β K σ0 o.2.2.2.1 (n + M.2.2.2.2.1) u → (M.2.2.1 ≠ 0 → z_mt ν' (z_len o.2.2.1.1) β o.2.1 v) → z_post K β σ0 posts ν (z_len V.1) (n + M.2.2.2.2.1) M.2.2.1 v u) :
    ∀ f lo, f0 ≤ f → lo0 ≤ lo → z_M S ms l D K β q args V h n f lo posts := by
  intro f lo hf hlo
  obtain ⟨y, bytes, ret, g1, g2, g3, g4⟩ := hM
  refine ⟨_, g1, fun ν σ σ0 av hs hhm ha => ?_⟩
  simp only
  refine va_MetF (cc := bytes) (maxL := M.2.1) (ret := ret) g2 rfl ?_
  intro p e s m as below meth c s₁ X hml hv
  obtain ⟨rfl, hz, hPh, hkk, hx⟩ := hv
  have hZ : z_C S ms D K β p l (rmOf f lo M.2.2.2.2.1 M.2.2.2.2.2) s m av.toArray meth c y.cls y.name bytes n M.2.1 (call, f0, lo0, Nat.add n M.2.2.2.2.1, M.2.2.2.2.2, false) :=
    ⟨cx_of X hml hkk, (name_of_methodNamed X.named X.method).1, hf, hlo, Nat.le_refl _, Nat.le_refl _, hz, hx, hcall⟩
  rw [lg_entry_eq]
  have hend : ∀ o, o.1 < 10 → good o → ∀ (ν1 : Nat → Int) (nv1 : Nat), (∀ i, i < z_len V.1 → ν1 i = ν i) → z_len V.1 ≤ nv1 → z_T D K β p l e (rmOf f lo M.2.2.2.2.1 M.2.2.2.2.2) s m av.toArray below meth c bytes (MQ below (z_Q D K β σ0 posts ν (z_len V.1) (n + M.2.2.2.2.1) M.2.2.1) av.toArray s M.2.2.2.2.1 M.2.2.2.2.2 (fr β.1)) σ0 ν1 nv1 n M.2.1 o := by
    intro o ho hgo ν1 nv1 hag hnv
    unfold z_T
    rw [if_pos ho]
    intro ν' σ' H locs ls v pc hP' hv' hd
    obtain ⟨hb, hpo⟩ := hr o ho hgo
    obtain ⟨e1, e2, e3, e5, e6, e4⟩ := z_okbI hb
    obtain ⟨p1, p2, p3, p4, p5, p6, p7, p8⟩ := hP'
    have hcells : o.2.2.2.2.1 - n ≤ M.2.2.2.2.1 := by rw [e1]; omega
    refine W.widen hcells e2 ?_
    have hpost : ∀ w : Value, (M.2.2.1 ≠ 0 → z_mt ν' (z_len o.2.2.1.1) β o.2.1 w) → z_post K β σ0 posts ν (z_len V.1) (n + M.2.2.2.2.1) M.2.2.1 w σ' := fun w hw' => hpo σ0 ν ν' σ' w (fun i hi => (p1 i (by omega)).trans (hag i hi)) (by omega) p4 (by rw [← e1]; exact p5) hw'
    have hH : hw D β.1 (n + M.2.2.2.2.1) σ' s H locs := by rw [← e1]; exact p8
    have hret : meth.sig.returnType = ret := X.returns
    rw [e3] at hd hv' ⊢
    rcases g3 with ⟨r1, r2⟩ | ⟨r1, fi, r3, r4⟩ | ⟨r1, r2⟩
    · rw [r1] at hd hpost ⊢
      exact hp_vret hZ.1 (by rw [hret, r2]) X.notSynchronized hH (hpost .null (fun g => absurd rfl g)) hd
    · rw [r1] at hd hv' hpost ⊢
      have hv' := hv' (by decide)
      obtain ⟨-, x, rfl, hx⟩ := z_mt_i hv' (e5 r1)
      have hb : (z_bob M.2.2.2.1).1 ≤ x.toInt ∧ x.toInt ≤ (z_bob M.2.2.2.1).2 := by
        cases hbo : M.2.2.2.1 with
        | zero => exact ⟨z_mn_le x, z_mx_le x⟩
        | succ k =>
          have := z_inRI p4 (e4 (by omega))
          rw [← hx, hbo] at this
          exact this
      exact hp_iret hZ.1 (by rw [hret, r3]) X.notSynchronized (r4 x hb.1 hb.2) hH (hpost (.int x) (fun _ => hv')) hd
    · rw [r1] at hd hv' hpost ⊢
      have hv' := hv' (by decide)
      obtain ⟨-, x, rfl, -⟩ := z_mt_l hv' (e6 r1)
      exact hp_lret hZ.1 (by rw [hret, r2]) X.notSynchronized hH (hpost (.long x) (fun _ => hv')) hd
  have hcut := z_cuts_ok (e := e) (below := below) (Q := MQ below (z_Q D K β σ0 posts ν (z_len V.1) (n + M.2.2.2.2.1) M.2.2.1) av.toArray s M.2.2.2.2.1 M.2.2.2.2.2 (fr β.1)) (σ0 := σ0) (νe := ν) (me := z_len V.1) (n := nc) (sc := 0) (b := b) (L := L) (k := k') (okr := okr) (cuts := cuts) hZ g4 (fun j C hj => hh j C hj y bytes ret g1) hk (fun o ho hok ν1 nv1 a1 a2 => hend o ho (hg o ho hok) ν1 nv1 a1 a2)
  have hrun := (z_iter_ok (e := e) (below := below) (Q := MQ below (z_Q D K β σ0 posts ν (z_len V.1) (n + M.2.2.2.2.1) M.2.2.1) av.toArray s M.2.2.2.2.1 M.2.2.2.2.2 (fr β.1)) (σ0 := σ0) (ν0 := ν) (nv0 := z_len V.1) hZ g4 hit).2 ?_ (fun st h => by cases h) _ List.mem_cons_self ν σ s.heap [] _ [] ⟨fun _ _ => rfl, Nat.le_refl _, Nat.le_refl _, hs, hhm, ⟨_, lv_entry av (by rw [z_sl_len ha]; exact Nat.le_of_ble_eq_true hlen), z_arg_ok ha⟩, trivial, ⟨hPh, va_S.rf⟩⟩
  · exact W.cs (show 0 = n - n by omega) rfl hrun
  · intro o ho
    rcases hos o ho with ⟨c1, c2⟩ | ⟨c1, c2⟩
    · obtain ⟨j', C', θ, d1, d2, d3, d4, d5, d6, -⟩ := z_okC_ok c2
      unfold z_T
      rw [if_neg (by omega)]
      intro ν' σ' H' locs' ls' vs' P'
      have P' : z_P D K β s σ0 ν (z_len V.1) n M.2.1 o.2.2.2.2.2.2.1 [] o.2.2.1 o.2.2.2.1 o.2.2.2.2.1 ν' σ' H' locs' ls' vs' := P'
      show W p l e (rmOf f lo M.2.2.2.2.1 M.2.2.2.2.2) s m av.toArray below meth c H' locs' (o.2.2.2.2.1 - n) o.2.2.2.2.2.1 _ (F0 m o.2.2.2.2.2.2.2 ls' vs')
      obtain ⟨rfl, P2⟩ := z_incl_ok d6 P'
      rw [d3] at P2
      rw [d2, d3, d4]
      exact hcut _ _ C' d1 (z_nu ν' θ) σ' H' locs' ls' (fun i hi => by rw [z_isidI d5 i hi]; exact P'.1 i hi) P2 (Nat.lt_succ_self _)
    · exact hend o c1 c2 ν (z_len V.1) (fun _ _ => rfl) (Nat.le_refl _)
end MT
