/-! copies of long rows; the script -/
theorem z_mt_sc {ν : Nat → Int} {nv : Nat} {β : ZB} {a : AV} {v : Value} (q : z_mt ν nv β a v) (h : Nat.beq a.1 7 = true) : v = .ref β.2.1 ∧ f_wf nv a.2.2.2.2 ∧ f_evm ν (z_fm2 a) = ((β.2.2.1 999 : Nat) : Int) ∧ (a.2.1 = 0 ∨ z_scm ν nv β a.2.1 a.2.2.2.1.toNat) := by
  have h := Nat.eq_of_beq_eq_true h
  rcases q with ⟨h1, _⟩ | ⟨h1, _⟩ | ⟨h1, _⟩ | ⟨h1, _⟩ | ⟨h1, _⟩ | ⟨h1, _⟩ | ⟨h1, _⟩ | ⟨_, q⟩ | ⟨h1, _⟩ | ⟨h1, _⟩
  case inr.inr.inr.inr.inr.inr.inr.inl => exact q
  all_goals omega
def h_slen (np : Nat) : ZH := fun _ loc stk V h n sl => z_bd (z_p1 stk) fun a => z_if (z_and (Nat.beq a.1.1 7) (z_inR V (z_fm2 a.1) 0 100000)) (some ([(np, loc, (0, 0, a.1.2.2.1, 0, a.1.2.2.2.2) :: a.2, V, h, n, sl)], []))
def z_snm (x : Nat) (d : Int) (i : FM) : Option Nat := match x with
  | 0 => none
  | _ + 1 => match i.1 with
    | .ofNat k => match Nat.ble 6 k with
      | true => none
      | false => match i.2 with
        | [q] => match z_and (z_eq0 (Int.add q.1 (-1))) (z_and (Nat.beq q.2 d.toNat) (z_le 0 d)) with
          | true => some (Nat.add x k)
          | false => none
        | _ => none
    | .negSucc _ => none
def h_sld (np : Nat) : ZH := fun _ loc stk V h n sl => z_bd (z_p1 stk) fun i => z_bd (z_p1 i.2) fun a => z_if (z_and (z_isI i.1) (z_and (Nat.beq a.1.1 7) (z_and (f_ge V (z_fm2 i.1) 0) (f_le V (f_sub (z_fm2 i.1) (z_fm2 a.1)) (-1))))) (match z_snm a.1.2.1 a.1.2.2.2.1 (z_fm2 i.1) with
  | some y => some ([(np, loc, (0, 0, 0, 0, [(1, y)]) :: a.2, V, h, n, sl)], [])
  | none => z_push 0 np loc a.2 (z_fr 0 V (z_mn, z_mx)) h n sl)
theorem z_snm_ok {ν : Nat → Int} {nv : Nat} {β : ZB} {x y : Nat} {d : Int} {i : FM} (h : z_snm x d i = some y) (q : x = 0 ∨ z_scm ν nv β x d.toNat) (hi : 0 ≤ f_evm ν i) : y < nv ∧ ν y = z_scv β (f_evm ν i).toNat := by
  obtain ⟨c, l⟩ := i
  unfold z_snm at h
  split at h
  · cases h
  · rename_i x' 
    split at h
    · rename_i k hk
      split at h
      · cases h
      · rename_i hb
        split at h
        · rename_i q1 hl
          split at h
          · rename_i hc
            cases h
            obtain ⟨c1, c2⟩ := z_andI hc
            obtain ⟨c2, c3⟩ := z_andI c2
            have c1 := z_eq0I c1
            have c1 : q1.1 + -1 = 0 := c1
            have c2 := Nat.eq_of_beq_eq_true c2
            obtain ⟨m1, hd, m2, m3⟩ := q.resolve_left (by omega)
            have hk6 : k < 6 := by
              rcases Nat.lt_or_ge k 6 with g | g
              · exact g
              · rw [Nat.ble_eq_true_of_le g] at hb; cases hb
            simp only at hk hl
            subst hk hl
            have ev : f_evm ν ((Int.ofNat k : Int), [q1]) = (k : Int) + ν d.toNat := by
              show (k : Int) + (q1.1 * ν q1.2 + 0) = _
              rw [c2, show q1.1 = 1 by omega]; omega
            rw [ev]
            refine ⟨by show x' + 1 + k < nv; omega, ?_⟩
            rw [show ((k : Int) + ν d.toNat).toNat = (ν d.toNat).toNat + k by omega]
            exact m3 k hk6
          · cases h
        · cases h
    · cases h
def z_anyL : AV := (3, 0, z_mnL, z_mxL, [])
def h_copyL (np : Nat) : ZH := fun E loc stk V h n sl => z_bd (z_p1 stk) fun ln => z_bd (z_p1 ln.2) fun dp => z_bd (z_p1 dp.2) fun dr => z_bd (z_p1 dr.2) fun sp => z_bd (z_p1 sp.2) fun sr => z_if (z_and (z_and (z_isI ln.1) (z_and (z_isI dp.1) (z_isI sp.1))) (z_and (z_and (Nat.beq dr.1.1 4) (Nat.beq sr.1.1 4)) (z_and (Nat.ble 1 E.2.1) (Nat.ble (Nat.add (z_cat sr.2) 60) E.2.2.1)))) (z_bd (z_g2 h sr.1.2.1) fun cs => z_bd (z_g2 h dr.1.2.1) fun cd => z_if (z_and (z_and (Nat.beq (Nat.mod cs.1 100) 3) (Nat.beq cd.1 3)) (z_and (z_fits V (z_fm2 sp.1) (z_fm2 ln.1) cs.2.1) (z_fits V (z_fm2 dp.1) (z_fm2 ln.1) cd.2.1))) (some ([(np, loc, sr.2, V, z_s2 h dr.1.2.1 (3, cd.2.1, [z_anyL]), n, sl)], [])))
section HY
variable {p : Program} {l : Launch} {e : Env} {R : Room} {s : State} {m : MethodId} {args : Array Value} {below : List Frame} {meth : Method} {c : Code} {H : Heap} {locs : List Loc} {cells slots : Nat} {Q : State → Prop} {cc : ByteArray} {pc : Nat} {ls : Array Slot} {rest : List Value} {D : va_G} {K : Nat → ClassId} {B n : Nat} {σ : Nat → va_E} {own : String} {nL : Nat}
theorem hp_copyL (X : CX p s m args c cc nL own D K) (hls : ls.size = nL) (hH : hw D B n σ s H locs) {index : Nat} (hl : Cond.methodLink own index arraycopyName ∈ bw) (hnat : Cond.native arraycopyName ∈ bw) (hst : Cond.static arraycopyName ∈ bw) (hini : Cond.initialized "java/lang/System" ∈ bw) (i j : Nat) (hi : i < n) (hj : j < n) {z0 z1 : Nat} {f g : Nat → Int64} (he : σ i = .inl (K 2, z0, .inr (.inl f))) (hg : σ j = .inl (K 2, z1, .inr (.inl g)))
    {sp dp len : Int32} (h1 : ¬ sp < 0) (h2 : ¬ dp < 0) (h3 : ¬ len < 0) (h4 : sp.toNatClampNeg + len.toNatClampNeg ≤ z0) (h5 : dp.toNatClampNeg + len.toNatClampNeg ≤ z1) (hfr : 1 ≤ R.frames) (hlo : (rest.map fun v => v.category).sum + (nativeFrameWords "java/lang/System" "arraycopy" 5 + 11) ≤ R.locals) (hd : decode cc pc = .ok (.invokestatic index, 3))
    (kk : ∀ (H : Heap) (locs : List Loc), hw D B n (va_up σ j (.inl (K 2, z1, .inr (.inl (va_cpy f g sp.toNatClampNeg dp.toNatClampNeg len.toNatClampNeg))))) s H locs → W p l e R s m args below meth c H locs cells slots Q (F0 m (pc + 3) ls rest)) : W p l e R s m args below meth c H locs cells slots Q (F0 m pc ls (.int len :: .int dp :: .ref (B + j) :: .int sp :: .ref (B + i) :: rest)) :=
  va_copyl X.1 X.2.1 (by rw [X.2.2.1, hls]) X.2.2.2.1 (X.w hl) (X.w hnat) (X.w hst) (X.w hini) X.vk hH.1 wl_D hH.2 i j 2 2 (ty := .long) (wl_get hi he) (wl_get hj hg) rfl rfl rfl h1 h2 h3 h4 h5 (fun _ _ => rfl) hfr hlo hd (fun H1 locs1 hP _ hS => kk H1 locs1 ⟨by rw [wl_set hj] at hP; exact hP, hS⟩)
end HY
section SC
variable {S : List ZT} {ms : List ZM} {own mn : String} {cc : ByteArray} {nL pc np : Nat}
theorem s_slen (d : decode cc pc = .ok (.arraylength, 1)) (hn : pc + 1 = np) : z_sound S ms own mn cc nL pc (h_slen np) := by
  subst hn
  intro D K β p l e R s m args below meth c Q σ0 ν0 nv0 k0 E X loc stk V h n sl res hr hS hO ν σ H locs ls vs P
  obtain ⟨a, ha, hr⟩ := z_bdI hr
  obtain ⟨hk, hr⟩ := z_ifI hr
  obtain ⟨hk, hb⟩ := z_andI hk
  cases hr
  have p7 := P.2.2.2.2.2.2.1
  rw [show stk = _ from z_p1I ha] at p7
  obtain ⟨vx, rest, rfl, q1, q2⟩ := z_fm_cons p7
  obtain ⟨rfl, w1, w2, -⟩ := z_mt_sc q1 hk
  have hb := z_inRI P.2.2.2.1 hb
  rw [w2] at hb
  obtain ⟨-, hT⟩ := X.2.2.2.2.2.2.2.1.2.1
  refine va_tlen X.1.1 X.1.2.1 hT P.2.2.2.2.2.2.2.2 rfl d (hS _ List.mem_cons_self ν σ H locs ls _ (z_Pk P ⟨Or.inl ⟨rfl, w1, _, rfl, ?_⟩, q2⟩))
  rw [z_ofN (by omega)]
  exact w2.symm
theorem s_sld (d : decode cc pc = .ok (.iaload, 1)) (hn : pc + 1 = np) : z_sound S ms own mn cc nL pc (h_sld np) := by
  subst hn
  intro D K β p l e R s m args below meth c Q σ0 ν0 nv0 k0 E X loc stk V h n sl res hr hS hO ν σ H locs ls vs P
  obtain ⟨i, hi, hr⟩ := z_bdI hr
  obtain ⟨a, ha, hr⟩ := z_bdI hr
  obtain ⟨hk, hr⟩ := z_ifI hr
  obtain ⟨hk0, hk⟩ := z_andI hk
  obtain ⟨hk1, hk⟩ := z_andI hk
  obtain ⟨g1, g2⟩ := z_andI hk
  have p7 := P.2.2.2.2.2.2.1
  rw [show stk = _ from z_p1I hi, z_p1I ha] at p7
  obtain ⟨vx, r1, rfl, q1, q2⟩ := z_fm_cons p7
  obtain ⟨vr, rest, rfl, q3, q4⟩ := z_fm_cons q2
  obtain ⟨wx, x, rfl, hx⟩ := z_mt_i q1 hk0
  obtain ⟨rfl, w1, w2, w3⟩ := z_mt_sc q3 hk1
  have g1 := f_ge_ok P.2.2.2.1 g1
  have g2 := f_le_ok P.2.2.2.1 g2
  rw [f_sub_ev, w2] at g2
  obtain ⟨-, hT⟩ := X.2.2.2.2.2.2.2.1.2.1
  have ex : (x.toNatClampNeg : Int) = x.toInt := rg_clamp (a := 0) (b := z_mx) ⟨by omega, z_mx_le x⟩ (by omega)
  refine va_ti X.1.1 X.1.2.1 hT P.2.2.2.2.2.2.2.2 (vp_in_iff.mpr ⟨by omega, by omega⟩) rfl d ?_
  split at hr
  · rename_i y hy
    cases hr
    obtain ⟨y1, y2⟩ := z_snm_ok hy w3 g1
    refine hS _ List.mem_cons_self ν σ H locs ls _ (z_Pk P ⟨Or.inl ⟨rfl, z_var_wf y1, _, rfl, ?_⟩, q4⟩)
    show _ = (0 : Int) + (1 * ν y + 0)
    rw [y2, ← hx, show x.toInt.toNat = x.toNatClampNeg by omega]
    unfold z_scv
    omega
  · exact z_pushI hr hS P q4 (z_frI P.2.2.2.1 (z_mn_le _) (z_mx_le _))
theorem s_copyL {ix : Nat} (hl : Cond.methodLink own ix arraycopyName ∈ bw) (hnat : Cond.native arraycopyName ∈ bw) (hst : Cond.static arraycopyName ∈ bw) (hini : Cond.initialized "java/lang/System" ∈ bw) (hw60 : nativeFrameWords "java/lang/System" "arraycopy" 5 + 11 ≤ 60) (d : decode cc pc = .ok (.invokestatic ix, 3)) (hn : pc + 3 = np) : z_sound S ms own mn cc nL pc (h_copyL np) := by
  subst hn
  intro D K β p l e R s m args below meth c Q σ0 ν0 nv0 k0 E X loc stk V h n sl res hr hS hO ν σ H locs ls vs P
  obtain ⟨ln, hln, hr⟩ := z_bdI hr
  obtain ⟨dp, hdp, hr⟩ := z_bdI hr
  obtain ⟨dr, hdr, hr⟩ := z_bdI hr
  obtain ⟨sp, hsp, hr⟩ := z_bdI hr
  obtain ⟨sr, hsr, hr⟩ := z_bdI hr
  obtain ⟨hk, hr⟩ := z_ifI hr
  obtain ⟨ka, kb⟩ := z_andI hk
  obtain ⟨kln, ka⟩ := z_andI ka
  obtain ⟨kdp, ksp⟩ := z_andI ka
  obtain ⟨kc, kd⟩ := z_andI kb
  obtain ⟨kdr, ksr⟩ := z_andI kc
  obtain ⟨kf, kw⟩ := z_andI kd
  obtain ⟨cs, hcs, hr⟩ := z_bdI hr
  obtain ⟨cd, hcd, hr⟩ := z_bdI hr
  obtain ⟨hk, hr⟩ := z_ifI hr
  obtain ⟨k1, k2⟩ := z_andI hk
  obtain ⟨kcs, kcd⟩ := z_andI k1
  obtain ⟨kfs, kfd⟩ := z_andI k2
  cases hr
  obtain ⟨p1, p2, p3, p4, p5, p6, p7, p8⟩ := P
  rw [show stk = _ from z_p1I hln, z_p1I hdp, z_p1I hdr, z_p1I hsp, z_p1I hsr] at p7
  obtain ⟨v1, r1, rfl, q1, t1⟩ := z_fm_cons p7
  obtain ⟨v2, r2, rfl, q2, t2⟩ := z_fm_cons t1
  obtain ⟨v3, r3, rfl, q3, t3⟩ := z_fm_cons t2
  obtain ⟨v4, r4, rfl, q4, t4⟩ := z_fm_cons t3
  obtain ⟨v5, rest, rfl, q5, t5⟩ := z_fm_cons t4
  obtain ⟨-, xl, rfl, hxl⟩ := z_mt_i q1 kln
  obtain ⟨-, xd, rfl, hxd⟩ := z_mt_i q2 kdp
  obtain ⟨-, xs, rfl, hxs⟩ := z_mt_i q4 ksp
  obtain rfl := z_mt_r q3 kdr
  obtain rfl := z_mt_r q5 ksr
  obtain ⟨f1, f2, f3, f4, f5⟩ := z_fitsI p4 kfs hxs hxl
  obtain ⟨g1, g2, g3, g4, g5⟩ := z_fitsI p4 kfd hxd hxl
  have kcs : cs.1 % 100 = 3 := Nat.eq_of_beq_eq_true kcs
  have kcd := Nat.eq_of_beq_eq_true kcd
  have kcd' : cd.1 % 100 = 3 := by rw [kcd]
  obtain ⟨i1, f, hf, hel1⟩ := z_arL p5 hcs kcs
  obtain ⟨i2, g, hg, hel2⟩ := z_arL p5 hcd kcd'
  have kf := Nat.le_of_ble_eq_true kf
  have kw : z_cat sr.2 + 60 ≤ E.2.2.1 := Nat.le_of_ble_eq_true kw
  have x3 := X.2.2.1
  have x4 := X.2.2.2.1
  obtain ⟨lv, l1, l2⟩ := p6
  exact hp_copyL X.1 l1.1 p8 hl hnat hst hini sr.1.2.1 dr.1.2.1 i1 i2 hf hg f1 g1 f2 f3 g3 (by omega) (by rw [z_cat_ok t5]; omega) d (fun H locs hH => hS _ List.mem_cons_self ν _ H locs ls rest ⟨p1, p2, p3, p4, z_hm_set p5 hcd i2 (show (3 : Nat) < 99 by omega) (Or.inr (Or.inr (Or.inl ⟨rfl, _, rfl, fun j _ => ⟨z_anyL, rfl, Or.inr (Or.inr (Or.inr (Or.inl ⟨rfl, _, rfl, z_mnL_le _, z_mxL_le _, Or.inl rfl⟩)))⟩⟩))), ⟨lv, l1, l2⟩, t5, hH⟩)
end SC
/-! names for the script's numbers, for an object's number -/
def z_ad6 (V : VS) : VS := z_addv (z_addv (z_addv (z_addv (z_addv (z_addv V z_mn z_mx) z_mn z_mx) z_mn z_mx) z_mn z_mx) z_mn z_mx) z_mn z_mx
def h_nms (j x : Nat) (f : ZH) : ZH := fun E loc stk V h n sl => z_bd (z_lkp loc j) fun a => z_bd (z_lkp loc x) fun i => match i.2.2.2.2 with
  | [q] => z_if (z_and (Nat.beq a.1 7) (z_and (z_isI i) (z_and (z_eq0 i.2.2.1) (z_and (z_eq0 (Int.add q.1 (-1))) (z_and (f_ge V (z_fm2 i) 0) (Nat.ble 1 (z_len V.1))))))) (f E ((j, (7, z_len V.1, a.2.2.1, Int.ofNat q.2, a.2.2.2.2)) :: loc) stk (z_ad6 V) h n sl)
  | _ => none
def h_nmf (i ci k : Nat) (f : ZH) : ZH := fun E loc stk V h n sl => z_bd (z_g2 h i) fun c => z_if (z_and (Nat.beq (Nat.mod c.1 100) 0) (Nat.beq c.2.1 ci)) (z_bd (z_nth c.2.2 k) fun v => match z_bk v with
  | false => f E loc stk V h n sl
  | true => f E loc stk (z_ld V v).2 (z_s2 h i (c.1, c.2.1, z_put c.2.2 k (z_ld V v).1)) n sl)
theorem z_ad6_ok {ν : Nat → Int} {V : VS} {F : Nat → Int} (hs : z_sat ν V) (h1 : ∀ k, z_mn ≤ F k) (h2 : ∀ k, F k ≤ z_mx) : ∃ ν' : Nat → Int, (∀ i, i < z_len V.1 → ν' i = ν i) ∧ z_len (z_ad6 V).1 = z_len V.1 + 6 ∧ z_sat ν' (z_ad6 V) ∧ ∀ k, k < 6 → ν' (z_len V.1 + k) = F k := by
  obtain ⟨a1, b1, c1, d1⟩ := z_addv_ok (X := F 0) hs (h1 _) (h2 _)
  obtain ⟨a2, b2, c2, d2⟩ := z_addv_ok (X := F 1) d1 (h1 _) (h2 _)
  obtain ⟨a3, b3, c3, d3⟩ := z_addv_ok (X := F 2) d2 (h1 _) (h2 _)
  obtain ⟨a4, b4, c4, d4⟩ := z_addv_ok (X := F 3) d3 (h1 _) (h2 _)
  obtain ⟨a5, b5, c5, d5⟩ := z_addv_ok (X := F 4) d4 (h1 _) (h2 _)
  obtain ⟨a6, b6, c6, d6⟩ := z_addv_ok (X := F 5) d5 (h1 _) (h2 _)
  simp only [z_addv_len] at b2 b3 b4 b5 b6 c2 c3 c4 c5 c6
  refine ⟨a6, fun i hi => ?_, ?_, d6, fun k hk => ?_⟩
  · rw [b6 i (by omega), b5 i (by omega), b4 i (by omega), b3 i (by omega), b2 i (by omega), b1 i hi]
  · show z_len (z_addv _ _ _).1 = _
    simp only [z_addv_len]
  · match k, hk with
    | 0, _ => rw [b6 _ (by omega), b5 _ (by omega), b4 _ (by omega), b3 _ (by omega), b2 _ (by omega)]; exact c1
    | 1, _ => rw [b6 _ (by omega), b5 _ (by omega), b4 _ (by omega), b3 _ (by omega)]; exact c2
    | 2, _ => rw [b6 _ (by omega), b5 _ (by omega), b4 _ (by omega)]; exact c3
    | 3, _ => rw [b6 _ (by omega), b5 _ (by omega)]; exact c4
    | 4, _ => rw [b6 _ (by omega)]; exact c5
    | 5, _ => exact c6
    | k + 6, hk => omega
theorem lv_has_dup {ls : Array Slot} {nL : Nat} {lv : List (Nat × Value)} {q : Nat × Value} (h : lv_has ls nL lv) (hq : q ∈ lv) : lv_has ls nL (q :: lv) := ⟨h.1, h.2.1, fun r hr => by
  rcases List.mem_cons.mp hr with rfl | hr
  · exact h.2.2 _ hq
  · exact h.2.2 _ hr⟩
section NM
variable {S : List ZT} {ms : List ZM} {own mn : String} {cc : ByteArray} {nL pc : Nat} {f : ZH}
theorem s_nms {j x : Nat} (hf : z_sound S ms own mn cc nL pc f) : z_sound S ms own mn cc nL pc (h_nms j x f) := by
  intro D K β p l e R s m args below meth c Q σ0 ν0 nv0 k0 E X loc stk V h n sl res hr hS hO ν σ H locs ls vs P
  obtain ⟨a, ha, hr⟩ := z_bdI hr
  obtain ⟨i, hi, hr⟩ := z_bdI hr
  split at hr
  · rename_i q hq
    obtain ⟨hk, hr⟩ := z_ifI hr
    obtain ⟨k1, hk⟩ := z_andI hk
    obtain ⟨k2, hk⟩ := z_andI hk
    obtain ⟨k3, hk⟩ := z_andI hk
    obtain ⟨k4, hk⟩ := z_andI hk
    obtain ⟨k5, k6⟩ := z_andI hk
    obtain ⟨p1, p2, p3, p4, p5, ⟨lv, l1, l2⟩, p7, p8⟩ := P
    obtain ⟨v, m1, hv⟩ := z_lkp_ok l2 ha
    obtain ⟨vi, m2, hvi⟩ := z_lkp_ok l2 hi
    obtain ⟨wi, xi, -, hxi⟩ := z_mt_i hvi k2
    obtain ⟨rfl, w1, w2, -⟩ := z_mt_sc hv k1
    have k3 := z_eq0I k3
    have k4 : q.1 + -1 = 0 := z_eq0I k4
    have k5 := f_ge_ok p4 k5
    have k6 := Nat.le_of_ble_eq_true k6
    have ev : f_evm ν (z_fm2 i) = ν q.2 := by
      show i.2.2.1 + f_ev ν i.2.2.2.2 = _
      rw [hq, k3]
      show (0 : Int) + (q.1 * ν q.2 + 0) = _
      rw [show q.1 = 1 by omega]; omega
    rw [ev] at k5
    have wq : q.2 < z_len V.1 := by
      have := wi q (by rw [hq]; exact List.mem_cons_self)
      exact this
    obtain ⟨ν', e1, e2, e3, e4⟩ := z_ad6_ok (F := fun k => z_scv β ((ν q.2).toNat + k)) p4 (fun _ => z_mn_le _) (fun _ => z_mx_le _)
    have e2 : z_len (z_ad6 V).1 = z_len V.1 + 6 := e2
    have e2' : z_len V.1 ≤ z_len (z_ad6 V).1 := by omega
    refine hf D K β p l e R s m args below meth c Q σ0 ν0 nv0 k0 E X _ stk _ h n sl res hr hS hO ν' σ H locs ls vs ⟨fun i hi => (e1 i (Nat.lt_of_lt_of_le hi p2)).trans (p1 i hi), Nat.le_trans p2 e2', p3, e3, z_hm_ext e1 e2' p5, ⟨(j, .ref β.2.1) :: lv, ?_, ⟨rfl, ?_⟩, z_fm_mono (fun _ _ g => ⟨g.1, z_mt_ext e1 e2' g.2⟩) l2⟩, z_fm_mono (fun _ _ => z_mt_ext e1 e2') p7, p8⟩
    · exact lv_has_dup l1 m1
    · refine Or.inr (Or.inr (Or.inr (Or.inr (Or.inr (Or.inr (Or.inr (Or.inl ⟨rfl, rfl, f_wf_mono e2' w1, ?_, Or.inr ⟨?_, ?_, ?_, fun k hk => ?_⟩⟩)))))))
      · rw [← w2]
        show a.2.2.1 + f_ev ν' a.2.2.2.2 = a.2.2.1 + f_ev ν a.2.2.2.2
        rw [f_ev_ext e1 w1]
      · show q.2 < z_len (z_ad6 V).1; omega
      · show 0 ≤ ν' q.2
        rw [e1 _ wq]; exact k5
      · show z_len V.1 + 6 ≤ z_len (z_ad6 V).1; omega
      · show ν' (z_len V.1 + k) = z_scv β ((ν' q.2).toNat + k)
        rw [e1 _ wq]; exact e4 k hk
  · cases hr
theorem s_nmf {i ci k : Nat} (hf : z_sound S ms own mn cc nL pc f) : z_sound S ms own mn cc nL pc (h_nmf i ci k f) := by
  intro D K β p l e R s m args below meth c Q σ0 ν0 nv0 k0 E X loc stk V h n sl res hr hS hO ν σ H locs ls vs P
  obtain ⟨cl, hc, hr⟩ := z_bdI hr
  obtain ⟨hk2, hr⟩ := z_ifI hr
  obtain ⟨hk2, hk3⟩ := z_andI hk2
  obtain ⟨w, hw', hr⟩ := z_bdI hr
  cases hb : z_bk w with
  | false =>
    rw [hb] at hr
    exact hf D K β p l e R s m args below meth c Q σ0 ν0 nv0 k0 E X loc stk V h n sl res hr hS hO ν σ H locs ls vs P
  | true =>
    rw [hb] at hr
    obtain ⟨p1, p2, p3, p4, p5, p6, p7, p8⟩ := P
    have hk2 : cl.1 % 100 = 0 := Nat.eq_of_beq_eq_true hk2
    obtain ⟨h1, fs, h2, h3⟩ := z_obj p5 hc hk2
    obtain ⟨v, h4, h5⟩ := z_fm_nth h3 hw'
    obtain ⟨ν', e1, e2, e3, e4⟩ := z_ld_ok p4 h5
    refine hf D K β p l e R s m args below meth c Q σ0 ν0 nv0 k0 E X loc stk _ _ n sl res hr hS hO ν' σ H locs ls vs ⟨fun i hi => (e1 i (Nat.lt_of_lt_of_le hi p2)).trans (p1 i hi), Nat.le_trans p2 e2, p3, e3, z_hm_re (z_hm_ext e1 e2 p5) hc h1 rfl (Or.inl ⟨hk2, fs, h2, ?_⟩), z_lm_ext e1 e2 p6, z_fm_mono (fun _ _ => z_mt_ext e1 e2) p7, p8⟩
    exact z_fm_put1 (z_fm_mono (fun _ _ => z_mt_ext e1 e2) h3) h4 e4
end NM
