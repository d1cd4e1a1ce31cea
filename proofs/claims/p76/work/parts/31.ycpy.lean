/-! copies of int rows: the whole of one of the same length, or any part -/
def z_hul (V : VS) : List AV → Option (Int × Int)
  | [] => none
  | a :: l => z_bd (z_avb V a) fun i => match l with
    | [] => some i
    | _ :: _ => z_bd (z_hul V l) fun j => some (z_min i.1 j.1, z_max i.2 j.2)
theorem z_hul_ok {V : VS} {l : List AV} {w : Int × Int} (h : z_hul V l = some w) {j : Nat} {a : AV} (ha : z_nth l j = some a) : ∃ i, z_avb V a = some i ∧ w.1 ≤ i.1 ∧ i.2 ≤ w.2 := by
  induction l generalizing w j with
  | nil => cases ha
  | cons x l ih =>
    obtain ⟨i, hi, h⟩ := z_bdI h
    cases l with
    | nil =>
      cases h
      cases j with
      | zero => cases ha; exact ⟨_, hi, Int.le_refl _, Int.le_refl _⟩
      | succ j => cases ha
    | cons y k =>
      obtain ⟨q, hq, h⟩ := z_bdI h
      cases h
      cases j with
      | zero => cases ha; exact ⟨i, hi, z_min_le.1, z_max_le.1⟩
      | succ j =>
        obtain ⟨r, r1, r2, r3⟩ := ih hq ha
        exact ⟨r, r1, Int.le_trans z_min_le.2.1 r2, Int.le_trans r3 z_max_le.2.1⟩
theorem z_at_nth {l : List AV} {j : Nat} {a : AV} (ha : z_at l j = some a) : ∃ j', z_nth l j' = some a := by
  match l, ha with
  | [d], ha => cases ha; exact ⟨0, rfl⟩
  | d :: g :: k, ha => exact ⟨j, ha⟩
/-- one value for all: what lies there, if all that comes lies in it, else bounds of both -/
def z_cph (V : VS) (s d : List AV) : Option AV := z_bd (z_hul V s) fun i => z_bd (z_hul V d) fun j => some (1, 0, z_min i.1 j.1, z_max i.2 j.2, [])
def z_cpA (V : VS) (s d : List AV) : Option AV := match d with
  | [t] => match z_and (Nat.beq t.1 1) (z_allA V [] 0 t s) with
    | true => some t
    | false => z_cph V s d
  | _ => z_cph V s d
theorem z_cph_ok {ν : Nat → Int} {β : ZB} {V : VS} {s d : List AV} {t : AV} (hs : z_sat ν V) (h : z_cph V s d = some t) {j : Nat} {a : AV} {x : Int32} (ha : z_at s j = some a ∨ z_at d j = some a) (hm : z_mt ν (z_len V.1) β a (.int x)) : z_mt ν (z_len V.1) β t (.int x) := by
  obtain ⟨i, hi, h⟩ := z_bdI h
  obtain ⟨q, hq, h⟩ := z_bdI h
  cases h
  refine Or.inr (Or.inl ⟨rfl, x, rfl, ?_⟩)
  show z_min i.1 q.1 ≤ x.toInt ∧ x.toInt ≤ z_max i.2 q.2 ∧ _
  rcases ha with ha | ha
  · obtain ⟨j', hj⟩ := z_at_nth ha
    obtain ⟨r, r1, r2, r3⟩ := z_hul_ok hi hj
    have := z_avbI hs r1 hm
    exact ⟨Int.le_trans z_min_le.1 (Int.le_trans r2 this.1), Int.le_trans this.2 (Int.le_trans r3 z_max_le.1), Or.inl rfl⟩
  · obtain ⟨j', hj⟩ := z_at_nth ha
    obtain ⟨r, r1, r2, r3⟩ := z_hul_ok hq hj
    have := z_avbI hs r1 hm
    exact ⟨Int.le_trans z_min_le.2.1 (Int.le_trans r2 this.1), Int.le_trans this.2 (Int.le_trans r3 z_max_le.2.1), Or.inl rfl⟩
theorem z_mt1 {ν ν' : Nat → Int} {nv nv' : Nat} {β : ZB} {a : AV} {v : Value} (h1 : a.1 = 1) (h : z_mt ν nv β a v) : z_mt ν' nv' β a v := by
  rcases h with ⟨e, -⟩ | ⟨e, q⟩ | ⟨e, -⟩ | ⟨e, -⟩ | ⟨e, -⟩ | ⟨e, -⟩ | ⟨e, -⟩ | ⟨e, -⟩ | ⟨e, -⟩ | ⟨e, -⟩
  · omega
  · exact Or.inr (Or.inl ⟨e, q⟩)
  all_goals omega
theorem z_cpA_ok {ν : Nat → Int} {β : ZB} {V : VS} {s d : List AV} {t : AV} (hs : z_sat ν V) (h : z_cpA V s d = some t) {j : Nat} {a : AV} {x : Int32} (ha : z_at s j = some a ∨ z_at d j = some a) (hm : z_mt ν (z_len V.1) β a (.int x)) : z_mt ν (z_len V.1) β t (.int x) := by
  unfold z_cpA at h
  split at h
  · rename_i t0
    cases hb : z_and (Nat.beq t0.1 1) (z_allA V [] 0 t0 s) with
    | false => rw [hb] at h; exact z_cph_ok hs h ha hm
    | true =>
      rw [hb] at h
      cases h
      obtain ⟨b1, b2⟩ := z_andI hb
      have b1 := Nat.eq_of_beq_eq_true b1
      rcases ha with ha | ha
      · obtain ⟨j', hj⟩ := z_at_nth ha
        exact z_mt1 b1 (z_inA_ok hs (z_allA_ok b2 hj) hm)
      · cases ha; exact hm
  · exact z_cph_ok hs h ha hm
def z_cp (V : VS) (cs cd : AC) (sp dp ln : FM) : Option (List AV) := match z_and (z_and (z_nilF sp.2) (z_nilF dp.2)) (z_and (z_nilF ln.2) (z_and (z_eq0 sp.1) (z_and (z_eq0 dp.1) (z_and (z_le (Int.ofNat cs.2.1) ln.1) (Nat.beq cs.2.1 cd.2.1))))) with
  | true => some cs.2.2
  | false => z_bd (z_cpA V cs.2.2 cd.2.2) fun t => some [t]
def z_fits (V : VS) (sp ln : FM) (len : Nat) : Bool := z_and (f_ge V sp 0) (z_and (f_ge V ln 0) (f_le V (f_add sp ln) (Int.ofNat len)))
theorem z_fitsI {ν : Nat → Int} {V : VS} {sp ln : FM} {len : Nat} {x y : Int32} (hs : z_sat ν V) (h : z_fits V sp ln len = true) (h1 : x.toInt = f_evm ν sp) (h2 : y.toInt = f_evm ν ln) : ¬ x < 0 ∧ ¬ y < 0 ∧ x.toNatClampNeg + y.toNatClampNeg ≤ len ∧ (x.toNatClampNeg : Int) = x.toInt ∧ (y.toNatClampNeg : Int) = y.toInt := by
  obtain ⟨a1, a⟩ := z_andI h
  obtain ⟨a2, a3⟩ := z_andI a
  have a1 := f_ge_ok hs a1
  have a2 := f_ge_ok hs a2
  have a3 : f_evm ν (f_add sp ln) ≤ (len : Int) := f_le_ok hs a3
  rw [f_add_ev] at a3
  have e1 : (x.toNatClampNeg : Int) = x.toInt := rg_clamp (a := x.toInt) (b := x.toInt) ⟨Int.le_refl _, Int.le_refl _⟩ (by omega)
  have e2 : (y.toNatClampNeg : Int) = y.toInt := rg_clamp (a := y.toInt) (b := y.toInt) ⟨Int.le_refl _, Int.le_refl _⟩ (by omega)
  exact ⟨fun g => absurd (i_lt.mp g) (by show ¬ x.toInt < 0; omega), fun g => absurd (i_lt.mp g) (by show ¬ y.toInt < 0; omega), by omega, e1, e2⟩
def h_copy (np : Nat) : ZH := fun E loc stk V h n sl => z_bd (z_p1 stk) fun ln => z_bd (z_p1 ln.2) fun dp => z_bd (z_p1 dp.2) fun dr => z_bd (z_p1 dr.2) fun sp => z_bd (z_p1 sp.2) fun sr => z_if (z_and (z_and (z_isI ln.1) (z_and (z_isI dp.1) (z_isI sp.1))) (z_and (z_and (Nat.beq dr.1.1 4) (Nat.beq sr.1.1 4)) (z_and (Nat.ble 1 E.2.1) (Nat.ble (Nat.add (z_cat sr.2) 60) E.2.2.1)))) (z_bd (z_g2 h sr.1.2.1) fun cs => z_bd (z_g2 h dr.1.2.1) fun cd => z_if (z_and (z_and (Nat.beq (Nat.mod cs.1 100) 1) (Nat.beq cd.1 1)) (z_and (z_fits V (z_fm2 sp.1) (z_fm2 ln.1) cs.2.1) (z_fits V (z_fm2 dp.1) (z_fm2 ln.1) cd.2.1))) (z_bd (z_cp V cs cd (z_fm2 sp.1) (z_fm2 dp.1) (z_fm2 ln.1)) fun r => some ([(np, loc, sr.2, V, z_s2 h dr.1.2.1 (1, cd.2.1, r), n, sl)], [])))
section CY
variable {S : List ZT} {ms : List ZM} {own mn : String} {cc : ByteArray} {nL pc np : Nat}
theorem s_copy {ix : Nat} (hl : Cond.methodLink own ix arraycopyName ∈ bw) (hnat : Cond.native arraycopyName ∈ bw) (hst : Cond.static arraycopyName ∈ bw) (hini : Cond.initialized "java/lang/System" ∈ bw) (hw60 : nativeFrameWords "java/lang/System" "arraycopy" 5 + 11 ≤ 60) (d : decode cc pc = .ok (.invokestatic ix, 3)) (hn : pc + 3 = np) : z_sound S ms own mn cc nL pc (h_copy np) := by
  subst hn
  intro D K β p l e R s m args below meth c Q σ0 ν0 nv0 k0 E X loc stk V h n sl res hr hS hO ν σ H locs ls vs P
  obtain ⟨ln, hln, hr⟩ := z_bdI hr
  obtain ⟨dp, hdp, hr⟩ := z_bdI hr
  obtain ⟨dr, hdr, hr⟩ := z_bdI hr
  obtain ⟨sp, hsp, hr⟩ := z_bdI hr
  obtain ⟨sr, hsr, hr⟩ := z_bdI hr
  obtain ⟨hk, hr⟩ := z_ifI hr
  obtain ⟨ka, kb⟩ := z_andI hk
  obtain ⟨kln, ka⟩ := z_andI ka
  obtain ⟨kdp, ksp⟩ := z_andI ka
  obtain ⟨kc, kd⟩ := z_andI kb
  obtain ⟨kdr, ksr⟩ := z_andI kc
  obtain ⟨kf, kw⟩ := z_andI kd
  obtain ⟨cs, hcs, hr⟩ := z_bdI hr
  obtain ⟨cd, hcd, hr⟩ := z_bdI hr
  obtain ⟨hk, hr⟩ := z_ifI hr
  obtain ⟨k1, k2⟩ := z_andI hk
  obtain ⟨kcs, kcd⟩ := z_andI k1
  obtain ⟨kfs, kfd⟩ := z_andI k2
  obtain ⟨r, hcp, hr⟩ := z_bdI hr
  cases hr
  obtain ⟨p1, p2, p3, p4, p5, p6, p7, p8⟩ := P
  rw [show stk = _ from z_p1I hln, z_p1I hdp, z_p1I hdr, z_p1I hsp, z_p1I hsr] at p7
  obtain ⟨v1, r1, rfl, q1, t1⟩ := z_fm_cons p7
  obtain ⟨v2, r2, rfl, q2, t2⟩ := z_fm_cons t1
  obtain ⟨v3, r3, rfl, q3, t3⟩ := z_fm_cons t2
  obtain ⟨v4, r4, rfl, q4, t4⟩ := z_fm_cons t3
  obtain ⟨v5, rest, rfl, q5, t5⟩ := z_fm_cons t4
  obtain ⟨-, xl, rfl, hxl⟩ := z_mt_i q1 kln
  obtain ⟨-, xd, rfl, hxd⟩ := z_mt_i q2 kdp
  obtain ⟨-, xs, rfl, hxs⟩ := z_mt_i q4 ksp
  obtain rfl := z_mt_r q3 kdr
  obtain rfl := z_mt_r q5 ksr
  obtain ⟨f1, f2, f3, f4, f5⟩ := z_fitsI p4 kfs hxs hxl
  obtain ⟨g1, g2, g3, g4, g5⟩ := z_fitsI p4 kfd hxd hxl
  have kcs : cs.1 % 100 = 1 := Nat.eq_of_beq_eq_true kcs
  have kcd := Nat.eq_of_beq_eq_true kcd
  have kcd' : cd.1 % 100 = 1 := by rw [kcd]
  obtain ⟨i1, f, hf, hel1⟩ := z_arI p5 hcs (Or.inl kcs)
  obtain ⟨i2, g, hg, hel2⟩ := z_arI p5 hcd (Or.inl kcd')
  rw [kcs] at hf
  rw [kcd'] at hg
  have kf := Nat.le_of_ble_eq_true kf
  have kw : z_cat sr.2 + 60 ≤ E.2.2.1 := Nat.le_of_ble_eq_true kw
  have x3 := X.2.2.1
  have x4 := X.2.2.2.1
  obtain ⟨lv, l1, l2⟩ := p6
  refine hp_copy X.1 l1.1 p8 hl hnat hst hini sr.1.2.1 dr.1.2.1 i1 i2 hf hg f1 g1 f2 f3 g3 (by omega) (by rw [z_cat_ok t5]; omega) d (fun H locs hH => hS _ List.mem_cons_self ν _ H locs ls rest ⟨p1, p2, p3, p4, z_hm_set p5 hcd i2 (show (1 : Nat) < 99 by omega) (Or.inr (Or.inl ⟨Or.inl rfl, _, rfl, ?_⟩)), ⟨lv, l1, l2⟩, t5, hH⟩)
  intro j hj
  have hj : j < cd.2.1 := hj
  unfold z_cp at hcp
  cases hall : z_and (z_and (z_nilF (z_fm2 sp.1).2) (z_nilF (z_fm2 dp.1).2)) (z_and (z_nilF (z_fm2 ln.1).2) (z_and (z_eq0 (z_fm2 sp.1).1) (z_and (z_eq0 (z_fm2 dp.1).1) (z_and (z_le (Int.ofNat cs.2.1) (z_fm2 ln.1).1) (Nat.beq cs.2.1 cd.2.1))))) with
  | true =>
    rw [hall] at hcp
    cases hcp
    obtain ⟨a1, a⟩ := z_andI hall
    obtain ⟨a1, a2⟩ := z_andI a1
    obtain ⟨a3, a⟩ := z_andI a
    obtain ⟨a4, a⟩ := z_andI a
    obtain ⟨a5, a⟩ := z_andI a
    obtain ⟨a6, a7⟩ := z_andI a
    have ev : ∀ w : FM, z_nilF w.2 = true → f_evm ν w = w.1 := fun w hw => by
      show w.1 + f_ev ν w.2 = w.1
      rw [z_nilFI hw]
      show w.1 + 0 = w.1
      omega
    rw [ev _ a1, z_eq0I a4] at hxs
    rw [ev _ a2, z_eq0I a5] at hxd
    rw [ev _ a3] at hxl
    have a6 : (cs.2.1 : Int) ≤ (z_fm2 ln.1).1 := z_le_iff.mp a6
    have a7 := Nat.eq_of_beq_eq_true a7
    obtain ⟨a, e1, e2⟩ := hel1 j (by omega)
    refine ⟨a, e1, ?_⟩
    have : va_cpy f g xs.toNatClampNeg xd.toNatClampNeg xl.toNatClampNeg j = f j := by
      unfold va_cpy
      rw [if_pos (by omega), show xs.toNatClampNeg + (j - xd.toNatClampNeg) = j by omega]
    rw [this]
    exact e2
  | false =>
    rw [hall] at hcp
    obtain ⟨t, ht, hcp⟩ := z_bdI hcp
    cases hcp
    refine ⟨t, rfl, ?_⟩
    unfold va_cpy
    by_cases hin : xd.toNatClampNeg ≤ j ∧ j < xd.toNatClampNeg + xl.toNatClampNeg
    · rw [if_pos hin]
      obtain ⟨a, e1, e2⟩ := hel1 (xs.toNatClampNeg + (j - xd.toNatClampNeg)) (by omega)
      exact z_cpA_ok p4 ht (Or.inl e1) e2
    · rw [if_neg hin]
      obtain ⟨a, e1, e2⟩ := hel2 j hj
      exact z_cpA_ok p4 ht (Or.inr e1) e2
end CY
