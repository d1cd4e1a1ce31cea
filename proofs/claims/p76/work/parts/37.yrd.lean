/-! reads of rows that were looked at, of bytes that were read -/
theorem z_nx_nth {ν : Nat → Int} {nv : Nat} {β : ZB} {p : Int} {f : Nat → Int64} {rs : List AV} {d k : Nat} {r : AV} (q : z_nx ν nv β p f d rs) (hr : z_nth rs k = some r) (h2 : r.1 = 2) : z_mt ν nv β r (.long (f (p + ((d + k : Nat) : Int)).toNat)) := by
  induction rs generalizing d k with
  | nil => cases hr
  | cons a l ih => cases k with
    | zero => cases hr; exact q.1 h2
    | succ k =>
      have := ih q.2 hr
      rw [show d + 1 + k = d + (k + 1) by omega] at this
      exact this
theorem z_nx_put {ν : Nat → Int} {nv : Nat} {β : ZB} {p : Int} {f : Nat → Int64} {rs : List AV} {d k : Nat} {r : AV} (q : z_nx ν nv β p f d rs) (hr : z_mt ν nv β r (.long (f (p + ((d + k : Nat) : Int)).toNat))) : z_nx ν nv β p f d (z_put rs k r) := by
  induction rs generalizing d k with
  | nil => exact q
  | cons a l ih => cases k with
    | zero => exact ⟨fun _ => hr, q.2⟩
    | succ k =>
      refine ⟨q.1, ih q.2 ?_⟩
      rw [show d + 1 + k = d + (k + 1) by omega]
      exact hr
def z_c3 (f : FM) : Option Nat := match f.2 with
  | [] => match f.1 with
    | .ofNat k => match Nat.ble k 2 with
      | true => some k
      | false => none
    | .negSucc _ => none
  | _ :: _ => none
theorem z_c3_ok {ν : Nat → Int} {f : FM} {k : Nat} (h : z_c3 f = some k) : f_evm ν f = (k : Int) := by
  obtain ⟨c, l⟩ := f
  unfold z_c3 at h
  cases l with
  | cons q l => cases h
  | nil => cases c with
    | negSucc c => cases h
    | ofNat c =>
      simp only at h
      cases hb : Nat.ble c 2 with
      | false => rw [hb] at h; cases h
      | true => rw [hb] at h; cases h; show (k : Int) + 0 = _; omega
def z_b7 (m : Int) : Int × Int := match m with
  | .ofNat 0 => (0, 5)
  | .ofNat 1 => (0, 15)
  | _ => (0, 99)
def z_sv (V : VS) (d sz : FM) : Int × Int := match z_and (z_m3L d.2) (z_and (f_ge V d (Int.emod d.1 3)) (f_le V (f_sub d sz) (Int.add (Int.emod d.1 3) (-1)))) with
  | true => z_b7 (Int.emod d.1 3)
  | false => (z_mnL, z_mxL)
theorem z_sv_ok {ν : Nat → Int} {V : VS} {off d sz : FM} {f : Nat → Int64} {x : Nat} (hs : z_sat ν V) (hse : z_seen (f_evm ν off) (f_evm ν sz) f) (hx : (x : Int) = f_evm ν off + f_evm ν d) : (z_sv V d sz).1 ≤ (f x).toInt ∧ (f x).toInt ≤ (z_sv V d sz).2 := by
  unfold z_sv
  cases h : z_and (z_m3L d.2) (z_and (f_ge V d (Int.emod d.1 3)) (f_le V (f_sub d sz) (Int.add (Int.emod d.1 3) (-1)))) with
  | false => exact ⟨z_mnL_le _, z_mxL_le _⟩
  | true =>
    obtain ⟨h1, h2⟩ := z_andI h
    obtain ⟨h2, h3⟩ := z_andI h2
    have h1 := z_m3L_ok (ν := ν) h1
    have h2 : d.1 % 3 ≤ f_evm ν d := f_ge_ok hs h2
    have h3 : f_evm ν (f_sub d sz) ≤ d.1 % 3 + -1 := f_le_ok hs h3
    rw [f_sub_ev] at h3
    have hd : f_evm ν d = d.1 + f_ev ν d.2 := rfl
    obtain ⟨t, ht⟩ := h1
    have m0 := Int.emod_nonneg d.1 (show (3 : Int) ≠ 0 by omega)
    have m1 := Int.emod_lt_of_pos d.1 (show (0 : Int) < 3 by omega)
    show (z_b7 (d.1 % 3)).1 ≤ _ ∧ _ ≤ (z_b7 (d.1 % 3)).2
    have hj : 0 ≤ f_evm ν d - d.1 % 3 := by omega
    obtain ⟨j, hj⟩ := Int.eq_ofNat_of_zero_le hj
    have j3 : j % 3 = 0 := by omega
    obtain ⟨s0, s1, s2, s3⟩ := hse j j3 (by omega)
    rcases (by omega : d.1 % 3 = 0 ∨ d.1 % 3 = 1 ∨ d.1 % 3 = 2) with g | g | g
    · rw [g]
      rw [show x = (f_evm ν off).toNat + j by omega]
      exact s1
    · rw [g]
      rw [show x = (f_evm ν off).toNat + j + 1 by omega]
      exact s2
    · rw [g]
      rw [show x = (f_evm ν off).toNat + j + 2 by omega]
      exact s3
def h_ld7 (np : Nat) : ZH := fun E loc stk V h n sl => z_bd (z_p1 stk) fun a => z_bd (z_p1 a.2) fun d => z_if (z_and (z_isI a.1) (Nat.beq d.1.1 4)) (z_bd (z_g2 h d.1.2.1) fun c => z_if (z_and (Nat.beq (Nat.mod c.1 100) 7) (z_inb V (z_fm2 a.1) c.2.1)) (match c.2.2 with
  | so :: sz :: rs => match z_c3 (f_sub (f_sub (z_fm2 a.1) (z_fm2 so)) (z_fm2 sz)) with
    | some k => z_bd (z_nth rs k) fun r => match Nat.beq r.1 2 with
      | true => some ([(np, loc, r :: d.2, V, h, n, sl)], [])
      | false => match z_fr 2 V (z_mnL, z_mxL) with
        | q => some ([(np, loc, q.1 :: d.2, q.2, z_s2 h d.1.2.1 (c.1, c.2.1, so :: sz :: z_put rs k q.1), n, sl)], [])
    | none => z_push 2 np loc d.2 (z_fr 2 V (z_sv V (f_sub (z_fm2 a.1) (z_fm2 so)) (z_fm2 sz))) h n sl
  | _ => none))
def z_k7 (h : T2 AC) (stk : List AV) (k : Nat) : Bool := match stk with
  | _ :: d :: _ => match z_g2 h d.2.1 with
    | some c => z_and (Nat.beq d.1 4) (Nat.beq (Nat.mod c.1 100) k)
    | none => false
  | _ => false
def h_ldL (np : Nat) : ZH := fun E loc stk V h n sl => match z_k7 h stk 7 with
  | true => h_ld7 np E loc stk V h n sl
  | false => h_ald 3 2 np E loc stk V h n sl
/-- bytes -/
def f_sameL : FL → FL → Bool
  | [], [] => true
  | q :: l, r :: k => z_and (z_and (z_eq0 (Int.add q.1 (Int.mul (-1) r.1))) (Nat.beq q.2 r.2)) (f_sameL l k)
  | [], _ :: _ => false
  | _ :: _, [] => false
theorem f_sameL_ok {ν : Nat → Int} {l k : FL} (h : f_sameL l k = true) : f_ev ν l = f_ev ν k := by
  induction l generalizing k with
  | nil => cases k with
    | nil => rfl
    | cons => cases h
  | cons q l ih => cases k with
    | nil => cases h
    | cons r k =>
      obtain ⟨h1, h2⟩ := z_andI h
      obtain ⟨h1, h3⟩ := z_andI h1
      have h1 : q.1 + -1 * r.1 = 0 := z_eq0I h1
      show q.1 * ν q.2 + f_ev ν l = r.1 * ν r.2 + f_ev ν k
      rw [ih h2, Nat.eq_of_beq_eq_true h3, show q.1 = r.1 by omega]
def f_same (f g : FM) : Bool := z_and (z_eq0 (Int.add f.1 (Int.mul (-1) g.1))) (f_sameL f.2 g.2)
theorem f_same_ok {ν : Nat → Int} {f g : FM} (h : f_same f g = true) : f_evm ν f = f_evm ν g := by
  obtain ⟨h1, h2⟩ := z_andI h
  have h1 : f.1 + -1 * g.1 = 0 := z_eq0I h1
  show f.1 + f_ev ν f.2 = g.1 + f_ev ν g.2
  rw [f_sameL_ok h2]
  omega
def z_look (ix : FM) : List AV → Option AV
  | x :: v :: l => match f_same (z_fm2 x) ix with
    | true => some v
    | false => z_look ix l
  | _ => none
theorem z_look_ok {ν : Nat → Int} {nv : Nat} {β : ZB} {f : Nat → Int32} {ix : FM} : ∀ {l : List AV} {v : AV}, z_mem ν nv β f l → z_look ix l = some v → z_mt ν nv β v (.int (f (f_evm ν ix).toNat))
  | [], v, _, h => by cases h
  | [_], v, q, h => q.elim
  | x :: w :: l, v, q, h => by
    unfold z_look at h
    cases hs : f_same (z_fm2 x) ix with
    | true =>
      rw [hs] at h
      cases h
      rw [← f_same_ok hs]
      exact q.2.1
    | false =>
      rw [hs] at h
      exact z_look_ok q.2.2 h
theorem z_mem_snoc {ν : Nat → Int} {nv : Nat} {β : ZB} {f : Nat → Int32} {x v : AV} (hx : f_wf nv x.2.2.2.2) (hv : z_mt ν nv β v (.int (f (f_evm ν (z_fm2 x)).toNat))) : ∀ {l : List AV}, z_mem ν nv β f l → z_mem ν nv β f (z_app l [x, v])
  | [], _ => ⟨hx, hv, trivial⟩
  | [_], q => q.elim
  | _ :: _ :: _, q => ⟨q.1, q.2.1, z_mem_snoc hx hv q.2.2⟩
def h_ld8 (np : Nat) : ZH := fun E loc stk V h n sl => z_bd (z_p1 stk) fun a => z_bd (z_p1 a.2) fun d => z_if (z_and (z_isI a.1) (Nat.beq d.1.1 4)) (z_bd (z_g2 h d.1.2.1) fun c => z_if (z_and (Nat.beq (Nat.mod c.1 100) 8) (z_inb V (z_fm2 a.1) c.2.1)) (match c.2.2 with
  | e :: mem => match z_look (z_fm2 a.1) mem with
    | some v => some ([(np, loc, v :: d.2, V, h, n, sl)], [])
    | none => match z_ld V e with
      | q => some ([(np, loc, q.1 :: d.2, q.2, z_s2 h d.1.2.1 (c.1, c.2.1, e :: z_app mem [(1, 0, a.1.2.2.1, 0, a.1.2.2.2.2), q.1]), n, sl)], [])
  | [] => none))
def h_ldB (np : Nat) : ZH := fun E loc stk V h n sl => match z_k7 h stk 8 with
  | true => h_ld8 np E loc stk V h n sl
  | false => h_ald 2 0 np E loc stk V h n sl
section RD
variable {S : List ZT} {ms : List ZM} {own mn : String} {cc : ByteArray} {nL pc np : Nat}
theorem s_ld7 (d : decode cc pc = .ok (.laload, 1)) (hn : pc + 1 = np) : z_sound S ms own mn cc nL pc (h_ld7 np) := by
  subst hn
  intro D K β p l e R s m args below meth c Q σ0 ν0 nv0 k0 E X loc stk V h n sl res hr hS hO ν σ H locs ls vs P
  obtain ⟨a, ha, hr⟩ := z_bdI hr
  obtain ⟨g, hg, hr⟩ := z_bdI hr
  obtain ⟨hk, hr⟩ := z_ifI hr
  obtain ⟨hka, hkg⟩ := z_andI hk
  obtain ⟨cl, hc, hr⟩ := z_bdI hr
  obtain ⟨hk2, hr⟩ := z_ifI hr
  obtain ⟨hk2, hin⟩ := z_andI hk2
  have P0 := P
  obtain ⟨p1, p2, p3, p4, p5, p6, p7, p8⟩ := P
  rw [z_p1I ha, z_p1I hg] at p7
  obtain ⟨vx, r1, rfl, q1, q2⟩ := z_fm_cons p7
  obtain ⟨vr, rest, rfl, q3, q4⟩ := z_fm_cons q2
  obtain ⟨wx, x, rfl, hx⟩ := z_mt_i q1 hka
  obtain rfl := z_mt_r q3 hkg
  obtain ⟨b1, b2, b3⟩ := z_inbI p4 hin hx
  have e7 : cl.1 % 100 = 7 := Nat.eq_of_beq_eq_true hk2
  obtain ⟨hi, f, so, sz, rs, hf, hl, w1, w2, hse, hnx⟩ := z_ar7 p5 hc e7
  rw [hl] at hr
  simp only at hr
  refine hp_lald X.1 p8 g.1.2.1 hi hf b1 rfl d ?_
  cases h3 : z_c3 (f_sub (f_sub (z_fm2 a.1) (z_fm2 so)) (z_fm2 sz)) with
  | some k =>
    rw [h3] at hr
    have e3 := z_c3_ok (ν := ν) h3
    rw [f_sub_ev, f_sub_ev] at e3
    have ei : (f_evm ν (z_fm2 so) + f_evm ν (z_fm2 sz) + ((0 + k : Nat) : Int)).toNat = x.toNatClampNeg := by omega
    obtain ⟨r, hrr, hr⟩ := z_bdI hr
    cases hb : Nat.beq r.1 2 with
    | true =>
      rw [hb] at hr
      cases hr
      have hm := z_nx_nth hnx hrr (Nat.eq_of_beq_eq_true hb)
      rw [ei] at hm
      exact hS _ List.mem_cons_self ν σ H locs ls _ ⟨p1, p2, p3, p4, p5, p6, ⟨hm, q4⟩, p8⟩
    | false =>
      rw [hb] at hr
      cases hr
      obtain ⟨ν', e1, e2, e4, e5⟩ := z_frL (β := β) (w := (z_mnL, z_mxL)) (x := f x.toNatClampNeg) p4 (z_mnL_le _) (z_mxL_le _)
      refine hS _ List.mem_cons_self ν' σ H locs ls _ ⟨fun i hi => (e1 i (Nat.lt_of_lt_of_le hi p2)).trans (p1 i hi), Nat.le_trans p2 e2, p3, e4, z_hm_re (z_hm_ext e1 e2 p5) hc hi rfl ?_, z_lm_ext e1 e2 p6, ⟨e5, z_fm_mono (fun _ _ => z_mt_ext e1 e2) q4⟩, p8⟩
      have s1 : f_evm ν' (z_fm2 so) = f_evm ν (z_fm2 so) := by show so.2.2.1 + _ = so.2.2.1 + _; rw [show f_ev ν' (z_fm2 so).2 = f_ev ν (z_fm2 so).2 from f_ev_ext e1 w1]
      have s2 : f_evm ν' (z_fm2 sz) = f_evm ν (z_fm2 sz) := by show sz.2.2.1 + _ = sz.2.2.1 + _; rw [show f_ev ν' (z_fm2 sz).2 = f_ev ν (z_fm2 sz).2 from f_ev_ext e1 w2]
      refine Or.inr (Or.inr (Or.inr (Or.inr (Or.inl ⟨e7, f, so, sz, _, hf, rfl, f_wf_mono e2 w1, f_wf_mono e2 w2, ?_, ?_⟩))))
      · rw [s1, s2]; exact hse
      · rw [s1, s2]
        refine z_nx_put (z_nx_ext e1 e2 hnx) ?_
        rw [ei]
        exact e5
  | none =>
    rw [h3] at hr
    have hz := z_sv_ok (off := z_fm2 so) (d := f_sub (z_fm2 a.1) (z_fm2 so)) (sz := z_fm2 sz) (x := x.toNatClampNeg) p4 hse (by rw [f_sub_ev, b2]; omega)
    exact z_pushI hr hS P0 q4 (z_frL p4 hz.1 hz.2)
theorem s_ldL (d : decode cc pc = .ok (.laload, 1)) (hn : pc + 1 = np) : z_sound S ms own mn cc nL pc (h_ldL np) := by
  intro D K β p l e R s m args below meth c Q σ0 ν0 nv0 k0 E X loc stk V h n sl res hr hS hO
  have hr : (match z_k7 h stk 7 with | true => h_ld7 np E loc stk V h n sl | false => h_ald 3 2 np E loc stk V h n sl) = some res := hr
  cases hk : z_k7 h stk 7 with
  | true => rw [hk] at hr; exact s_ld7 d hn D K β p l e R s m args below meth c Q σ0 ν0 nv0 k0 E X loc stk V h n sl res hr hS hO
  | false => rw [hk] at hr; exact s_laload d hn D K β p l e R s m args below meth c Q σ0 ν0 nv0 k0 E X loc stk V h n sl res hr hS hO
theorem s_ld8 (d : decode cc pc = .ok (.baload, 1)) (hn : pc + 1 = np) : z_sound S ms own mn cc nL pc (h_ld8 np) := by
  subst hn
  intro D K β p l e R s m args below meth c Q σ0 ν0 nv0 k0 E X loc stk V h n sl res hr hS hO ν σ H locs ls vs P
  obtain ⟨a, ha, hr⟩ := z_bdI hr
  obtain ⟨g, hg, hr⟩ := z_bdI hr
  obtain ⟨hk, hr⟩ := z_ifI hr
  obtain ⟨hka, hkg⟩ := z_andI hk
  obtain ⟨cl, hc, hr⟩ := z_bdI hr
  obtain ⟨hk2, hr⟩ := z_ifI hr
  obtain ⟨hk2, hin⟩ := z_andI hk2
  obtain ⟨p1, p2, p3, p4, p5, p6, p7, p8⟩ := P
  rw [z_p1I ha, z_p1I hg] at p7
  obtain ⟨vx, r1, rfl, q1, q2⟩ := z_fm_cons p7
  obtain ⟨vr, rest, rfl, q3, q4⟩ := z_fm_cons q2
  obtain ⟨wx, x, rfl, hx⟩ := z_mt_i q1 hka
  obtain rfl := z_mt_r q3 hkg
  obtain ⟨b1, b2, b3⟩ := z_inbI p4 hin hx
  have e8 : cl.1 % 100 = 8 := Nat.eq_of_beq_eq_true hk2
  obtain ⟨hi, f, el, mem, hf, hl, hel, hmem⟩ := z_ar8 p5 hc e8
  rw [hl] at hr
  simp only at hr
  have ei : (f_evm ν (z_fm2 a.1)).toNat = x.toNatClampNeg := by omega
  refine hp_bald X.1 p8 g.1.2.1 hi hf b1 rfl d ?_
  cases h3 : z_look (z_fm2 a.1) mem with
  | some v =>
    rw [h3] at hr
    cases hr
    have hm := z_look_ok hmem h3
    rw [ei] at hm
    exact hS _ List.mem_cons_self ν σ H locs ls _ ⟨p1, p2, p3, p4, p5, p6, ⟨hm, q4⟩, p8⟩
  | none =>
    rw [h3] at hr
    cases hr
    obtain ⟨ν', e1, e2, e4, e5⟩ := z_ld_ok p4 (hel _ b3)
    refine hS _ List.mem_cons_self ν' σ H locs ls _ ⟨fun i hi => (e1 i (Nat.lt_of_lt_of_le hi p2)).trans (p1 i hi), Nat.le_trans p2 e2, p3, e4, z_hm_re (z_hm_ext e1 e2 p5) hc hi rfl ?_, z_lm_ext e1 e2 p6, ⟨e5, z_fm_mono (fun _ _ => z_mt_ext e1 e2) q4⟩, p8⟩
    have s1 : f_evm ν' (z_fm2 a.1) = f_evm ν (z_fm2 a.1) := by show a.1.2.2.1 + _ = a.1.2.2.1 + _; rw [show f_ev ν' (z_fm2 a.1).2 = f_ev ν (z_fm2 a.1).2 from f_ev_ext e1 wx]
    refine Or.inr (Or.inr (Or.inr (Or.inr (Or.inr ⟨e8, f, el, _, hf, rfl, fun j hj => z_mt_ext e1 e2 (hel j hj), z_mem_snoc (x := (1, 0, a.1.2.2.1, 0, a.1.2.2.2.2)) (f_wf_mono e2 wx) ?_ (z_mem_ext e1 e2 hmem)⟩))))
    show z_mt ν' _ β _ (.int (f (f_evm ν' (z_fm2 a.1)).toNat))
    rw [s1, ei]
    exact e5
theorem s_ldB (d : decode cc pc = .ok (.baload, 1)) (hn : pc + 1 = np) : z_sound S ms own mn cc nL pc (h_ldB np) := by
  intro D K β p l e R s m args below meth c Q σ0 ν0 nv0 k0 E X loc stk V h n sl res hr hS hO
  have hr : (match z_k7 h stk 8 with | true => h_ld8 np E loc stk V h n sl | false => h_ald 2 0 np E loc stk V h n sl) = some res := hr
  cases hk : z_k7 h stk 8 with
  | true => rw [hk] at hr; exact s_ld8 d hn D K β p l e R s m args below meth c Q σ0 ν0 nv0 k0 E X loc stk V h n sl res hr hS hO
  | false => rw [hk] at hr; exact s_baload d hn D K β p l e R s m args below meth c Q σ0 ν0 nv0 k0 E X loc stk V h n sl res hr hS hO
end RD
