/-! a state in pieces: by a local, by a number of a row -/
def z_pcs (a : FM) : List Int → VS → List VS
  | [], V => [V]
  | t :: ts, V => z_ol (z_ge V (t, []) a) (match z_lt V (t, []) a with
    | some V1 => z_pcs a ts V1
    | none => [])
theorem z_pcs_ok {ν : Nat → Int} {a : FM} {ts : List Int} {V : VS} (hs : z_sat ν V) (hw : f_wf (z_len V.1) a.2) : ∃ V' ∈ z_pcs a ts V, z_sat ν V' ∧ z_len V'.1 = z_len V.1 := by
  induction ts generalizing V with
  | nil => exact ⟨V, List.mem_cons_self, hs, rfl⟩
  | cons t ts ih =>
    have ev : f_evm ν ((t, []) : FM) = t := by show t + 0 = t; omega
    by_cases g : f_evm ν a ≤ t
    · obtain ⟨V1, e1, s1, l1⟩ := z_ge_ok (x := (t, [])) hs f_wf0 hw (by rw [ev]; exact g)
      exact ⟨V1, z_ol_mem.mpr (Or.inl e1), s1, l1⟩
    · obtain ⟨V1, e1, s1, l1⟩ := z_lt_ok (x := (t, [])) hs f_wf0 hw (by rw [ev]; omega)
      obtain ⟨V2, m2, s2, l2⟩ := ih s1 (by rw [l1]; exact hw)
      refine ⟨V2, z_ol_mem.mpr (Or.inr ?_), s2, l2.trans l1⟩
      rw [e1]
      exact m2
def z_fan (f : VS → ZR) : List VS → ZR
  | [] => some ([], [])
  | V :: l => z_bd (f V) fun q => z_bd (z_fan f l) fun r => some (z_app q.1 r.1, z_app q.2 r.2)
theorem z_fan_ok {f : VS → ZR} {l : List VS} {res : List ZS × List ZO} (h : z_fan f l = some res) {V : VS} (hV : V ∈ l) : ∃ q, f V = some q ∧ (∀ st ∈ q.1, st ∈ res.1) ∧ ∀ o ∈ q.2, o ∈ res.2 := by
  induction l generalizing res with
  | nil => cases hV
  | cons W l ih =>
    obtain ⟨q, hq, h⟩ := z_bdI h
    obtain ⟨r, hr, h⟩ := z_bdI h
    cases h
    rcases List.mem_cons.mp hV with rfl | hV
    · exact ⟨q, hq, fun st g => z_mem_app.mpr (Or.inl g), fun o g => z_mem_app.mpr (Or.inl g)⟩
    · obtain ⟨q', g1, g2, g3⟩ := ih hr hV
      exact ⟨q', g1, fun st g => z_mem_app.mpr (Or.inr (g2 st g)), fun o g => z_mem_app.mpr (Or.inr (g3 o g))⟩
theorem z_num_wf {ν : Nat → Int} {nv : Nat} {β : ZB} {a : AV} {v : Value} (q : z_mt ν nv β a v) (h : z_num a.1 = true) : f_wf nv a.2.2.2.2 := by
  unfold z_num at h
  split at h
  · rename_i e
    exact (z_mt_i q (by unfold z_isI; rw [e]; rfl)).1
  · rename_i e
    exact (z_mt_l q (by unfold z_isL; rw [e]; rfl)).1
  · cases h
def h_spt (j : Nat) (ts : List Int) (f : ZH) : ZH := fun E loc stk V h n sl => z_bd (z_lkp loc j) fun a => z_if (z_num a.1) (z_fan (fun V' => f E loc stk V' h n sl) (z_pcs (z_fm2 a) ts V))
def h_spe (i j : Nat) (ts : List Int) (f : ZH) : ZH := fun E loc stk V h n sl => z_bd (z_g2 h i) fun c => z_if (z_and (Nat.beq (Nat.mod c.1 100) 1) (Nat.ble (Nat.succ j) c.2.1)) (z_bd (z_rdA 0 V c.2.2 (Int.ofNat j, [])) fun q => z_if (z_isI q.1) (z_fan (fun V' => f E loc stk V' (z_s2 h i (c.1, c.2.1, q.2.2)) n sl) (z_pcs (z_fm2 q.1) ts q.2.1)))
def h_spn (x : Nat) (ts : List Int) (f : ZH) : ZH := fun E loc stk V h n sl => z_if (Nat.ble (Nat.succ x) (z_len V.1)) (z_fan (fun V' => f E loc stk V' h n sl) (z_pcs (0, [(1, x)]) ts V))
def z_pall : List FM → VS → Option VS
  | [], V => some V
  | g :: l, V => z_bd (z_prp g g.2 V) (z_pall l)
theorem z_pall_ok {ν : Nat → Int} {gs : List FM} {V : VS} (hs : z_sat ν V) (h : ∀ g ∈ gs, f_evm ν g ≤ 0) : ∃ V', z_pall gs V = some V' ∧ z_sat ν V' ∧ z_len V'.1 = z_len V.1 := by
  induction gs generalizing V with
  | nil => exact ⟨V, rfl, hs, rfl⟩
  | cons g l ih =>
    obtain ⟨V1, a1, a2, a3⟩ := z_prp_ok (g := g) (l := g.2) (fun q hq => hq) hs (h g List.mem_cons_self)
    obtain ⟨V2, b1, b2, b3⟩ := ih a2 (fun k hk => h k (List.mem_cons_of_mem _ hk))
    exact ⟨V2, by unfold z_pall; rw [a1]; exact b1, b2, by rw [b3, a3]⟩
def h_pall (f : ZH) : ZH := fun E loc stk V h n sl => match z_pall V.2.1 V with
  | none => some ([], [])
  | some V' => f E loc stk V' h n sl
section SP
variable {S : List ZT} {ms : List ZM} {own mn : String} {cc : ByteArray} {nL pc j : Nat} {ts : List Int} {f : ZH}
theorem s_spt (hf : z_sound S ms own mn cc nL pc f) : z_sound S ms own mn cc nL pc (h_spt j ts f) := by
  intro D K β p l e R s m args below meth c Q σ0 ν0 nv0 k0 E X loc stk V h n sl res hr hS hO ν σ H locs ls vs P
  obtain ⟨a, ha, hr⟩ := z_bdI hr
  obtain ⟨hk, hr⟩ := z_ifI hr
  obtain ⟨lv, h1, h2⟩ := P.2.2.2.2.2.1
  obtain ⟨v, -, hv⟩ := z_lkp_ok h2 ha
  obtain ⟨V', m1, s1, l1⟩ := z_pcs_ok (a := z_fm2 a) (ts := ts) (V := V) P.2.2.2.1 (z_num_wf hv hk)
  obtain ⟨q, g1, g2, g3⟩ := z_fan_ok hr m1
  exact hf D K β p l e R s m args below meth c Q σ0 ν0 nv0 k0 E X loc stk V' h n sl q g1 (fun st g => hS st (g2 st g)) (fun o g => hO o (g3 o g)) ν σ H locs ls vs (z_Pb P s1 l1)
theorem s_spe {i : Nat} (hf : z_sound S ms own mn cc nL pc f) : z_sound S ms own mn cc nL pc (h_spe i j ts f) := by
  intro D K β p l e R s m args below meth c Q σ0 ν0 nv0 k0 E X loc stk V h n sl res hr hS hO ν σ H locs ls vs P
  obtain ⟨cl, hc, hr⟩ := z_bdI hr
  obtain ⟨hk, hr⟩ := z_ifI hr
  obtain ⟨hk, hj⟩ := z_andI hk
  obtain ⟨q, hrd, hr⟩ := z_bdI hr
  obtain ⟨hq, hr⟩ := z_ifI hr
  have e1 : cl.1 % 100 = 1 := Nat.eq_of_beq_eq_true hk
  obtain ⟨hi, fr, hfr, hel⟩ := z_arI P.2.2.2.2.1 hc (Or.inl e1)
  obtain ⟨r, V1, l1⟩ := q
  obtain ⟨ν', g1, g2, g3, g4, g5⟩ := z_rdAI (j := j) P.2.2.2.1 hrd (by show (j : Int) = (j : Int) + 0; omega) (Nat.le_of_ble_eq_true hj) hel
  obtain ⟨p1, p2, p3, p4, p5, p6, p7, p8⟩ := P
  have P1 : z_P D K β s σ0 ν0 nv0 k0 nL loc stk V1 (z_s2 h i (cl.1, cl.2.1, l1)) n ν' σ H locs ls vs := ⟨fun i hi => (g1 i (Nat.lt_of_lt_of_le hi p2)).trans (p1 i hi), Nat.le_trans p2 g2, p3, g3, z_hm_re (z_hm_ext g1 g2 p5) hc hi rfl (Or.inr (Or.inl ⟨Or.inl e1, fr, hfr, g5⟩)), z_lm_ext g1 g2 p6, z_fm_mono (fun _ _ => z_mt_ext g1 g2) p7, p8⟩
  obtain ⟨V', m1, s1, len1⟩ := z_pcs_ok (a := z_fm2 r) (ts := ts) (V := V1) g3 (z_mt_i g4 hq).1
  obtain ⟨q, w1, w2, w3⟩ := z_fan_ok hr m1
  exact hf D K β p l e R s m args below meth c Q σ0 ν0 nv0 k0 E X loc stk V' _ n sl q w1 (fun st g => hS st (w2 st g)) (fun o g => hO o (w3 o g)) ν' σ H locs ls vs (z_Pb P1 s1 len1)
/-! a name in pieces; all inequalities anew (ghost names) -/
theorem s_spn {x : Nat} (hf : z_sound S ms own mn cc nL pc f) : z_sound S ms own mn cc nL pc (h_spn x ts f) := by
  intro D K β p l e R s m args below meth c Q σ0 ν0 nv0 k0 E X loc stk V h n sl res hr hS hO ν σ H locs ls vs P
  obtain ⟨hk, hr⟩ := z_ifI hr
  have hk := Nat.le_of_ble_eq_true hk
  obtain ⟨V', m1, s1, l1⟩ := z_pcs_ok (a := (0, [(1, x)])) (ts := ts) (V := V) P.2.2.2.1 (fun q hq => by
    rcases List.mem_cons.mp hq with rfl | hq
    · exact hk
    · cases hq)
  obtain ⟨q, g1, g2, g3⟩ := z_fan_ok hr m1
  exact hf D K β p l e R s m args below meth c Q σ0 ν0 nv0 k0 E X loc stk V' h n sl q g1 (fun st g => hS st (g2 st g)) (fun o g => hO o (g3 o g)) ν σ H locs ls vs (z_Pb P s1 l1)
theorem s_pall (hf : z_sound S ms own mn cc nL pc f) : z_sound S ms own mn cc nL pc (h_pall f) := by
  intro D K β p l e R s m args below meth c Q σ0 ν0 nv0 k0 E X loc stk V h n sl res hr hS hO ν σ H locs ls vs P
  obtain ⟨V', g1, g2, g3⟩ := z_pall_ok (gs := V.2.1) P.2.2.2.1 (fun g hg => (P.2.2.2.1.2.1 g hg).2)
  unfold h_pall at hr
  rw [g1] at hr
  exact hf D K β p l e R s m args below meth c Q σ0 ν0 nv0 k0 E X loc stk V' h n sl res hr hS hO ν σ H locs ls vs (z_Pb P g2 g3)
end SP
