/-- a value cut to what a row holds -/
def z_cv (lo hi : Int) (V : VS) (v : AV) : AV × VS := z_res 0 lo hi V (z_fm2 v)
def z_cv0 (V : VS) (v : AV) : AV × VS := (v, V)
def h_ast (kk t : Nat) (cv : VS → AV → AV × VS) (np : Nat) : ZH := fun _ loc stk V h n sl => z_bd (z_p1 stk) fun v => z_bd (z_p1 v.2) fun a => z_bd (z_p1 a.2) fun d => z_if (z_and (Nat.beq v.1.1 t) (z_and (z_isI a.1) (Nat.beq d.1.1 4))) (z_bd (z_g2 h d.1.2.1) fun c => z_if (z_and (Nat.beq c.1 kk) (z_inb V (z_fm2 a.1) c.2.1)) (z_bd (z_wrA t (cv V v.1).2 c.2.2 (z_fm2 a.1) (cv V v.1).1) fun r => some ([(np, loc, d.2, (cv V v.1).2, z_s2 h d.1.2.1 (kk, c.2.1, r), n, sl)], [])))
section LT
variable {S : List ZT} {ms : List ZM} {D : va_G} {K : Nat → ClassId} {β : ZB} {p : Program} {l : Launch} {e : Env} {R : Room} {s : State} {m : MethodId} {args : Array Value} {below : List Frame} {meth : Method} {c : Code} {Q : State → Prop} {σ0 : Nat → va_E} {ν0 : Nat → Int} {nv0 k0 nL : Nat} {E : ZE} {own mn : String} {cc : ByteArray} {loc : List (Nat × AV)} {stk : List AV} {V : VS} {h : T2 AC} {n sl : Nat} {res : List ZS × List ZO} {ν : Nat → Int} {σ : Nat → va_E} {H : Heap} {locs : List Loc} {ls : Array Slot} {vs : List Value} {pc np : Nat}
theorem z_ast {kk t : Nat} (h99 : kk < 99) {cv : VS → AV → AV × VS} (hr : h_ast kk t cv np E loc stk V h n sl = some res) (hS : ∀ st ∈ res.1, z_W D K β p l e R s m args below meth c Q σ0 ν0 nv0 k0 nL st) (P : z_P D K β s σ0 ν0 nv0 k0 nL loc stk V h n ν σ H locs ls vs) : ∃ (i : Nat) (x : Int32) (v : AV) (y : Value) (rest : List Value) (cl : AC) (ix : FM) (r : List AV), vs = y :: .int x :: .ref (β.1 + i) :: rest ∧ v.1 = t ∧ z_mt ν (z_len V.1) β v y ∧ z_g2 h i = some cl ∧ cl.1 = kk ∧ vp_in x cl.2.1 ∧ x.toNatClampNeg < cl.2.1 ∧ f_wf (z_len V.1) ix.2 ∧ (x.toNatClampNeg : Int) = f_evm ν ix ∧ z_wrA t (cv V v).2 cl.2.2 ix (cv V v).1 = some r ∧ i < n ∧ ∀ (ν' : Nat → Int) (e' : va_E) (H : Heap) (locs : List Loc), (∀ i, i < z_len V.1 → ν' i = ν i) → z_len V.1 ≤ z_len (cv V v).2.1 → z_sat ν' (cv V v).2 → z_mc ν' (z_len (cv V v).2.1) β K (kk, cl.2.1, r) e' → hw D β.1 n (va_up σ i e') s H locs → W p l e R s m args below meth c H locs (n - k0) sl Q (F0 m np ls rest) := by
  obtain ⟨v, hv, hr⟩ := z_bdI hr
  obtain ⟨a, ha, hr⟩ := z_bdI hr
  obtain ⟨g, hg, hr⟩ := z_bdI hr
  obtain ⟨hk, hr⟩ := z_ifI hr
  obtain ⟨hkv, hk⟩ := z_andI hk
  obtain ⟨hka, hkg⟩ := z_andI hk
  obtain ⟨cl, hc, hr⟩ := z_bdI hr
  obtain ⟨hk2, hr⟩ := z_ifI hr
  obtain ⟨hk2, hin⟩ := z_andI hk2
  obtain ⟨r, hwr, hr⟩ := z_bdI hr
  cases hr
  obtain ⟨p1, p2, p3, p4, p5, p6, p7, p8⟩ := P
  rw [z_p1I hv, z_p1I ha, z_p1I hg] at p7
  obtain ⟨y, r0, rfl, q1, q2⟩ := z_fm_cons p7
  obtain ⟨vx, r1, rfl, q3, q4⟩ := z_fm_cons q2
  obtain ⟨vr, rest, rfl, q5, q6⟩ := z_fm_cons q4
  obtain ⟨wx, x, rfl, hx⟩ := z_mt_i q3 hka
  obtain rfl := z_mt_r q5 hkg
  obtain ⟨b1, b2, b3⟩ := z_inbI p4 hin hx
  have hk2 := Nat.eq_of_beq_eq_true hk2
  have hlt : g.1.2.1 < n := by
    rcases (p5 _ _ hc).2 with e9 | e9
    · omega
    · exact e9.1
  exact ⟨g.1.2.1, x, v.1, y, rest, cl, z_fm2 a.1, r, rfl, Nat.eq_of_beq_eq_true hkv, q1, hc, hk2, b1, b3, wx, b2, hwr, hlt, fun ν' e' H locs e1 e2 e3 hm hH => hS _ List.mem_cons_self ν' _ H locs ls rest ⟨fun i hi => (e1 i (Nat.lt_of_lt_of_le hi p2)).trans (p1 i hi), Nat.le_trans p2 e2, p3, e3, z_hm_set (z_hm_ext e1 e2 p5) hc hlt h99 hm, z_lm_ext e1 e2 p6, z_fm_mono (fun _ _ => z_mt_ext e1 e2) q6, hH⟩⟩
theorem s_iastore (d : decode cc pc = .ok (.iastore, 1)) (hn : pc + 1 = np) : z_sound S ms own mn cc nL pc (h_ast 1 0 z_cv0 np) := by
  subst hn
  intro D K β p l e R s m args below meth c Q σ0 ν0 nv0 k0 E X loc stk V h n sl res hr hS hO ν σ H locs ls vs P
  obtain ⟨i, x, v, y, rest, cl, ix, r, rfl, hk, hm, hc, e1, h1, h2, hwf, h3, h6, hi, kk⟩ := z_ast (by omega) hr hS P
  obtain ⟨-, y, rfl, -⟩ := z_mt_i hm (by unfold z_isI; rw [hk]; rfl)
  obtain ⟨-, f, hf, hel⟩ := z_arI P.2.2.2.2.1 hc (Or.inl (by rw [e1]))
  rw [e1] at hf
  exact hp_iast X.1 P.2.2.2.2.2.2.2 i hi hf h1 d (fun H locs hH => kk ν _ H locs (fun _ _ => rfl) (Nat.le_refl _) P.2.2.2.1 (Or.inr (Or.inl ⟨Or.inl rfl, _, rfl, z_wrAI P.2.2.2.1 h6 h3 h2 hel hm hk⟩)) hH)
theorem s_lastore (d : decode cc pc = .ok (.lastore, 1)) (hn : pc + 1 = np) : z_sound S ms own mn cc nL pc (h_ast 3 2 z_cv0 np) := by
  subst hn
  intro D K β p l e R s m args below meth c Q σ0 ν0 nv0 k0 E X loc stk V h n sl res hr hS hO ν σ H locs ls vs P
  obtain ⟨i, x, v, y, rest, cl, ix, r, rfl, hk, hm, hc, e1, h1, h2, hwf, h3, h6, hi, kk⟩ := z_ast (by omega) hr hS P
  obtain ⟨-, y, rfl, -⟩ := z_mt_l hm (by unfold z_isL; rw [hk]; rfl)
  obtain ⟨-, f, hf, hel⟩ := z_arL P.2.2.2.2.1 hc (by rw [e1])
  exact hp_last X.1 P.2.2.2.2.2.2.2 i hi hf h1 d (fun H locs hH => kk ν _ H locs (fun _ _ => rfl) (Nat.le_refl _) P.2.2.2.1 (Or.inr (Or.inr (Or.inl ⟨rfl, _, rfl, z_wrAL P.2.2.2.1 h6 h3 h2 hel hm hk⟩))) hH)
theorem z_b1 (x : Int32) : (0 : Int) ≤ (vp_nar .boolean x).toInt ∧ (vp_nar .boolean x).toInt ≤ 1 ∧ ((0 : Int) ≤ x.toInt → x.toInt ≤ 1 → (vp_nar .boolean x).toInt = x.toInt) := by
  have e : vp_nar .boolean x = x &&& 1 := rfl
  rw [e]
  have := and_nn (x := x) (y := 1) (by decide)
  refine ⟨this.1, by have := this.2; exact this, fun h1 h2 => ?_⟩
  have : x = 0 ∨ x = 1 := by
    rcases (show x.toInt = 0 ∨ x.toInt = 1 by omega) with g | g
    · exact Or.inl (i_eq.mpr g)
    · exact Or.inr (i_eq.mpr g)
  rcases this with rfl | rfl <;> rfl
theorem s_bastore (d : decode cc pc = .ok (.bastore, 1)) (hn : pc + 1 = np) : z_sound S ms own mn cc nL pc (h_ast 2 0 (z_cv (-128) 127) np) := by
  subst hn
  intro D K β p l e R s m args below meth c Q σ0 ν0 nv0 k0 E X loc stk V h n sl res hr hS hO ν σ H locs ls vs P
  obtain ⟨i, x, v, y, rest, cl, ix, r, rfl, hk, hm, hc, e1, h1, h2, hwf, h3, h6, hi, kk⟩ := z_ast (by omega) hr hS P
  obtain ⟨wy, y, rfl, hy⟩ := z_mt_i hm (by unfold z_isI; rw [hk]; rfl)
  obtain ⟨-, f, hf, hel⟩ := z_arI P.2.2.2.2.1 hc (Or.inr (Or.inl (by rw [e1])))
  rw [e1] at hf
  obtain ⟨f1, f2, f3⟩ := z_i8 y
  obtain ⟨ν', g1, g2, g3, g4⟩ := z_resI (β := β) (V := V) (r := z_fm2 v) (x := vp_nar .byte y) (lo := (-128)) (hi := 127) P.2.2.2.1 wy f1 f2 (fun a1 a2 => by rw [← hy] at a1 a2 ⊢; exact f3 a1 a2)
  have ht : (z_cv (-128) 127 V v).1.1 = 0 := by
    unfold z_cv z_res
    cases z_inR V (z_fm2 v) (-128) 127 with
    | true => rfl
    | false => unfold z_fr; cases z_le _ _ <;> rfl
  exact hp_bast X.1 P.2.2.2.2.2.2.2 i hi hf h1 d (fun H locs hH => kk ν' _ H locs g1 g2 g3 (Or.inr (Or.inl ⟨Or.inr (Or.inl rfl), _, rfl, z_wrAI g3 h6 (by rw [h3]; show ix.1 + f_ev ν ix.2 = ix.1 + f_ev ν' ix.2; rw [f_ev_ext g1 hwf]) h2 (fun j hj => by obtain ⟨a, a1, a2⟩ := hel j hj; exact ⟨a, a1, z_mt_ext g1 g2 a2⟩) g4 ht⟩)) hH)
theorem s_zastore (d : decode cc pc = .ok (.bastore, 1)) (hn : pc + 1 = np) : z_sound S ms own mn cc nL pc (h_ast 4 0 (z_cv 0 1) np) := by
  subst hn
  intro D K β p l e R s m args below meth c Q σ0 ν0 nv0 k0 E X loc stk V h n sl res hr hS hO ν σ H locs ls vs P
  obtain ⟨i, x, v, y, rest, cl, ix, r, rfl, hk, hm, hc, e1, h1, h2, hwf, h3, h6, hi, kk⟩ := z_ast (by omega) hr hS P
  obtain ⟨wy, y, rfl, hy⟩ := z_mt_i hm (by unfold z_isI; rw [hk]; rfl)
  obtain ⟨-, f, hf, hel⟩ := z_arI P.2.2.2.2.1 hc (Or.inr (Or.inr (by rw [e1])))
  rw [e1] at hf
  obtain ⟨f1, f2, f3⟩ := z_b1 y
  obtain ⟨ν', g1, g2, g3, g4⟩ := z_resI (β := β) (V := V) (r := z_fm2 v) (x := vp_nar .boolean y) (lo := 0) (hi := 1) P.2.2.2.1 wy f1 f2 (fun a1 a2 => by rw [← hy] at a1 a2 ⊢; exact f3 a1 a2)
  have ht : (z_cv 0 1 V v).1.1 = 0 := by
    unfold z_cv z_res
    cases z_inR V (z_fm2 v) 0 1 with
    | true => rfl
    | false => unfold z_fr; cases z_le _ _ <;> rfl
  exact hp_zast X.1 P.2.2.2.2.2.2.2 i hi hf h1 d (fun H locs hH => kk ν' _ H locs g1 g2 g3 (Or.inr (Or.inl ⟨Or.inr (Or.inr rfl), _, rfl, z_wrAI g3 h6 (by rw [h3]; show ix.1 + f_ev ν ix.2 = ix.1 + f_ev ν' ix.2; rw [f_ev_ext g1 hwf]) h2 (fun j hj => by obtain ⟨a, a1, a2⟩ := hel j hj; exact ⟨a, a1, z_mt_ext g1 g2 a2⟩) g4 ht⟩)) hH)
end LT
def z_rng (V : VS) (a : FM) (f : Nat → VS → List ZS → List ZS) : Nat → Nat → List ZS → List ZS
  | 0, _, r => r
  | c + 1, k, r => match z_eq V a (Int.ofNat k, []) with
    | some V' => f k V' (z_rng V a f c (Nat.succ k) r)
    | none => z_rng V a f c (Nat.succ k) r
theorem z_rng_in {V V' : VS} {a : FM} {f : Nat → VS → List ZS → List ZS} {st : ZS} (hf : ∀ k V r, st ∈ r → st ∈ f k V r) {c k j : Nat} {r : List ZS} (h1 : k ≤ j) (h2 : j < k + c) (hV : z_eq V a (Int.ofNat j, []) = some V') (hst : ∀ r, st ∈ f j V' r) : st ∈ z_rng V a f c k r := by
  induction c generalizing k with
  | zero => omega
  | succ c ih =>
    unfold z_rng
    by_cases e : k = j
    · subst e
      rw [hV]
      exact hst _
    · have := ih (k := Nat.succ k) (by omega) (by omega)
      cases hR : z_eq V a (Int.ofNat k, []) with
      | none => exact this
      | some W => exact hf _ _ _ this
def z_el (np : Nat) (loc : List (Nat × AV)) (stk : List AV) (h : T2 AC) (n sl : Nat) (l : List AV) : Nat → VS → List ZS → List ZS := fun k V r => match z_nth l k with
  | some v => (np, loc, v :: stk, V, h, n, sl) :: r
  | none => r
def z_all4 : List AV → Bool
  | [] => true
  | a :: l => z_and (Nat.beq a.1 4) (z_all4 l)
theorem z_all4I {l : List AV} (h : z_all4 l = true) {j : Nat} {a : AV} (ha : z_nth l j = some a) : Nat.beq a.1 4 = true := by
  induction l generalizing j with
  | nil => cases ha
  | cons d l ih =>
    obtain ⟨h1, h2⟩ := z_andI h
    cases j with
    | zero => cases ha; exact h1
    | succ j => exact ih h2 ha
def h_aald (kk np : Nat) : ZH := fun _ loc stk V h n sl => z_bd (z_p1 stk) fun a => z_bd (z_p1 a.2) fun d => z_if (z_and (z_isI a.1) (Nat.beq d.1.1 4)) (z_bd (z_g2 h d.1.2.1) fun c => z_if (z_and (Nat.beq (Nat.mod c.1 100) kk) (z_and (Nat.beq (z_len c.2.2) c.2.1) (z_and (Nat.ble 2 c.2.1) (z_and (z_all4 c.2.2) (z_inb V (z_fm2 a.1) c.2.1))))) (some (z_rng V (z_fm2 a.1) (z_el np loc d.2 h n sl c.2.2) c.2.1 0 [], [])))
section LR
variable {S : List ZT} {ms : List ZM} {D : va_G} {K : Nat → ClassId} {β : ZB} {p : Program} {l : Launch} {e : Env} {R : Room} {s : State} {m : MethodId} {args : Array Value} {below : List Frame} {meth : Method} {c : Code} {Q : State → Prop} {σ0 : Nat → va_E} {ν0 : Nat → Int} {nv0 k0 nL : Nat} {E : ZE} {own mn : String} {cc : ByteArray} {loc : List (Nat × AV)} {stk : List AV} {V : VS} {h : T2 AC} {n sl : Nat} {res : List ZS × List ZO} {ν : Nat → Int} {σ : Nat → va_E} {H : Heap} {locs : List Loc} {ls : Array Slot} {vs : List Value} {pc np : Nat}
theorem s_aaload {kk : Nat} {C : String} (h56 : kk = 5 ∨ kk = 6) (ht : ∀ K : Nat → ClassId, (ty6 K)[kk - 1]? = some (K (kk - 1), .object C)) (d : decode cc pc = .ok (.aaload, 1)) (hn : pc + 1 = np) : z_sound S ms own mn cc nL pc (h_aald kk np) := by
  subst hn
  intro D K β p l e R s m args below meth c Q σ0 ν0 nv0 k0 E X loc stk V h n sl res hr hS hO ν σ H locs ls vs P
  obtain ⟨a, ha, hr⟩ := z_bdI hr
  obtain ⟨g, hg, hr⟩ := z_bdI hr
  obtain ⟨hk, hr⟩ := z_ifI hr
  obtain ⟨hka, hkg⟩ := z_andI hk
  obtain ⟨cl, hc, hr⟩ := z_bdI hr
  obtain ⟨hk2, hr⟩ := z_ifI hr
  obtain ⟨hk2, hk3⟩ := z_andI hk2
  obtain ⟨hk3, hk4⟩ := z_andI hk3
  obtain ⟨hk4, hk5⟩ := z_andI hk4
  obtain ⟨hk5, hin⟩ := z_andI hk5
  cases hr
  have e1 : cl.1 % 100 = kk := Nat.eq_of_beq_eq_true hk2
  have e2 := Nat.eq_of_beq_eq_true hk3
  have e3 := Nat.le_of_ble_eq_true hk4
  have p7 := P.2.2.2.2.2.2.1
  rw [show stk = _ from z_p1I ha, z_p1I hg] at p7
  obtain ⟨vx, r1, rfl, q1, q2⟩ := z_fm_cons p7
  obtain ⟨vr, rest, rfl, q3, q4⟩ := z_fm_cons q2
  obtain ⟨wx, x, rfl, hx⟩ := z_mt_i q1 hka
  obtain rfl := z_mt_r q3 hkg
  obtain ⟨b1, b2, b3⟩ := z_inbI P.2.2.2.1 hin hx
  obtain ⟨hi, f, hf, hel⟩ := z_arR P.2.2.2.2.1 hc (by rw [e1]; exact h56)
  obtain ⟨w, hw', hm⟩ := hel _ b3
  rw [z_at2 (by rw [e2]; exact e3)] at hw'
  have hw4 := z_all4I hk5 hw'
  obtain ⟨y, hy⟩ : ∃ y, f x.toNatClampNeg = some y := by
    cases hfy : f x.toNatClampNeg with
    | some y => exact ⟨y, rfl⟩
    | none => rw [hfy] at hm; have := z_mt_r hm hw4; cases this
  obtain ⟨V', v1, v2, v3⟩ := z_eq_ok (x := z_fm2 a.1) (y := (Int.ofNat x.toNatClampNeg, [])) P.2.2.2.1 wx f_wf0 (by rw [← b2]; show _ = (x.toNatClampNeg : Int) + 0; omega)
  rw [hy] at hm
  refine hp_aald (kk - 1) X.1 P.2.2.2.2.2.2.2 g.1.2.1 hi (by rw [e1] at hf; exact hf) (ht K) b1 hy d (hS (pc + 1, loc, w :: g.2, V', h, n, sl) ?_ ν σ H locs ls _ (z_Pb (z_Pk P ⟨hm, q4⟩) v2 v3))
  refine z_rng_in (j := x.toNatClampNeg) (fun k W r hr => ?_) (Nat.zero_le _) (by omega) v1 (fun r => ?_)
  · unfold z_el
    cases z_nth cl.2.2 k with
    | none => exact hr
    | some v => exact List.mem_cons_of_mem _ hr
  · unfold z_el
    rw [hw']
    exact List.mem_cons_self
end LR
