/-! rests: of acts by 100, of longs either way; a long off the stack; chars -/
def z_ract (V : VS) (d a : AV) : Option (Int × Int) := match z_and (z_isI d) (z_isI a) with
  | false => none
  | true => match a.2.2.2.2 with
    | _ :: _ => none
    | [] => match z_and (z_eq0 (Int.add a.2.2.1 (-100))) (z_eq0 d.2.2.1) with
      | false => none
      | true => match d.2.2.2.2 with
        | [q] => match z_and (z_eq0 (Int.add q.1 (-1))) (z_elem q.2 V.2.2) with
          | false => none
          | true => z_bd (z_nth V.1 q.2) fun b => match z_le b.2 9999 with
            | true => some (0, 5)
            | false => some (0, 15)
        | _ => none
def h_rem100 (np : Nat) : ZH := fun E loc stk V h n sl => z_bd (z_p1 stk) fun a => z_bd (z_p1 a.2) fun d => match z_ract V d.1 a.1 with
  | some w => z_push 0 np loc d.2 (z_fr 0 V w) h n sl
  | none => h_bin (g_div (fun x y => x - x / y * y) g_rem) np E loc stk V h n sl
theorem z_ract_ok {ν : Nat → Int} {β : ZB} {V : VS} {d a : AV} {w : Int × Int} {x y : Int32} (hs : z_sat ν V) (h : z_ract V d a = some w) (hd : z_mt ν (z_len V.1) β d (.int x)) (ha : z_mt ν (z_len V.1) β a (.int y)) : y.toInt = 100 ∧ w.1 ≤ (x - x / y * y).toInt ∧ (x - x / y * y).toInt ≤ w.2 := by
  unfold z_ract at h
  cases h1 : z_and (z_isI d) (z_isI a) with
  | false => rw [h1] at h; cases h
  | true =>
    rw [h1] at h
    obtain ⟨k1, k2⟩ := z_andI h1
    obtain ⟨-, x', e1, hx⟩ := z_mt_i hd k1
    cases e1
    obtain ⟨-, y', e2, hy⟩ := z_mt_i ha k2
    cases e2
    simp only at h
    cases hal : a.2.2.2.2 with
    | cons q l => rw [hal] at h; cases h
    | nil =>
      rw [hal] at h
      simp only at h
      cases h2 : z_and (z_eq0 (Int.add a.2.2.1 (-100))) (z_eq0 d.2.2.1) with
      | false => rw [h2] at h; cases h
      | true =>
        rw [h2] at h
        obtain ⟨c1, c2⟩ := z_andI h2
        have c1 : a.2.2.1 + -100 = 0 := z_eq0I c1
        have c2 : d.2.2.1 = 0 := z_eq0I c2
        simp only at h
        match hdl : d.2.2.2.2, h with
        | [], h => cases h
        | _ :: _ :: _, h => cases h
        | [q], h =>
          simp only at h
          cases h3 : z_and (z_eq0 (Int.add q.1 (-1))) (z_elem q.2 V.2.2) with
          | false => rw [h3] at h; cases h
          | true =>
            rw [h3] at h
            obtain ⟨c3, c4⟩ := z_andI h3
            have c3 : q.1 + -1 = 0 := z_eq0I c3
            obtain ⟨b, hb, h⟩ := z_bdI h
            have hbb := hs.1 _ _ hb
            have hact := (hs.2.2 _ (z_elemI c4)).2
            have ey : y.toInt = 100 := by
              rw [hy]
              show a.2.2.1 + f_ev ν a.2.2.2.2 = 100
              rw [hal]
              show a.2.2.1 + 0 = 100
              omega
            have ex : x.toInt = ν q.2 := by
              rw [hx]
              show d.2.2.1 + f_ev ν d.2.2.2.2 = ν q.2
              rw [hdl]
              show d.2.2.1 + (q.1 * ν q.2 + 0) = ν q.2
              rw [c2, show q.1 = 1 by omega]
              omega
            unfold z_act at hact
            have er := q_rem (x := x) (y := y) (by omega) (by omega)
            rw [er, ey, ex]
            refine ⟨rfl, ?_⟩
            cases h4 : z_le b.2 9999 with
            | true =>
              rw [h4] at h
              cases h
              have := z_le_iff.mp h4
              show (0 : Int) ≤ ν q.2 % 100 ∧ ν q.2 % 100 ≤ 5
              omega
            | false =>
              rw [h4] at h
              cases h
              show (0 : Int) ≤ ν q.2 % 100 ∧ ν q.2 % 100 ≤ 15
              omega
/-- the rest of two longs -/
theorem q_remG {x y : Int64} : (x - x / y * y).toInt = x.toInt.tmod y.toInt := by
  rw [Int64.toInt_sub, Int64.toInt_mul, Int64.toInt_div, Int.bmod_mul_bmod, Int.sub_bmod_bmod]
  have e := Int.mul_tdiv_add_tmod x.toInt y.toInt
  rw [show x.toInt - x.toInt.tdiv y.toInt * y.toInt = x.toInt.tmod y.toInt by rw [Int.mul_comm]; omega]
  have h1 := x.le_toInt
  have h2 := x.toInt_lt
  by_cases hx : 0 ≤ x.toInt
  · have a1 := Int.tmod_nonneg y.toInt hx
    have a2 := Int.natAbs_tmod x.toInt y.toInt
    have a3 := Nat.mod_le x.toInt.natAbs y.toInt.natAbs
    exact bmodL_id (by omega) (by omega)
  · have e3 : x.toInt.tmod y.toInt = -((-x.toInt).tmod y.toInt) := by rw [Int.neg_tmod, Int.neg_neg]
    have a1 := Int.tmod_nonneg y.toInt (a := -x.toInt) (by omega)
    have a2 := Int.natAbs_tmod (-x.toInt) y.toInt
    have a3 := Nat.mod_le (-x.toInt).natAbs y.toInt.natAbs
    exact bmodL_id (by omega) (by omega)
theorem z_gremL {i j : Int × Int} {x y : Int64} {w : Int × Int} (h1 : i.1 ≤ x.toInt) (h2 : x.toInt ≤ i.2) (h3 : j.1 ≤ y.toInt) (h4 : y.toInt ≤ j.2) (h : gL_rem i j = some w) : w.1 ≤ (x - x / y * y).toInt ∧ (x - x / y * y).toInt ≤ w.2 := gL_rem_ok x y i j w h1 h2 h3 h4 h
/-- a rest of longs is smaller than the divisor, either way -/
def z_lrG (x : Nat) (b : FM) : List FM → List FM := fun gs => f_add (1, [(1, x)]) (f_sc (-1) b) :: f_add (1, [(-1, x)]) (f_sc (-1) b) :: gs
def z_lrV (V : VS) (w : Int × Int) (b : FM) : AV × VS := (z_var 2 (z_len V.1), (z_app V.1 [(w.1, w.2)], z_lrG (z_len V.1) b V.2.1, V.2.2))
def h_lremR (np : Nat) : ZH := fun E loc stk V h n sl => z_bd (z_p1 stk) fun a => z_bd (z_p1 a.2) fun d => z_if (z_and (z_isL a.1) (z_isL d.1)) (z_bd (f_bd V (z_fm2 d.1)) fun i => z_bd (f_bd V (z_fm2 a.1)) fun j => z_if (z_n0 j) (z_bd (gL_rem i j) fun w => match z_and (z_le 0 i.1) (z_and (z_le 1 j.1) (z_one j)) with
  | true => z_push 2 np loc d.2 (z_fr 2 V w) h n sl
  | false => match z_le 1 j.1 with
    | true => z_push 2 np loc d.2 (z_lrV V w (z_fm2 a.1)) h n sl
    | false => z_push 2 np loc d.2 (z_lrV V w (f_sc (-1) (z_fm2 a.1))) h n sl))
theorem z_lrV_ok {ν : Nat → Int} {β : ZB} {V : VS} {w : Int × Int} {b : FM} {r : Int64} (hs : z_sat ν V) (hw : f_wf (z_len V.1) b.2) (h1 : w.1 ≤ r.toInt) (h2 : r.toInt ≤ w.2) (h3 : r.toInt + 1 ≤ f_evm ν b) (h4 : -r.toInt + 1 ≤ f_evm ν b) : z_gv ν β V (z_lrV V w b) (.long r) := by
  obtain ⟨ν', e1, e2, e3⟩ := z_addv_ok hs h1 h2
  have hl : z_len (z_lrV V w b).2.1 = z_len V.1 + 1 := z_addv_len
  have eb : f_evm ν' b = f_evm ν b := by
    show b.1 + f_ev ν' b.2 = b.1 + f_ev ν b.2
    rw [f_ev_ext e1 hw]
  have wx : ∀ c : Int, f_wf (z_len V.1 + 1) ([(c, z_len V.1)] : FL) := fun c q hq => by rw [List.mem_singleton.mp hq]; exact Nat.lt_succ_self _
  refine ⟨ν', e1, by rw [hl]; omega, ⟨e3.1, fun g hg => ?_, e3.2.2⟩, Or.inr (Or.inr (Or.inl ⟨rfl, z_var_wf (by rw [hl]; omega), r, rfl, by rw [show (z_lrV V w b).1 = z_var 2 (z_len V.1) from rfl, z_var_ev, e2]⟩))⟩
  have hg : g ∈ f_add (1, [(1, z_len V.1)]) (f_sc (-1) b) :: f_add (1, [(-1, z_len V.1)]) (f_sc (-1) b) :: V.2.1 := hg
  show f_wf (z_len (z_lrV V w b).2.1) g.2 ∧ f_evm ν' g ≤ 0
  rw [hl]
  rcases List.mem_cons.mp hg with rfl | hg
  · refine ⟨f_wf_add (wx 1) (f_wf_sc (f_wf_mono (by omega) hw)), ?_⟩
    rw [f_add_ev, f_sc_ev, eb]
    show (1 : Int) + (1 * ν' (z_len V.1) + 0) + -1 * f_evm ν b ≤ 0
    rw [e2]
    omega
  · rcases List.mem_cons.mp hg with rfl | hg
    · refine ⟨f_wf_add (wx (-1)) (f_wf_sc (f_wf_mono (by omega) hw)), ?_⟩
      rw [f_add_ev, f_sc_ev, eb]
      show (1 : Int) + (-1 * ν' (z_len V.1) + 0) + -1 * f_evm ν b ≤ 0
      rw [e2]
      omega
    · have q := e3.2.1 g hg
      rw [← z_addv_len (V := V) (lo := w.1) (hi := w.2)]
      exact q
def h_pop2 (np : Nat) : ZH := fun _ loc stk V h n sl => z_bd (z_p1 stk) fun a => z_if (z_lg a.1) (some ([(np, loc, a.2, V, h, n, sl)], []))
section RM
variable {S : List ZT} {ms : List ZM} {own mn : String} {cc : ByteArray} {nL pc np : Nat}
theorem s_rem100 (d : decode cc pc = .ok (.irem, 1)) (hn : pc + 1 = np) : z_sound S ms own mn cc nL pc (h_rem100 np) := by
  have dd := d
  have hh := hn
  subst hn
  intro D K β p l e R s m args below meth c Q σ0 ν0 nv0 k0 E X loc stk V h n sl res hr hS hO ν σ H locs ls vs P
  have hr0 := hr
  obtain ⟨a, ha, hr⟩ := z_bdI hr
  obtain ⟨g, hg, hr⟩ := z_bdI hr
  cases hw : z_ract V g.1 a.1 with
  | none =>
    rw [hw] at hr
    exact s_irem g_rem_ok dd hh D K β p l e R s m args below meth c Q σ0 ν0 nv0 k0 E X loc stk V h n sl res hr hS hO ν σ H locs ls vs P
  | some w =>
    rw [hw] at hr
    have hk : z_and (z_isI a.1) (z_isI g.1) = true := by
      unfold z_ract at hw
      cases h1 : z_and (z_isI g.1) (z_isI a.1) with
      | false => rw [h1] at hw; cases hw
      | true => obtain ⟨k1, k2⟩ := z_andI h1; rw [k1, k2]; rfl
    obtain ⟨x, y, rest, rfl, wx, wy, hx, hy, q4⟩ := z_two P ha hg hk
    have p7 := P.2.2.2.2.2.2.1
    rw [z_p1I ha, z_p1I hg] at p7
    obtain ⟨vx, r1, e1, q1, q2⟩ := z_fm_cons p7
    cases e1
    obtain ⟨vr, r2, e2, q3, -⟩ := z_fm_cons q2
    cases e2
    have hz := z_ract_ok P.2.2.2.1 hw q3 q1
    have hne : ¬ y = 0 := fun e => by have := hz.1; rw [e] at this; exact absurd this (by decide)
    exact lv_irem X.1.1 X.1.2.1 dd hne (z_pushI hr hS P q4 (z_frI P.2.2.2.1 hz.2.1 hz.2.2))
theorem s_lremR (d : decode cc pc = .ok (.lrem, 1)) (hn : pc + 1 = np) : z_sound S ms own mn cc nL pc (h_lremR np) := by
  subst hn
  intro D K β p l e R s m args below meth c Q σ0 ν0 nv0 k0 E X loc stk V h n sl res hr hS hO ν σ H locs ls vs P
  obtain ⟨a, ha, hr⟩ := z_bdI hr
  obtain ⟨g, hg, hr⟩ := z_bdI hr
  obtain ⟨hk, hr⟩ := z_ifI hr
  obtain ⟨i, hi, hr⟩ := z_bdI hr
  obtain ⟨j, hj, hr⟩ := z_bdI hr
  obtain ⟨h0, hr⟩ := z_ifI hr
  obtain ⟨w, hw', hr⟩ := z_bdI hr
  obtain ⟨x, y, rest, rfl, wx, wy, hx, hy, q4⟩ := z_twoL P ha hg hk
  have bx := f_bd_ok P.2.2.2.1 hi
  have by' := f_bd_ok P.2.2.2.1 hj
  rw [← hx] at bx
  rw [← hy] at by'
  have hz := z_gremL bx.1 bx.2 by'.1 by'.2 hw'
  have hy0 : y.toInt ≠ 0 := z_n0I h0 by'.1 by'.2
  have hne : ¬ y = 0 := fun e => by rw [e] at hy0; exact hy0 (by decide)
  refine lv_lrem X.1.1 X.1.2.1 d hne ?_
  cases hc : z_and (z_le 0 i.1) (z_and (z_le 1 j.1) (z_one j)) with
  | true =>
    rw [hc] at hr
    exact z_pushI hr hS P q4 (z_frL P.2.2.2.1 hz.1 hz.2)
  | false =>
    rw [hc] at hr
    simp only at hr
    have er := q_remG (x := x) (y := y)
    have ab := Int.natAbs_tmod x.toInt y.toInt
    have al := Nat.mod_lt x.toInt.natAbs (y := y.toInt.natAbs) (by omega)
    cases hp : z_le 1 j.1 with
    | true =>
      rw [hp] at hr
      have := z_le_iff.mp hp
      exact z_pushI hr hS P q4 (z_lrV_ok P.2.2.2.1 wy hz.1 hz.2 (by rw [er, ← hy]; omega) (by rw [er, ← hy]; omega))
    | false =>
      rw [hp] at hr
      have hneg : y.toInt ≤ -1 := by
        unfold z_n0 at h0
        rw [hp] at h0
        have := z_le_iff.mp h0
        omega
      exact z_pushI hr hS P q4 (z_lrV_ok P.2.2.2.1 (f_wf_sc wy) hz.1 hz.2 (by rw [er, f_sc_ev, ← hy]; omega) (by rw [er, f_sc_ev, ← hy]; omega))
theorem s_pop2 (d : decode cc pc = .ok (.pop2, 1)) (hn : pc + 1 = np) : z_sound S ms own mn cc nL pc (h_pop2 np) := by
  subst hn
  intro D K β p l e R s m args below meth c Q σ0 ν0 nv0 k0 E X loc stk V h n sl res hr hS hO ν σ H locs ls vs P
  obtain ⟨a, ha, hr⟩ := z_bdI hr
  obtain ⟨hk, hr⟩ := z_ifI hr
  cases hr
  have p7 := P.2.2.2.2.2.2.1
  rw [show stk = _ from z_p1I ha] at p7
  obtain ⟨vx, rest, rfl, q1, q2⟩ := z_fm_cons p7
  exact lv_pop2_2 X.1.1 X.1.2.1 d (z_c2 q1 hk) (hS _ List.mem_cons_self ν σ H locs ls rest (z_Pk P q2))
theorem s_i2c (d : decode cc pc = .ok (.i2c, 1)) (hn : pc + 1 = np) : z_sound S ms own mn cc nL pc (h_cut 0 65535 np) := by
  subst hn
  intro D K β p l e R s m args below meth c Q σ0 ν0 nv0 k0 E X loc stk V h n sl res hr hS hO ν σ H locs ls vs P
  obtain ⟨x, rest, rfl, kk⟩ := z_cut z_i2c hr hS P
  exact lv_i2c X.1.1 X.1.2.1 d rfl kk
end RM
