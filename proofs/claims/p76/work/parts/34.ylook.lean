/-! the switch by two numbers -/
def h_look2 (k1 k2 : Int) (t1 t2 df : Nat) : ZH := fun _ loc stk V h n sl => z_bd (z_p1 stk) fun a => z_if (z_isI a.1) (some (z_o1 (z_eq V (z_fm2 a.1) (k1, [])) t1 loc a.2 h n sl (z_o1 (z_eq V (z_fm2 a.1) (k2, [])) t2 loc a.2 h n sl [(df, loc, a.2, V, h, n, sl)]), []))
section LU
variable {S : List ZT} {ms : List ZM} {own mn : String} {cc : ByteArray} {nL pc : Nat}
theorem s_look2 {len t1 t2 df : Nat} {dfo k1 k2 o1 o2 : Int} (d : decode cc pc = .ok (.lookupswitch dfo #[(k1, o1), (k2, o2)], len)) (hk : k1 < k2) (hd : (pc : Int) + dfo = (df : Int)) (h1 : (pc : Int) + o1 = (t1 : Int)) (h2 : (pc : Int) + o2 = (t2 : Int)) : z_sound S ms own mn cc nL pc (h_look2 k1 k2 t1 t2 df) := by
  intro D K β p l e R s m args below meth c Q σ0 ν0 nv0 k0 E X loc stk V h n sl res hr hS hO ν σ H locs ls vs P
  obtain ⟨a, ha, hr⟩ := z_bdI hr
  obtain ⟨hka, hr⟩ := z_ifI hr
  cases hr
  have p7 := P.2.2.2.2.2.2.1
  rw [show stk = _ from z_p1I ha] at p7
  obtain ⟨vx, rest, rfl, q1, q2⟩ := z_fm_cons p7
  obtain ⟨wx, x, rfl, hx⟩ := z_mt_i q1 hka
  have ev : ∀ k : Int, f_evm ν ((k, []) : FM) = k := fun k => by show k + 0 = k; omega
  have hp : (([(k1, o1), (k2, o2)] : List (Int × Int)).zip (([(k1, o1), (k2, o2)] : List (Int × Int)).drop 1)).all (fun (a, next) => a.1 < next.1) = true := by simp [hk]
  by_cases c1 : x.toInt = k1
  · obtain ⟨V', e1, e2, e3⟩ := z_eq_ok (x := z_fm2 a.1) (y := (k1, [])) P.2.2.2.1 wx f_wf0 (by rw [← hx, ev]; exact c1)
    refine lv_lookup X.1.1 X.1.2.1 d hp (off := o1) (by simp [Op.lookupswitch.offset, c1]) h1 (hS (t1, loc, a.2, V', h, n, sl) ?_ ν σ H locs ls rest (z_Pb (z_Pk P q2) e2 e3))
    show _ ∈ z_o1 _ _ _ _ _ _ _ _
    rw [e1]
    exact List.mem_cons_self
  · by_cases c2 : x.toInt = k2
    · obtain ⟨V', e1, e2, e3⟩ := z_eq_ok (x := z_fm2 a.1) (y := (k2, [])) P.2.2.2.1 wx f_wf0 (by rw [← hx, ev]; exact c2)
      refine lv_lookup X.1.1 X.1.2.1 d hp (off := o2) (by have : ¬ k1 = k2 := by omega
                                                          simp [Op.lookupswitch.offset, c2, this]) h2 (hS (t2, loc, a.2, V', h, n, sl) ?_ ν σ H locs ls rest (z_Pb (z_Pk P q2) e2 e3))
      refine z_o1_in ?_
      rw [e1]
      exact List.mem_cons_self
    · refine lv_lookup X.1.1 X.1.2.1 d hp (off := dfo) (by have a1 : ¬ k1 = x.toInt := by omega
                                                           have a2 : ¬ k2 = x.toInt := by omega
                                                           simp [Op.lookupswitch.offset, a1, a2]) hd (hS (df, loc, a.2, V, h, n, sl) (z_o1_in (z_o1_in List.mem_cons_self)) ν σ H locs ls rest (z_Pk P q2))
end LU
