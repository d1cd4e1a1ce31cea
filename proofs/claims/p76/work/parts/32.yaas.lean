/-! references written into rows -/
def z_rep (a : AV) : Nat → List AV
  | 0 => []
  | n + 1 => a :: z_rep a n
theorem z_rep_nth {a : AV} {n j : Nat} (h : j < n) : z_nth (z_rep a n) j = some a := by
  induction n generalizing j with
  | zero => omega
  | succ n ih => cases j with
    | zero => rfl
    | succ j => exact ih (by omega)
theorem z_rep_len {a : AV} {n : Nat} : z_len (z_rep a n) = n := by
  induction n with
  | zero => rfl
  | succ n ih => exact congrArg Nat.succ ih
def z_full (l : List AV) (len : Nat) : Option (List AV) := match l with
  | [] => none
  | [a] => some (z_rep a len)
  | a :: b :: k => z_if (Nat.beq (z_len (a :: b :: k)) len) (some (a :: b :: k))
theorem z_full_ok {l r : List AV} {len : Nat} (h : z_full l len = some r) : z_len r = len ∧ ∀ j, j < len → ∀ a, z_at l j = some a → z_nth r j = some a := by
  match l, h with
  | [x], h =>
    cases h
    exact ⟨z_rep_len, fun j hj a ha => by cases ha; exact z_rep_nth hj⟩
  | x :: y :: k, h =>
    obtain ⟨h1, h⟩ := z_ifI h
    cases h
    exact ⟨Nat.eq_of_beq_eq_true h1, fun j _ a ha => ha⟩
def h_aast (kk ci np : Nat) : ZH := fun _ loc stk V h n sl => z_bd (z_p1 stk) fun v => z_bd (z_p1 v.2) fun a => z_bd (z_p1 a.2) fun d => z_if (z_and (z_and (Nat.beq v.1.1 4) (z_nilF a.1.2.2.2.2)) (z_and (z_isI a.1) (Nat.beq d.1.1 4))) (z_bd (z_g2 h d.1.2.1) fun c => z_bd (z_g2 h v.1.2.1) fun c2 => z_if (z_and (z_and (Nat.beq c.1 kk) (Nat.ble 2 c.2.1)) (z_and (z_and (Nat.beq (Nat.mod c2.1 100) 0) (Nat.beq c2.2.1 ci)) (z_inb V (z_fm2 a.1) c.2.1))) (z_bd (z_full c.2.2 c.2.1) fun r => some ([(np, loc, d.2, V, z_s2 h d.1.2.1 (kk, c.2.1, z_put r (Int.toNat a.1.2.2.1) v.1), n, sl)], [])))
section AS
variable {S : List ZT} {ms : List ZM} {own mn : String} {cc : ByteArray} {nL pc np : Nat}
theorem s_aastore {kk ci : Nat} {rr : vw_C} (h56 : kk = 5 ∨ kk = 6) (ht : ∀ K : Nat → ClassId, (ty6 K)[kk - 1]? = some (K (kk - 1), .object rr.1)) (hcl : vwCl[ci]? = some rr) (d : decode cc pc = .ok (.aastore, 1)) (hn : pc + 1 = np) : z_sound S ms own mn cc nL pc (h_aast kk ci np) := by
  subst hn
  intro D K β p l e R s m args below meth c Q σ0 ν0 nv0 k0 E X loc stk V h n sl res hr hS hO ν σ H locs ls vs P
  obtain ⟨v, hv, hr⟩ := z_bdI hr
  obtain ⟨a, ha, hr⟩ := z_bdI hr
  obtain ⟨g, hg, hr⟩ := z_bdI hr
  obtain ⟨hk, hr⟩ := z_ifI hr
  obtain ⟨hkv, hk⟩ := z_andI hk
  obtain ⟨hkv, hnil⟩ := z_andI hkv
  obtain ⟨hka, hkg⟩ := z_andI hk
  obtain ⟨cl, hc, hr⟩ := z_bdI hr
  obtain ⟨c2, hc2, hr⟩ := z_bdI hr
  obtain ⟨hk2, hr⟩ := z_ifI hr
  obtain ⟨hk2, hk3⟩ := z_andI hk2
  obtain ⟨hk2, hlen2⟩ := z_andI hk2
  obtain ⟨hk3, hin⟩ := z_andI hk3
  obtain ⟨hk3, hk4⟩ := z_andI hk3
  obtain ⟨r, hfull, hr⟩ := z_bdI hr
  cases hr
  obtain ⟨p1, p2, p3, p4, p5, p6, p7, p8⟩ := P
  rw [show stk = _ from z_p1I hv, z_p1I ha, z_p1I hg] at p7
  obtain ⟨y, r0, rfl, q1, q2⟩ := z_fm_cons p7
  obtain ⟨vx, r1, rfl, q3, q4⟩ := z_fm_cons q2
  obtain ⟨vr, rest, rfl, q5, q6⟩ := z_fm_cons q4
  obtain ⟨-, x, rfl, hx⟩ := z_mt_i q3 hka
  obtain rfl := z_mt_r q5 hkg
  obtain rfl := z_mt_r q1 hkv
  obtain ⟨b1, b2, b3⟩ := z_inbI p4 hin hx
  have ev : f_evm ν (z_fm2 a.1) = a.1.2.2.1 := by
    show a.1.2.2.1 + f_ev ν a.1.2.2.2.2 = a.1.2.2.1
    rw [z_nilFI hnil]
    show a.1.2.2.1 + 0 = a.1.2.2.1
    omega
  have eidx : Int.toNat a.1.2.2.1 = x.toNatClampNeg := by rw [ev] at b2; omega
  have hk2 := Nat.eq_of_beq_eq_true hk2
  have hkm : cl.1 % 100 = kk := by rw [hk2]; omega
  have hlen2 := Nat.le_of_ble_eq_true hlen2
  obtain ⟨i1, f, hf, hel⟩ := z_arR p5 hc (by rw [hkm]; exact h56)
  obtain ⟨i2, fs, hfs, -⟩ := z_obj p5 hc2 (Nat.eq_of_beq_eq_true hk3)
  rw [Nat.eq_of_beq_eq_true hk4] at hfs
  obtain ⟨e1, e2⟩ := z_full_ok hfull
  have newel : ∀ j, j < cl.2.1 → ∃ w, z_at (z_put r (Int.toNat a.1.2.2.1) v.1) j = some w ∧ z_mt ν (z_len V.1) β w (z_rf (va_up f x.toNatClampNeg (some (β.1 + v.1.2.1)) j)) := by
    intro j hj
    rw [z_at2 (by rw [z_len_put, e1]; exact hlen2), eidx]
    by_cases ej : j = x.toNatClampNeg
    · subst ej
      obtain ⟨w, hw'⟩ := z_len_nth (l := r) (i := x.toNatClampNeg) (by omega)
      exact ⟨v.1, z_nth_self hw' v.1, by rw [va_up_self]; exact q1⟩
    · obtain ⟨w, w1, w2⟩ := hel j hj
      exact ⟨w, by rw [z_nth_ne _ _ (Ne.symm ej)]; exact e2 j hj w w1, by rw [va_up_ne _ _ ej]; exact w2⟩
  exact hp_aast (kk - 1) ci X.1 p8 g.1.2.1 v.1.2.1 i1 i2 (by rw [hkm] at hf; exact hf) (ht K) hfs hcl b1 d (fun H locs hH => hS _ List.mem_cons_self ν _ H locs ls rest ⟨p1, p2, p3, p4, z_hm_set p5 hc i1 (show kk < 99 by omega) (Or.inr (Or.inr (Or.inr (Or.inl ⟨h56, _, rfl, newel⟩)))), p6, q6, hH⟩)
end AS
