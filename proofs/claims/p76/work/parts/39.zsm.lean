/-! by a name's value one of some handlers; two numbers that are shown to be the same get the same form -/
def z_pk (V : VS) (x : Nat) (fs : List ZH) : Option ZH := match z_nth V.1 x with
  | none => none
  | some b => match b.1 with
    | .negSucc _ => none
    | .ofNat s => match z_eq0 (Int.add b.2 (Int.mul (-1) b.1)) with
      | true => z_nth fs s
      | false => none
def h_pick (x : Nat) (fs : List ZH) (f : ZH) : ZH := fun E loc stk V h n sl => match z_pk V x fs with
  | some g => g E loc stk V h n sl
  | none => f E loc stk V h n sl
/-- by a name's lower bound: not negative, or else -/
def h_nn (x : Nat) (g f : ZH) : ZH := fun E loc stk V h n sl => match z_nth V.1 x with
  | none => f E loc stk V h n sl
  | some b => match b.1 with
    | .negSucc _ => f E loc stk V h n sl
    | .ofNat _ => g E loc stk V h n sl
def z_alS (S : List ZT) (ms : List ZM) (own mn : String) (cc : ByteArray) (nL pc : Nat) : List ZH → Prop
  | [] => True
  | f :: l => z_sound S ms own mn cc nL pc f ∧ z_alS S ms own mn cc nL pc l
def z_eqs (V : VS) (c1 c2 : Nat) (a b : FM) : Bool := z_and (z_and (Nat.ble 1 c1) (Nat.ble 1 c2)) (z_and (f_le V (f_sc (Int.ofNat c1) (f_sub a b)) (Int.ofNat (Nat.pred c1))) (f_le V (f_sc (Int.ofNat c2) (f_sub b a)) (Int.ofNat (Nat.pred c2))))
theorem z_eqs1 {c : Nat} {d : Int} (hc : 1 ≤ c) (h : Int.ofNat c * d ≤ Int.ofNat (Nat.pred c)) : d ≤ 0 := by
  rcases Int.lt_or_le 0 d with g | g
  · exfalso
    have h1 : (c : Int) * 1 ≤ (c : Int) * d := Int.mul_le_mul_of_nonneg_left (by omega) (by omega)
    have h : (c : Int) * d ≤ ((Nat.pred c : Nat) : Int) := h
    have h2 : ((Nat.pred c : Nat) : Int) = (c : Int) - 1 := by
      cases c with
      | zero => omega
      | succ k => show ((k : Nat) : Int) = ((k + 1 : Nat) : Int) - 1; omega
    rw [h2] at h
    omega
  · exact g
theorem z_eqs_ok {ν : Nat → Int} {V : VS} {c1 c2 : Nat} {a b : FM} (hs : z_sat ν V) (h : z_eqs V c1 c2 a b = true) : f_evm ν a = f_evm ν b := by
  obtain ⟨h1, h2⟩ := z_andI h
  obtain ⟨h1, h3⟩ := z_andI h1
  obtain ⟨h2, h4⟩ := z_andI h2
  have g2 := f_le_ok hs h2
  have g4 := f_le_ok hs h4
  rw [f_sc_ev, f_sub_ev] at g2 g4
  have := z_eqs1 (Nat.le_of_ble_eq_true h1) g2
  have := z_eqs1 (Nat.le_of_ble_eq_true h3) g4
  omega
/-- number j of the object at place i and number j' of the row at place i' -/
def h_same (i j i' j' c1 c2 : Nat) (f : ZH) : ZH := fun E loc stk V h n sl => z_bd (z_g2 h i) fun c => z_bd (z_g2 h i') fun d => z_bd (z_nth c.2.2 j) fun a => z_bd (z_nth d.2.2 j') fun b => z_if (z_and (z_and (Nat.beq (Nat.mod c.1 100) 0) (Nat.beq (Nat.mod d.1 100) 1)) (z_and (Nat.ble 2 (z_len d.2.2)) (Nat.ble (Nat.succ j') d.2.1))) (match z_and (z_and (Nat.beq a.1 0) (Nat.beq b.1 0)) (z_eqs V c1 c2 (z_fm2 a) (z_fm2 b)) with
  | true => f E loc stk V (z_s2 h i' (d.1, d.2.1, z_put d.2.2 j' a)) n sl
  | false => f E loc stk V h n sl)
/-- a row of one number, number by number -/
def z_rpl {α : Type} : Nat → α → List α
  | 0, _ => []
  | n + 1, x => x :: z_rpl n x
theorem z_rpl_nth {α : Type} {x : α} {n j : Nat} (h : j < n) : z_nth (z_rpl n x) j = some x := by
  induction n generalizing j with
  | zero => omega
  | succ n ih => cases j with
    | zero => rfl
    | succ j => exact ih (by omega)
theorem z_rpl_at {x : AV} {n j : Nat} (h : j < n) : z_at (z_rpl n x) j = some x := by
  match n, h with
  | 1, _ => rfl
  | n + 2, h => exact z_rpl_nth (n := n + 2) h
def h_exp (i : Nat) (f : ZH) : ZH := fun E loc stk V h n sl => z_bd (z_g2 h i) fun c => match c.2.2 with
  | [a] => z_if (z_and (match Nat.beq (Nat.mod c.1 100) 1 with | true => true | false => Nat.beq (Nat.mod c.1 100) 4) (z_and (Nat.beq a.1 1) (z_eq0 (Int.add a.2.2.2.1 (Int.mul (-1) a.2.2.1))))) (f E loc stk V (z_s2 h i (c.1, c.2.1, z_rpl c.2.1 (0, 0, a.2.2.1, 0, []))) n sl)
  | _ => none
section SM
variable {S : List ZT} {ms : List ZM} {own mn : String} {cc : ByteArray} {nL pc : Nat} {f : ZH}
theorem s_pick {x : Nat} {fs : List ZH} (hfs : z_alS S ms own mn cc nL pc fs) (hf : z_sound S ms own mn cc nL pc f) : z_sound S ms own mn cc nL pc (h_pick x fs f) := by
  intro D K β p l e R s m args below meth c Q σ0 ν0 nv0 k0 E X loc stk V h n sl res hr hS hO
  unfold h_pick at hr
  cases hp : z_pk V x fs with
  | none => rw [hp] at hr; exact hf D K β p l e R s m args below meth c Q σ0 ν0 nv0 k0 E X loc stk V h n sl res hr hS hO
  | some g =>
    rw [hp] at hr
    have hg : z_sound S ms own mn cc nL pc g := by
      unfold z_pk at hp
      cases h1 : z_nth V.1 x with
      | none => rw [h1] at hp; cases hp
      | some b =>
        rw [h1] at hp
        simp only at hp
        cases h2 : b.1 with
        | negSucc k => rw [h2] at hp; cases hp
        | ofNat k =>
          rw [h2] at hp
          simp only at hp
          cases h3 : z_eq0 (Int.add b.2 (Int.mul (-1) (Int.ofNat k))) with
          | false => rw [h3] at hp; cases hp
          | true =>
            rw [h3] at hp
            have hp : z_nth fs k = some g := hp
            clear hr h1 h2 h3
            induction fs generalizing k with
            | nil => cases hp
            | cons a l ih => cases k with
              | zero => cases hp; exact hfs.1
              | succ k => exact ih hfs.2 k hp hp
    exact hg D K β p l e R s m args below meth c Q σ0 ν0 nv0 k0 E X loc stk V h n sl res hr hS hO
theorem s_nn {x : Nat} {g : ZH} (hg : z_sound S ms own mn cc nL pc g) (hf : z_sound S ms own mn cc nL pc f) : z_sound S ms own mn cc nL pc (h_nn x g f) := by
  intro D K β p l e R s m args below meth c Q σ0 ν0 nv0 k0 E X loc stk V h n sl res hr hS hO
  unfold h_nn at hr
  cases h1 : z_nth V.1 x with
  | none => rw [h1] at hr; exact hf D K β p l e R s m args below meth c Q σ0 ν0 nv0 k0 E X loc stk V h n sl res hr hS hO
  | some b =>
    rw [h1] at hr
    simp only at hr
    cases h2 : b.1 with
    | negSucc k => rw [h2] at hr; exact hf D K β p l e R s m args below meth c Q σ0 ν0 nv0 k0 E X loc stk V h n sl res hr hS hO
    | ofNat k => rw [h2] at hr; exact hg D K β p l e R s m args below meth c Q σ0 ν0 nv0 k0 E X loc stk V h n sl res hr hS hO
theorem s_same {i j i' j' c1 c2 : Nat} (hf : z_sound S ms own mn cc nL pc f) : z_sound S ms own mn cc nL pc (h_same i j i' j' c1 c2 f) := by
  intro D K β p l e R s m args below meth c Q σ0 ν0 nv0 k0 E X loc stk V h n sl res hr hS hO ν σ H locs ls vs P
  obtain ⟨cl, hc, hr⟩ := z_bdI hr
  obtain ⟨d, hd, hr⟩ := z_bdI hr
  obtain ⟨a, ha, hr⟩ := z_bdI hr
  obtain ⟨b, hb, hr⟩ := z_bdI hr
  obtain ⟨hk, hr⟩ := z_ifI hr
  obtain ⟨k1, k2⟩ := z_andI hk
  obtain ⟨k1, k3⟩ := z_andI k1
  obtain ⟨k2, k4⟩ := z_andI k2
  cases hq : z_and (z_and (Nat.beq a.1 0) (Nat.beq b.1 0)) (z_eqs V c1 c2 (z_fm2 a) (z_fm2 b)) with
  | false => rw [hq] at hr; exact hf D K β p l e R s m args below meth c Q σ0 ν0 nv0 k0 E X loc stk V h n sl res hr hS hO ν σ H locs ls vs P
  | true =>
    rw [hq] at hr
    obtain ⟨q1, q2⟩ := z_andI hq
    obtain ⟨q1, q3⟩ := z_andI q1
    have e0 : cl.1 % 100 = 0 := Nat.eq_of_beq_eq_true k1
    have e1 : d.1 % 100 = 1 := Nat.eq_of_beq_eq_true k3
    have ea : a.1 = 0 := Nat.eq_of_beq_eq_true q1
    have eb : b.1 = 0 := Nat.eq_of_beq_eq_true q3
    have hev := z_eqs_ok P.2.2.2.1 q2
    obtain ⟨-, b4⟩ := P.2.2.2.2.1 i cl hc
    have hwa : f_wf (z_len V.1) a.2.2.2.2 := by
      rcases b4 with w | ⟨-, w⟩
      · rw [w] at e0; omega
      · rw [e0] at w
        rcases w with ⟨-, vs, -, w⟩ | ⟨w, -⟩ | ⟨w, -⟩ | ⟨w, -⟩ | ⟨w, -⟩ | ⟨w, -⟩
        · obtain ⟨v, -, hv⟩ := z_fm_nth w ha
          exact (z_mt_i hv (by unfold z_isI; rw [ea]; rfl)).1
        · exact absurd (show (0 : Nat) = 1 ∨ (0 : Nat) = 2 ∨ (0 : Nat) = 4 from w) (by omega)
        · exact absurd (show (0 : Nat) = 3 from w) (by omega)
        · exact absurd (show (0 : Nat) = 5 ∨ (0 : Nat) = 6 from w) (by omega)
        · exact absurd (show (0 : Nat) = 7 from w) (by omega)
        · exact absurd (show (0 : Nat) = 8 from w) (by omega)
    obtain ⟨hi, fr, hfr, hel⟩ := z_arI P.2.2.2.2.1 hd (Or.inl e1)
    have h2 := Nat.le_of_ble_eq_true k2
    have hel' : ∀ t, t < d.2.1 → ∃ x, z_at (z_put d.2.2 j' a) t = some x ∧ z_mt ν (z_len V.1) β x (.int (fr t)) := by
      intro t ht
      obtain ⟨x, g1, g2⟩ := hel t ht
      rw [z_at2 (by rw [z_len_put]; exact h2)]
      rw [z_at2 h2] at g1
      by_cases e : j' = t
      · subst e
        rw [hb] at g1
        cases g1
        refine ⟨a, z_nth_self hb a, ?_⟩
        obtain ⟨-, y, hy, hz⟩ := z_mt_i g2 (by unfold z_isI; rw [eb]; rfl)
        cases hy
        exact Or.inl ⟨ea, hwa, _, rfl, by rw [hz]; exact hev.symm⟩
      · exact ⟨x, by rw [z_nth_ne _ _ e]; exact g1, g2⟩
    obtain ⟨p1, p2, p3, p4, p5, p6, p7, p8⟩ := P
    exact hf D K β p l e R s m args below meth c Q σ0 ν0 nv0 k0 E X loc stk V _ n sl res hr hS hO ν σ H locs ls vs ⟨p1, p2, p3, p4, z_hm_re p5 hd hi rfl (Or.inr (Or.inl ⟨Or.inl e1, fr, hfr, hel'⟩)), p6, p7, p8⟩
theorem s_exp {i : Nat} (hf : z_sound S ms own mn cc nL pc f) : z_sound S ms own mn cc nL pc (h_exp i f) := by
  intro D K β p l e R s m args below meth c Q σ0 ν0 nv0 k0 E X loc stk V h n sl res hr hS hO ν σ H locs ls vs P
  obtain ⟨d, hd, hr⟩ := z_bdI hr
  obtain ⟨dk, dn, dl⟩ := d
  match dl, hd, hr with
  | [], _, hr => cases hr
  | _ :: _ :: _, _, hr => cases hr
  | [a], hd, hr =>
    obtain ⟨hk, hr⟩ := z_ifI hr
    obtain ⟨k1, k2⟩ := z_andI hk
    obtain ⟨k2, k3⟩ := z_andI k2
    have e1 : dk % 100 = 1 ∨ dk % 100 = 2 ∨ dk % 100 = 4 := by
      have k1 : (match Nat.beq (dk % 100) 1 with | true => true | false => Nat.beq (dk % 100) 4) = true := k1
      cases hb : Nat.beq (dk % 100) 1 with
      | true => exact Or.inl (Nat.eq_of_beq_eq_true hb)
      | false => rw [hb] at k1; exact Or.inr (Or.inr (Nat.eq_of_beq_eq_true k1))
    have ea : a.1 = 1 := Nat.eq_of_beq_eq_true k2
    have e3 : a.2.2.2.1 + -1 * a.2.2.1 = 0 := z_eq0I k3
    obtain ⟨hi, fr, hfr, hel⟩ := z_arI P.2.2.2.2.1 hd e1
    have hel' : ∀ t, t < dn → ∃ x, z_at (z_rpl dn ((0, 0, a.2.2.1, 0, []) : AV)) t = some x ∧ z_mt ν (z_len V.1) β x (.int (fr t)) := by
      intro t ht
      refine ⟨_, z_rpl_at ht, ?_⟩
      obtain ⟨x, g1, g2⟩ := hel t ht
      cases (show some a = some x from g1)
      refine z_mkI (f := (a.2.2.1, [])) f_wf0 ?_
      rcases g2 with ⟨e, -⟩ | ⟨-, y, g3, e2, e3', -⟩ | ⟨e, -⟩ | ⟨e, -⟩ | ⟨e, -⟩ | ⟨e, -⟩ | ⟨e, -⟩ | ⟨e, -⟩ | ⟨e, -⟩ | ⟨e, -⟩
      · omega
      · cases g3
        show (fr t).toInt = a.2.2.1 + 0
        omega
      all_goals omega
    obtain ⟨p1, p2, p3, p4, p5, p6, p7, p8⟩ := P
    exact hf D K β p l e R s m args below meth c Q σ0 ν0 nv0 k0 E X loc stk V _ n sl res hr hS hO ν σ H locs ls vs ⟨p1, p2, p3, p4, z_hm_re p5 hd hi rfl (Or.inr (Or.inl ⟨e1, fr, hfr, hel'⟩)), p6, p7, p8⟩
end SM
