/-! cut points: what is put in, the check of an end, the induction -/
def z_dvL (c : Int) : FL → Option FL
  | [] => some []
  | q :: l => match z_eq0 (Int.emod q.1 c) with
    | true => z_bd (z_dvL c l) fun r => some ((Int.ediv q.1 c, q.2) :: r)
    | false => none
/-- a form, in parts of c -/
def z_dv1 (c : Int) (f : FM) : Option FM := match z_eq0 (Int.emod f.1 c) with
  | true => z_bd (z_dvL c f.2) fun r => some (Int.ediv f.1 c, r)
  | false => none
def z_num (t : Nat) : Bool := match t with
  | 0 => true
  | 2 => true
  | _ => false
def z_th1 (a0 a : AV) (r : TH) : TH := match a0.2.2.2.2 with
  | [q] => match z_and (Nat.beq a0.1 a.1) (z_num a0.1) with
    | false => r
    | true => match z_nn q.1 with
      | 1 => (q.2, f_sub (z_fm2 a) (a0.2.2.1, [])) :: r
      | _ => match z_dv1 q.1 (f_sub (z_fm2 a) (a0.2.2.1, [])) with
        | some g => (q.2, g) :: r
        | none => r
  | _ => r
def z_thL : List AV → List AV → TH → TH
  | a0 :: l0, a :: l, r => z_th1 a0 a (z_thL l0 l r)
  | _, _, r => r
def z_thLo (loc : List (Nat × AV)) : List (Nat × AV) → TH → TH
  | [], r => r
  | q :: l, r => match z_lkp loc q.1 with
    | some a => z_th1 q.2 a (z_thLo loc l r)
    | none => z_thLo loc l r
def z_thR : List AC → List AC → TH → TH
  | c0 :: l0, c :: l, r => z_thL c0.2.2 c.2.2 (z_thR l0 l r)
  | _, _, r => r
def z_thH : T2 AC → T2 AC → TH → TH
  | r0 :: l0, r1 :: l, r => z_thR r0 r1 (z_thH l0 l r)
  | _, _, r => r
/-- the first names stay themselves -/
def z_idn : Nat → TH → TH
  | 0, r => r
  | n + 1, r => z_idn n ((n, (0, [(1, n)])) :: r)
def z_isid (θ : TH) : Nat → Bool
  | 0 => true
  | n + 1 => z_and (match z_thl θ n with
    | some g => match g.2 with
      | [q] => z_and (z_and (z_eq0 g.1) (z_eq0 (Int.add q.1 (-1)))) (Nat.beq q.2 n)
      | _ => false
    | none => false) (z_isid θ n)
theorem z_isidI {ν : Nat → Int} {θ : TH} {n : Nat} (h : z_isid θ n = true) : ∀ i, i < n → z_nu ν θ i = ν i := by
  induction n with
  | zero => intro i hi; omega
  | succ n ih =>
    obtain ⟨h1, h2⟩ := z_andI h
    intro i hi
    by_cases e : i = n
    · subst e
      unfold z_nu
      cases ht : z_thl θ i with
      | none => rw [ht] at h1; cases h1
      | some g =>
        rw [ht] at h1
        obtain ⟨k, l⟩ := g
        match l, h1 with
        | [q], h1 =>
          obtain ⟨g1, g2⟩ := z_andI h1
          obtain ⟨g0, g1⟩ := z_andI g1
          have g0 : k = 0 := z_eq0I g0
          have g1 : q.1 + (-1) = 0 := z_eq0I g1
          have g2 := Nat.eq_of_beq_eq_true g2
          show k + (q.1 * ν q.2 + 0) = ν i
          rw [g0, g2, show q.1 = 1 by omega]
          omega
        | [], h1 => cases h1
        | _ :: _ :: _, h1 => cases h1
    · exact ih h2 i (by omega)
abbrev ZCut : Type := Nat × ZK × List FM × ZH
def z_wfR (m : Nat) : List FM → Bool
  | [] => true
  | f :: l => z_and (z_wfL m f.2) (z_wfR m l)
theorem z_wfRI {m : Nat} {l : List FM} (h : z_wfR m l = true) : ∀ f ∈ l, f_wf m f.2 := by
  induction l with
  | nil => intro f hf; cases hf
  | cons g l ih =>
    intro f hf
    rcases List.mem_cons.mp hf with rfl | hf
    · exact z_wfLI (z_andI h).1
    · exact ih (z_andI h).2 f hf
/-- the end of a run at a cut point: it lies in a template there, its rank is smaller -/
def z_okC1 (me n sc : Nat) (r0 : Option (List FM)) (o : ZO) (C : ZCut) : Bool := match z_thH C.2.1.2.2 o.2.2.2.1 (z_thLo o.2.2.2.2.2.2.1 C.2.1.2.1 (z_idn me [])) with
    | θ => z_and (z_and (Nat.beq o.2.2.2.2.2.2.2 C.1) (z_and (Nat.beq o.2.2.2.2.1 n) (Nat.beq o.2.2.2.2.2.1 sc))) (z_and (z_and (z_incl o.2.2.1 o.2.2.2.2.2.2.1 o.2.2.2.1 θ C.2.1) (z_isid θ me)) (match r0 with
      | none => true
      | some ss => match z_sbl θ C.2.2.1 with
        | none => false
        | some rs => z_lex o.2.2.1 ss rs))
def z_okC (me n sc : Nat) (r0 : Option (List FM)) (o : ZO) : List ZCut → Bool
  | [] => false
  | C :: l => match z_okC1 me n sc r0 o C with
    | true => true
    | false => z_okC me n sc r0 o l
theorem z_okC_ok {cuts : List ZCut} {me n sc : Nat} {r0 : Option (List FM)} {o : ZO} (h : z_okC me n sc r0 o cuts = true) : ∃ (j : Nat) (C : ZCut) (θ : TH), z_nth cuts j = some C ∧ o.2.2.2.2.2.2.2 = C.1 ∧ o.2.2.2.2.1 = n ∧ o.2.2.2.2.2.1 = sc ∧ z_isid θ me = true ∧ z_incl o.2.2.1 o.2.2.2.2.2.2.1 o.2.2.2.1 θ C.2.1 = true ∧ ∀ ss, r0 = some ss → ∃ rs, z_sbl θ C.2.2.1 = some rs ∧ z_lex o.2.2.1 ss rs = true := by
  induction cuts with
  | nil => cases h
  | cons C l ih =>
    unfold z_okC at h
    cases hC : z_okC1 me n sc r0 o C with
    | false =>
      rw [hC] at h
      obtain ⟨j, C', θ, g1, g2⟩ := ih h
      exact ⟨j + 1, C', θ, g1, g2⟩
    | true =>
      have h := hC
      unfold z_okC1 at h
      obtain ⟨h1, h2⟩ := z_andI h
      obtain ⟨h1, h3⟩ := z_andI h1
      obtain ⟨h3, h4⟩ := z_andI h3
      obtain ⟨h2, h5⟩ := z_andI h2
      obtain ⟨h2, h6⟩ := z_andI h2
      refine ⟨0, C, _, rfl, Nat.eq_of_beq_eq_true h1, Nat.eq_of_beq_eq_true h3, Nat.eq_of_beq_eq_true h4, h6, h2, fun ss e => ?_⟩
      subst e
      simp only at h5
      cases hs : z_sbl (z_thH C.2.1.2.2 o.2.2.2.1 (z_thLo o.2.2.2.2.2.2.1 C.2.1.2.1 (z_idn me []))) C.2.2.1 with
      | none => rw [hs] at h5; cases h5
      | some rs => rw [hs] at h5; exact ⟨rs, rfl, h5⟩
def z_okO (cuts : List ZCut) (me b n sc : Nat) (r0 : Option (List FM)) (okr : ZO → Bool) : List ZO → Bool
  | [] => true
  | o :: l => z_and (match Nat.ble 10 o.1 with
    | true => z_okC me n sc r0 o cuts
    | false => okr o) (z_okO cuts me b n sc r0 okr l)
theorem z_okOI {cuts : List ZCut} {me b n sc : Nat} {r0 : Option (List FM)} {okr : ZO → Bool} {l : List ZO} (h : z_okO cuts me b n sc r0 okr l = true) {o : ZO} (ho : o ∈ l) : (10 ≤ o.1 ∧ z_okC me n sc r0 o cuts = true) ∨ (o.1 < 10 ∧ okr o = true) := by
  induction l with
  | nil => cases ho
  | cons a l ih =>
    obtain ⟨h1, h2⟩ := z_andI h
    rcases List.mem_cons.mp ho with rfl | ho
    · cases hb : Nat.ble 10 o.1 with
      | true => rw [hb] at h1; exact Or.inl ⟨Nat.le_of_ble_eq_true hb, h1⟩
      | false =>
        rw [hb] at h1
        refine Or.inr ⟨?_, h1⟩
        rcases Nat.lt_or_ge o.1 10 with g | g
        · exact g
        · have := Nat.ble_eq_true_of_le g; rw [hb] at this; cases this
    · exact ih h2 ho
/-- one cut point's check: its run ends in returns that are as they should be, or at cut points of a smaller rank -/
def z_chkC (code : T2 ZH) (E : ZE) (cuts : List ZCut) (me b n sc k L : Nat) (okr : ZO → Bool) (C : ZCut) : Bool := z_and (z_and (Nat.ble me (z_len C.2.1.1.1)) (z_and (z_wfR (z_len C.2.1.1.1) C.2.2.1) (z_and (z_rkc C.2.1.1 b C.2.2.1) (Nat.beq (z_len C.2.2.1) L)))) (match C.2.2.2 E C.2.1.2.1 [] C.2.1.1 C.2.1.2.2 n sc with
  | none => false
  | some q => match z_iter code E k q with
    | none => false
    | some r => match r.1 with
      | [] => z_okO cuts me b n sc (some C.2.2.1) okr r.2
      | _ :: _ => false)
theorem z_len_eq {α : Type} (l : List α) : z_len l = l.length := by
  induction l with
  | nil => rfl
  | cons a l ih => exact congrArg Nat.succ ih
section CQ
variable {S : List ZT} {ms : List ZM} {D : va_G} {K : Nat → ClassId} {β : ZB} {p : Program} {l : Launch} {e : Env} {R : Room} {s : State} {m : MethodId} {args : Array Value} {below : List Frame} {meth : Method} {c : Code} {Q : State → Prop} {σ0 : Nat → va_E} {νe : Nat → Int} {me k0 nL n sc k b L : Nat} {E : ZE} {own mn : String} {cc : ByteArray} {code : T2 ZH} {cuts : List ZCut} {okr : ZO → Bool}
theorem z_cuts_ok (X : z_C S ms D K β p l R s m args meth c own mn cc k0 nL E) (hc : z_tok2 S ms own mn cc nL 0 code) (hh : ∀ (j : Nat) (C : ZCut), z_nth cuts j = some C → z_sound S ms own mn cc nL C.1 C.2.2.2) (hk : ∀ (j : Nat) (C : ZCut), z_nth cuts j = some C → z_chkC code E cuts me b n sc k L okr C = true)
    (hr : ∀ o : ZO, o.1 < 10 → okr o = true → ∀ (ν1 : Nat → Int) (nv1 : Nat), (∀ i, i < me → ν1 i = νe i) → me ≤ nv1 → z_T D K β p l e R s m args below meth c cc Q σ0 ν1 nv1 k0 nL o) :
    ∀ (N j : Nat) (C : ZCut), z_nth cuts j = some C → ∀ (ν : Nat → Int) (σ : Nat → va_E) (H : Heap) (locs : List Loc) (ls : Array Slot), (∀ i, i < me → ν i = νe i) → z_P D K β s σ0 ν (z_len C.2.1.1.1) k0 nL C.2.1.2.1 [] C.2.1.1 C.2.1.2.2 n ν σ H locs ls [] → r_enc b (z_evl ν C.2.2.1) < N → W p l e R s m args below meth c H locs (n - k0) sc Q (F0 m C.1 ls []) := by
  intro N
  induction N with
  | zero => intro j C _ ν σ H locs ls _ _ h; omega
  | succ N ih =>
    intro j C hj ν σ H locs ls hνe P hN
    have hchk := hk j C hj
    obtain ⟨c1, c2⟩ := z_andI hchk
    obtain ⟨c0, c1⟩ := z_andI c1
    obtain ⟨c3, c1⟩ := z_andI c1
    obtain ⟨c4, c5⟩ := z_andI c1
    have c0 := Nat.le_of_ble_eq_true c0
    have c3 := z_wfRI c3
    have c5 := Nat.eq_of_beq_eq_true c5
    have hrk := z_rkc_ok P.2.2.2.1 c4
    cases hf : C.2.2.2 E C.2.1.2.1 [] C.2.1.1 C.2.1.2.2 n sc with
    | none => rw [hf] at c2; cases c2
    | some q =>
      rw [hf] at c2
      simp only at c2
      cases hit : z_iter code E k q with
      | none => rw [hit] at c2; cases c2
      | some r =>
        rw [hit] at c2
        obtain ⟨todo, os⟩ := r
        cases todo with
        | cons st r => cases c2
        | nil =>
          have c2 : z_okO cuts me b n sc (some C.2.2.1) okr os = true := c2
          have hT : ∀ o ∈ os, z_T D K β p l e R s m args below meth c cc Q σ0 ν (z_len C.2.1.1.1) k0 nL o := by
            intro o ho
            rcases z_okOI c2 ho with ⟨g1, g2⟩ | ⟨g1, g2⟩
            · obtain ⟨j', C', θ, d1, d2, d3, d4, d5, d6, d7⟩ := z_okC_ok g2
              obtain ⟨rs, d8, d9⟩ := d7 _ rfl
              unfold z_T
              rw [if_neg (by omega)]
              intro ν' σ' H' locs' ls' vs' P'
              have P' : z_P D K β s σ0 ν (z_len C.2.1.1.1) k0 nL o.2.2.2.2.2.2.1 [] o.2.2.1 o.2.2.2.1 o.2.2.2.2.1 ν' σ' H' locs' ls' vs' := P'
              show W p l e R s m args below meth c H' locs' (o.2.2.2.2.1 - k0) o.2.2.2.2.2.1 Q (F0 m o.2.2.2.2.2.2.2 ls' vs')
              obtain ⟨rfl, P2⟩ := z_incl_ok d6 P'
              rw [d3] at P2
              rw [d2, d3, d4]
              have hag := P'.1
              obtain ⟨s1, s2, s3⟩ := z_sbl_ok (ν := ν') d8
              have hchk' := hk _ C' d1
              obtain ⟨x1, -⟩ := z_andI hchk'
              obtain ⟨-, x1⟩ := z_andI x1
              obtain ⟨-, x1⟩ := z_andI x1
              obtain ⟨x4, x5⟩ := z_andI x1
              have hrk' : z_rkb (z_nu ν' θ) b C'.2.2.1 := z_rkc_ok P2.2.2.2.1 x4
              have x5 := Nat.eq_of_beq_eq_true x5
              have eqs : ∀ f ∈ C.2.2.1, f_evm ν' f = f_evm ν f := fun f hf => by
                show f.1 + f_ev ν' f.2 = f.1 + f_ev ν f.2
                rw [f_ev_ext hag (c3 f hf)]
              have eqe : z_evl ν' C.2.2.1 = z_evl ν C.2.2.1 := List.map_congr_left (fun f hf => by rw [eqs f hf])
              have hless := z_lex_ok (b := b) P'.2.2.2.1 d9 (fun f hf => by rw [eqs f hf]; exact hrk f hf) (s3 b hrk') (by rw [s2, ← z_len_eq, ← z_len_eq, c5, x5])
              refine ih _ C' d1 (z_nu ν' θ) σ' H' locs' ls' (fun i hi => ?_) P2 ?_
              · rw [z_isidI d5 i hi, hag i (by omega)]
                exact hνe i hi
              · rw [s1]
                rw [eqe] at hless
                omega
            · exact hr o g1 g2 ν _ hνe c0
          have a := (z_iter_ok (e := e) (below := below) (Q := Q) (σ0 := σ0) (ν0 := ν) (nv0 := z_len C.2.1.1.1) X hc hit)
          exact hh j C hj D K β p l e R s m args below meth c Q σ0 ν (z_len C.2.1.1.1) k0 E X _ _ _ _ _ _ q hf (a.2 hT (fun st h => by cases h)) (fun o ho => hT o (a.1 o ho)) ν σ H locs ls [] P
end CQ
