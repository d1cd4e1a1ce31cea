/-! calls: by a contract where one fits, else the callee is run; how a contract is checked -/
def z_anyX (rk q : Nat) (args : List AV) (V : VS) (h : T2 AC) (n f lo : Nat) : List ZX → Option (List ZO)
  | [] => none
  | X :: l => match z_if (Nat.beq X.1 q) (z_con rk X args V h n f lo) with
    | some r => some r
    | none => z_anyX rk q args V h n f lo l
def z_allO (bo : Nat) (n' ms rk : Nat) : List ZO → Bool
  | [] => true
  | o :: l => z_and (z_and (Nat.ble (Nat.succ o.1) 10) (z_okb bo n' ms rk o)) (z_allO bo n' ms rk l)
theorem z_allOI {bo : Nat} {n' ms rk : Nat} {l : List ZO} (h : z_allO bo n' ms rk l = true) {o : ZO} (ho : o ∈ l) : o.1 < 10 ∧ z_okb bo n' ms rk o = true := by
  induction l with
  | nil => cases ho
  | cons x l ih =>
    obtain ⟨h1, h2⟩ := z_andI h
    rcases List.mem_cons.mp ho with rfl | ho
    · obtain ⟨h1, h3⟩ := z_andI h1
      exact ⟨Nat.le_of_ble_eq_true h1, h3⟩
    · exact ih h2 ho
def z_runI (call : ZCall) (M : ZP) (k : Nat) (args : List AV) (V : VS) (h : T2 AC) (n f lo : Nat) : Option (List ZO) := z_if (Nat.ble (z_cat args) M.2.1) (z_bd (z_iter M.1 (call, f, lo, Nat.add n M.2.2.2.2.1, M.2.2.2.2.2, false) k ([(0, z_arg 0 args, [], V, h, n, 0)], [])) fun r => match r.1 with
  | [] => z_if (z_allO M.2.2.2.1 (Nat.add n M.2.2.2.2.1) M.2.2.2.2.2 M.2.2.1 r.2) (some r.2)
  | _ :: _ => none)
def z_call (P : T2 ZP) (CT : T2 (List ZX)) : Nat → ZCall
  | 0 => fun _ _ _ _ _ _ _ => none
  | d + 1 => fun q args V h n f lo => z_bd (z_g2 P q) fun M => match z_bd (z_g2 CT q) (z_anyX M.2.2.1 q args V h n f lo) with
    | some r => some r
    | none => z_runI (z_call P CT d) M 14 args V h n f lo
section IL
variable {S : List ZT} {ms : List ZM} {l : Launch} {D : va_G} {K : Nat → ClassId} {β : ZB} {P : T2 ZP} {CT : T2 (List ZX)}
theorem z_anyX_ok {q : Nat} {M : ZM} (hM : z_nth ms q = some M) {args : List AV} {V : VS} {h : T2 AC} {n f lo : Nat} {outs : List ZO} {L : List ZX} (hL : ∀ X ∈ L, z_okX S ms l D K β X) (hc : z_anyX M.2.2.2.2.1 q args V h n f lo L = some outs) : z_M S ms l D K β q args V h n f lo outs := by
  induction L with
  | nil => cases hc
  | cons X L ih =>
    unfold z_anyX at hc
    cases hg : z_if (Nat.beq X.1 q) (z_con M.2.2.2.2.1 X args V h n f lo) with
    | none => rw [hg] at hc; exact ih (fun Y hY => hL Y (List.mem_cons_of_mem _ hY)) hc
    | some r =>
      rw [hg] at hc
      cases hc
      obtain ⟨h1, h2⟩ := z_ifI hg
      have h1 := Nat.eq_of_beq_eq_true h1
      subst h1
      exact z_con_ok (hL X List.mem_cons_self) hM h2
theorem z_runI_ok {call : ZCall} (hcall : ∀ (q : Nat) (a : List AV) (V : VS) (h : T2 AC) (n f lo : Nat) (outs : List ZO), call q a V h n f lo = some outs → z_M S ms l D K β q a V h n f lo outs) {q k : Nat} {M : ZP} (hM : z_good S ms q M) {args : List AV} {V : VS} {h : T2 AC} {n f lo : Nat} {outs : List ZO} (hr : z_runI call M k args V h n f lo = some outs) : z_M S ms l D K β q args V h n f lo outs := by
  obtain ⟨hlen, hr⟩ := z_ifI hr
  obtain ⟨r, hit, hr⟩ := z_bdI hr
  obtain ⟨todo, os⟩ := r
  cases todo with
  | cons st r => cases hr
  | nil =>
    obtain ⟨hall, hr⟩ := z_ifI hr
    cases hr
    refine z_met_ok (cuts := []) (okr := fun _ => false) (good := fun o => o ∈ os) (b := 0) (nc := 0) (L := 0) (k' := 0) hcall hM hlen hit (fun o ho => Or.inr ⟨(z_allOI hall ho).1, ho⟩) (fun j C hj => by cases hj) (fun j C hj => by cases hj) (fun o _ h => by cases h) (fun o _ ho => ⟨(z_allOI hall ho).2, fun σ0 ν ν' u v g1 g2 g3 g4 g5 => ⟨o, ho, ν', g1, g2, g3, g4, g5, (z_okbI (z_allOI hall ho).2).1⟩⟩) f lo (Nat.le_refl _) (Nat.le_refl _)
theorem z_call_ok (hP : ∀ (q : Nat) (M : ZP), z_g2 P q = some M → z_good S ms q M) (hX : ∀ (q : Nat) (L : List ZX), z_g2 CT q = some L → ∀ X ∈ L, z_okX S ms l D K β X) : ∀ (d q : Nat) (args : List AV) (V : VS) (h : T2 AC) (n f lo : Nat) (outs : List ZO), z_call P CT d q args V h n f lo = some outs → z_M S ms l D K β q args V h n f lo outs := by
  intro d
  induction d with
  | zero => intro q args V h n f lo outs hr; cases hr
  | succ d ih =>
    intro q args V h n f lo outs hr
    obtain ⟨M, hM, hr⟩ := z_bdI hr
    have hg := hP q M hM
    cases hc : z_bd (z_g2 CT q) (z_anyX M.2.2.1 q args V h n f lo) with
    | none => rw [hc] at hr; exact z_runI_ok ih hg hr
    | some r =>
      rw [hc] at hr
      cases hr
      obtain ⟨L, hL, hc⟩ := z_bdI hc
      obtain ⟨y, bytes, ret, g1, -⟩ := hg
      exact z_anyX_ok g1 (hX q L hL) hc
end IL
/-- an end lies in an end of the contract -/
def z_inP (me n' rk : Nat) (o p : ZO) : Bool := match z_th1 p.2.1 o.2.1 (z_thH p.2.2.2.1 o.2.2.2.1 (z_idn me [])) with
  | θ => z_and (z_and (z_isid θ me) (z_and (Nat.ble me (z_len p.2.2.1.1)) (Nat.beq p.2.2.2.2.1 n'))) (z_and (z_inV o.2.2.1 θ p.2.2.1) (z_and (z_inH o.2.2.1 θ (z_len p.2.2.1.1) p.2.2.2.1 o.2.2.2.1) (match rk with
    | 0 => true
    | _ => z_inA o.2.2.1 θ (z_len p.2.2.1.1) p.2.1 o.2.1)))
def z_anyP (me n' rk : Nat) (o : ZO) : List ZO → Bool
  | [] => false
  | p :: l => match z_inP me n' rk o p with
    | true => true
    | false => z_anyP me n' rk o l
theorem z_anyPI {me n' rk : Nat} {o : ZO} {l : List ZO} (h : z_anyP me n' rk o l = true) : ∃ p ∈ l, z_inP me n' rk o p = true := by
  induction l with
  | nil => cases h
  | cons p l ih =>
    unfold z_anyP at h
    cases hp : z_inP me n' rk o p with
    | true => exact ⟨p, List.mem_cons_self, hp⟩
    | false =>
      rw [hp] at h
      obtain ⟨q, h1, h2⟩ := ih h
      exact ⟨q, List.mem_cons_of_mem _ h1, h2⟩
theorem z_anyP_ok {K : Nat → ClassId} {β : ZB} {me n' rk : Nat} {o : ZO} {posts : List ZO} (h : z_anyP me n' rk o posts = true) {σ0 u : Nat → va_E} {ν ν' : Nat → Int} {v : Value} (g1 : ∀ i, i < me → ν' i = ν i) (g3 : z_sat ν' o.2.2.1) (g4 : z_hm ν' (z_len o.2.2.1.1) β K σ0 o.2.2.2.1 n' u) (g5 : rk ≠ 0 → z_mt ν' (z_len o.2.2.1.1) β o.2.1 v) : z_post K β σ0 posts ν me n' rk v u := by
  obtain ⟨p, hp, h⟩ := z_anyPI h
  obtain ⟨h1, h2⟩ := z_andI h
  obtain ⟨h1, h3⟩ := z_andI h1
  obtain ⟨h3, h4⟩ := z_andI h3
  obtain ⟨h2, h5⟩ := z_andI h2
  obtain ⟨h5, h6⟩ := z_andI h5
  refine ⟨p, hp, _, fun i hi => by rw [z_isidI h1 i hi]; exact g1 i hi, Nat.le_of_ble_eq_true h3, z_inV_ok g3 h2, z_inH_ok g3 h5 g4, fun hr => ?_, Nat.eq_of_beq_eq_true h4⟩
  cases rk with
  | zero => exact absurd rfl hr
  | succ k => exact z_inA_ok g3 h6 (g5 hr)
/-- the check of a contract -/
def z_okr (M : ZP) (me n' : Nat) (posts : List ZO) (o : ZO) : Bool := z_and (z_okb M.2.2.2.1 n' M.2.2.2.2.2 M.2.2.1 o) (z_anyP me n' M.2.2.1 o posts)
def z_chkCs (code : T2 ZH) (E : ZE) (cuts : List ZCut) (me b n k L : Nat) (okr : ZO → Bool) : List ZCut → Bool
  | [] => true
  | C :: l => z_and (z_chkC code E cuts me b n 0 k L okr C) (z_chkCs code E cuts me b n k L okr l)
theorem z_chkCsI {code : T2 ZH} {E : ZE} {cuts : List ZCut} {me b n k L : Nat} {okr : ZO → Bool} {l : List ZCut} (h : z_chkCs code E cuts me b n k L okr l = true) {j : Nat} {C : ZCut} (hj : z_nth l j = some C) : z_chkC code E cuts me b n 0 k L okr C = true := by
  induction l generalizing j with
  | nil => cases hj
  | cons a l ih =>
    obtain ⟨h1, h2⟩ := z_andI h
    cases j with
    | zero => cases hj; exact h1
    | succ j => exact ih h2 hj
def z_chkX (call : ZCall) (M : ZP) (X : ZX) (cuts : List ZCut) (k k' b nc L : Nat) : Bool := match (call, X.2.2.2.2.2.1, X.2.2.2.2.2.2.1, Nat.add X.2.2.2.2.1 M.2.2.2.2.1, M.2.2.2.2.2, false) with
  | E => z_and (Nat.ble (z_cat X.2.1) M.2.1) (z_and (match z_iter M.1 E k ([(0, z_arg 0 X.2.1, [], X.2.2.1, X.2.2.2.1, X.2.2.2.2.1, 0)], []) with
    | none => false
    | some r => match r.1 with
      | [] => z_okO cuts (z_len X.2.2.1.1) b nc 0 none (z_okr M (z_len X.2.2.1.1) (Nat.add X.2.2.2.2.1 M.2.2.2.2.1) X.2.2.2.2.2.2.2) r.2
      | _ :: _ => false) (z_chkCs M.1 E cuts (z_len X.2.2.1.1) b nc k' L (z_okr M (z_len X.2.2.1.1) (Nat.add X.2.2.2.2.1 M.2.2.2.2.1) X.2.2.2.2.2.2.2) cuts))
theorem z_chkX_ok {S : List ZT} {ms : List ZM} {l : Launch} {D : va_G} {K : Nat → ClassId} {β : ZB} {call : ZCall} (hcall : ∀ (q : Nat) (a : List AV) (V : VS) (h : T2 AC) (n f lo : Nat) (outs : List ZO), call q a V h n f lo = some outs → z_M S ms l D K β q a V h n f lo outs) {M : ZP} {X : ZX} {cuts : List ZCut} {k k' b nc L : Nat} (hM : z_good S ms X.1 M)
    (hh : ∀ (j : Nat) (C : ZCut), z_nth cuts j = some C → ∀ (y : MethodName) (bytes : ByteArray) (ret : Option FieldType), z_nth ms X.1 = some (y, bytes, M.2.1, ret, M.2.2.1, M.2.2.2.2.1, M.2.2.2.2.2) → z_sound S ms y.cls y.name bytes M.2.1 C.1 C.2.2.2) (hc : z_chkX call M X cuts k k' b nc L = true) : z_okX S ms l D K β X := by
  intro f lo hf hlo
  obtain ⟨h1, h2⟩ := z_andI hc
  obtain ⟨h2, h3⟩ := z_andI h2
  cases hit : z_iter M.1 (call, X.2.2.2.2.2.1, X.2.2.2.2.2.2.1, Nat.add X.2.2.2.2.1 M.2.2.2.2.1, M.2.2.2.2.2, false) k ([(0, z_arg 0 X.2.1, [], X.2.2.1, X.2.2.2.1, X.2.2.2.2.1, 0)], []) with
  | none => rw [hit] at h2; cases h2
  | some r =>
    rw [hit] at h2
    obtain ⟨todo, os⟩ := r
    cases todo with
    | cons st r => cases h2
    | nil =>
      refine z_met_ok (good := fun o => z_okr M (z_len X.2.2.1.1) (Nat.add X.2.2.2.2.1 M.2.2.2.2.1) X.2.2.2.2.2.2.2 o = true) hcall hM h1 hit (fun o ho => z_okOI h2 ho) hh (fun j C hj => z_chkCsI h3 hj) (fun o _ h => h) (fun o _ ho => ?_) f lo hf hlo
      obtain ⟨a1, a2⟩ := z_andI ho
      exact ⟨a1, fun σ0 ν ν' u v g1 g2 g3 g4 g5 => z_anyP_ok a2 g1 g3 g4 g5⟩
