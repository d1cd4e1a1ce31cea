/-! cells -/
theorem z_hm_set {ν : Nat → Int} {nv : Nat} {β : ZB} {K : Nat → ClassId} {σ0 : Nat → va_E} {h : T2 AC} {n i : Nat} {σ : Nat → va_E} {c c' : AC} {e' : va_E} (q : z_hm ν nv β K σ0 h n σ) (hg : z_g2 h i = some c) (hi : i < n) (h9 : c'.1 < 99) (hc : z_mc ν nv β K c' e') : z_hm ν nv β K σ0 (z_s2 h i c') n (va_up σ i e') := by
  intro j d hj
  by_cases e : i = j
  · subst e
    rw [z_g2_self hg] at hj
    cases hj
    refine ⟨fun h => by omega, Or.inr ⟨hi, ?_⟩⟩
    rw [va_up_self, show c'.1 % 100 = c'.1 from Nat.mod_eq_of_lt (by omega)]
    exact hc
  · rw [z_g2_ne _ _ e] at hj
    rw [va_up_ne _ _ (Ne.symm e)]
    exact q j d hj
theorem z_hm_new {ν : Nat → Int} {nv : Nat} {β : ZB} {K : Nat → ClassId} {σ0 : Nat → va_E} {h : T2 AC} {n : Nat} {σ : Nat → va_E} {c c' : AC} {e' : va_E} (q : z_hm ν nv β K σ0 h n σ) (hg : z_g2 h n = some c) (h9 : c'.1 < 99) (hc : z_mc ν nv β K c' e') : z_hm ν nv β K σ0 (z_s2 h n c') (n + 1) (va_up σ n e') := by
  intro j d hj
  by_cases e : n = j
  · subst e
    rw [z_g2_self hg] at hj
    cases hj
    refine ⟨fun h => by omega, Or.inr ⟨Nat.lt_succ_self _, ?_⟩⟩
    rw [va_up_self, show c'.1 % 100 = c'.1 from Nat.mod_eq_of_lt (by omega)]
    exact hc
  · rw [z_g2_ne _ _ e] at hj
    rw [va_up_ne _ _ (Ne.symm e)]
    exact ⟨(q j d hj).1, (q j d hj).2.imp id (fun z => ⟨Nat.lt_succ_of_lt z.1, z.2⟩)⟩
/-- the same cell, told otherwise -/
theorem z_hm_re {ν : Nat → Int} {nv : Nat} {β : ZB} {K : Nat → ClassId} {σ0 : Nat → va_E} {h : T2 AC} {n i : Nat} {σ : Nat → va_E} {c c' : AC} (q : z_hm ν nv β K σ0 h n σ) (hg : z_g2 h i = some c) (hi : i < n) (h1 : c'.1 = c.1) (hc : z_mc ν nv β K (c'.1 % 100, c'.2) (σ i)) : z_hm ν nv β K σ0 (z_s2 h i c') n σ := by
  intro j d hj
  by_cases e : i = j
  · subst e
    rw [z_g2_self hg] at hj
    cases hj
    exact ⟨fun h => (q i c hg).1 (by omega), Or.inr ⟨hi, hc⟩⟩
  · rw [z_g2_ne _ _ e] at hj
    exact q j d hj
section LC
variable {ν : Nat → Int} {nv : Nat} {β : ZB} {K : Nat → ClassId} {σ0 : Nat → va_E} {h : T2 AC} {n i : Nat} {σ : Nat → va_E} {c : AC}
theorem z_obj (q : z_hm ν nv β K σ0 h n σ) (hg : z_g2 h i = some c) (h0 : c.1 % 100 = 0) : i < n ∧ ∃ vs, σ i = .inr (c.2.1, vs) ∧ z_fm (z_mt ν nv β) c.2.2 vs := by
  rcases (q i c hg).2 with e | ⟨h1, ⟨-, h2⟩ | ⟨h2, -⟩ | ⟨h2, -⟩ | ⟨h2, -⟩ | ⟨h2, -⟩ | ⟨h2, -⟩⟩
  · omega
  · exact ⟨h1, h2⟩
  all_goals (simp only at h2; omega)
theorem z_arI (q : z_hm ν nv β K σ0 h n σ) (hg : z_g2 h i = some c) (h0 : c.1 % 100 = 1 ∨ c.1 % 100 = 2 ∨ c.1 % 100 = 4) : i < n ∧ ∃ f : Nat → Int32, σ i = .inl (K (c.1 % 100 - 1), c.2.1, .inl f) ∧ ∀ j, j < c.2.1 → ∃ a, z_at c.2.2 j = some a ∧ z_mt ν nv β a (.int (f j)) := by
  rcases (q i c hg).2 with e | ⟨h1, ⟨h2, -⟩ | ⟨-, h2⟩ | ⟨h2, -⟩ | ⟨h2, -⟩ | ⟨h2, -⟩ | ⟨h2, -⟩⟩
  · omega
  · simp only at h2; omega
  · exact ⟨h1, h2⟩
  all_goals (simp only at h2; omega)
theorem z_arL (q : z_hm ν nv β K σ0 h n σ) (hg : z_g2 h i = some c) (h0 : c.1 % 100 = 3) : i < n ∧ ∃ f : Nat → Int64, σ i = .inl (K 2, c.2.1, .inr (.inl f)) ∧ ∀ j, j < c.2.1 → ∃ a, z_at c.2.2 j = some a ∧ z_mt ν nv β a (.long (f j)) := by
  rcases (q i c hg).2 with e | ⟨h1, ⟨h2, -⟩ | ⟨h2, -⟩ | ⟨-, h2⟩ | ⟨h2, -⟩ | ⟨h2, -⟩ | ⟨h2, -⟩⟩
  · omega
  · simp only at h2; omega
  · simp only at h2; omega
  · exact ⟨h1, h2⟩
  all_goals (simp only at h2; omega)
theorem z_arR (q : z_hm ν nv β K σ0 h n σ) (hg : z_g2 h i = some c) (h0 : c.1 % 100 = 5 ∨ c.1 % 100 = 6) : i < n ∧ ∃ f : Nat → Option Nat, σ i = .inl (K (c.1 % 100 - 1), c.2.1, .inr (.inr (.inr (.inr f)))) ∧ ∀ j, j < c.2.1 → ∃ a, z_at c.2.2 j = some a ∧ z_mt ν nv β a (z_rf (f j)) := by
  rcases (q i c hg).2 with e | ⟨h1, ⟨h2, -⟩ | ⟨h2, -⟩ | ⟨h2, -⟩ | ⟨-, h2⟩ | ⟨h2, -⟩ | ⟨h2, -⟩⟩
  · omega
  · simp only at h2; omega
  · simp only at h2; omega
  · simp only at h2; omega
  · exact ⟨h1, h2⟩
  all_goals (simp only at h2; omega)
theorem z_ar7 (q : z_hm ν nv β K σ0 h n σ) (hg : z_g2 h i = some c) (h0 : c.1 % 100 = 7) : i < n ∧ ∃ (f : Nat → Int64) (so sz : AV) (rs : List AV), σ i = .inl (K 2, c.2.1, .inr (.inl f)) ∧ c.2.2 = so :: sz :: rs ∧ f_wf nv so.2.2.2.2 ∧ f_wf nv sz.2.2.2.2 ∧ z_seen (f_evm ν (z_fm2 so)) (f_evm ν (z_fm2 sz)) f ∧ z_nx ν nv β (f_evm ν (z_fm2 so) + f_evm ν (z_fm2 sz)) f 0 rs := by
  rcases (q i c hg).2 with e | ⟨h1, ⟨h2, -⟩ | ⟨h2, -⟩ | ⟨h2, -⟩ | ⟨h2, -⟩ | ⟨-, h2⟩ | ⟨h2, -⟩⟩
  · omega
  · simp only at h2; omega
  · simp only at h2; omega
  · simp only at h2; omega
  · simp only at h2; omega
  · exact ⟨h1, h2⟩
  · simp only at h2; omega
theorem z_ar8 (q : z_hm ν nv β K σ0 h n σ) (hg : z_g2 h i = some c) (h0 : c.1 % 100 = 8) : i < n ∧ ∃ (f : Nat → Int32) (a : AV) (l : List AV), σ i = .inl (K 1, c.2.1, .inl f) ∧ c.2.2 = a :: l ∧ (∀ j, j < c.2.1 → z_mt ν nv β a (.int (f j))) ∧ z_mem ν nv β f l := by
  rcases (q i c hg).2 with e | ⟨h1, ⟨h2, -⟩ | ⟨h2, -⟩ | ⟨h2, -⟩ | ⟨h2, -⟩ | ⟨h2, -⟩ | ⟨-, h2⟩⟩
  · omega
  · simp only at h2; omega
  · simp only at h2; omega
  · simp only at h2; omega
  · simp only at h2; omega
  · simp only at h2; omega
  · exact ⟨h1, h2⟩
end LC
/-- a value out of a cell: one known by bounds gets a name -/
def z_frA (t : Nat) (V : VS) (a : AV) : AV × VS := match z_le a.2.2.2.1 a.2.2.1 with
  | true => ((t, 0, a.2.2.1, 0, []), V)
  | false => match a.2.1 with
    | 0 => (z_var t (z_len V.1), z_addv V a.2.2.1 a.2.2.2.1)
    | _ + 1 => (z_var t (z_len V.1), (z_app V.1 [(a.2.2.1, a.2.2.2.1)], V.2.1, z_len V.1 :: V.2.2))
def z_ld (V : VS) (a : AV) : AV × VS := match a.1 with
  | 1 => z_frA 0 V a
  | 3 => z_frA 2 V a
  | _ => (a, V)
theorem z_frA_ok {ν : Nat → Int} {V : VS} {t : Nat} {a : AV} {X : Int} (hs : z_sat ν V) (hX : z_mk1 a.2.1 a.2.2.1 a.2.2.2.1 X) : ∃ ν' : Nat → Int, (∀ i, i < z_len V.1 → ν' i = ν i) ∧ z_len V.1 ≤ z_len (z_frA t V a).2.1 ∧ z_sat ν' (z_frA t V a).2 ∧ (z_frA t V a).1.1 = t ∧ f_wf (z_len (z_frA t V a).2.1) (z_frA t V a).1.2.2.2.2 ∧ f_evm ν' (z_fm2 (z_frA t V a).1) = X := by
  unfold z_frA
  obtain ⟨h1, h2, h3⟩ := hX
  cases hl : z_le a.2.2.2.1 a.2.2.1 with
  | true =>
    have := z_le_iff.mp hl
    exact ⟨ν, fun _ _ => rfl, Nat.le_refl _, hs, rfl, f_wf0, by show a.2.2.1 + 0 = X; omega⟩
  | false =>
    obtain ⟨ν', e1, e2, e3⟩ := z_addv_ok hs h1 h2
    cases hm : a.2.1 with
    | zero => exact ⟨ν', e1, by simp only [z_addv_len]; omega, e3, rfl, z_var_wf (by simp only [z_addv_len]; omega), by rw [z_var_ev]; exact e2⟩
    | succ k =>
      have ha : z_act X := h3.resolve_left (by omega)
      have hlen : z_len (z_app V.1 [(a.2.2.1, a.2.2.2.1)]) = z_len V.1 + 1 := z_addv_len
      refine ⟨ν', e1, by simp only [hlen]; omega, ⟨e3.1, e3.2.1, fun x hx => ?_⟩, rfl, z_var_wf (by simp only [hlen]; omega), by rw [z_var_ev]; exact e2⟩
      rcases List.mem_cons.mp hx with rfl | hx
      · exact ⟨by show _ < z_len (z_app V.1 _); rw [hlen]; omega, by rw [e2]; exact ha⟩
      · exact e3.2.2 x hx
theorem z_ld_ok {ν : Nat → Int} {β : ZB} {V : VS} {a : AV} {v : Value} (hs : z_sat ν V) (hm : z_mt ν (z_len V.1) β a v) : z_gv ν β V (z_ld V a) v := by
  have same : (∀ b, z_ld V a = b → b = (a, V) → z_gv ν β V b v) := fun b _ e => by rw [e]; exact ⟨ν, fun _ _ => rfl, Nat.le_refl _, hs, hm⟩
  obtain ⟨t, r⟩ := a
  match t, hm, same with
  | 1, hm, _ =>
    rcases hm with ⟨h1, _⟩ | ⟨_, x, rfl, hx⟩ | ⟨h1, _⟩ | ⟨h1, _⟩ | ⟨h1, _⟩ | ⟨h1, _⟩ | ⟨h1, _⟩ | ⟨h1, _⟩ | ⟨h1, _⟩ | ⟨h1, _⟩
    case inr.inl =>
      obtain ⟨ν', e1, e2, e3, e4, e5, e6⟩ := z_frA_ok (t := 0) (a := (1, r)) hs hx
      exact ⟨ν', e1, e2, e3, Or.inl ⟨e4, e5, x, rfl, e6.symm⟩⟩
    all_goals (simp at h1)
  | 3, hm, _ =>
    rcases hm with ⟨h1, _⟩ | ⟨h1, _⟩ | ⟨h1, _⟩ | ⟨_, x, rfl, hx⟩ | ⟨h1, _⟩ | ⟨h1, _⟩ | ⟨h1, _⟩ | ⟨h1, _⟩ | ⟨h1, _⟩ | ⟨h1, _⟩
    case inr.inr.inr.inl =>
      obtain ⟨ν', e1, e2, e3, e4, e5, e6⟩ := z_frA_ok (t := 2) (a := (3, r)) hs hx
      exact ⟨ν', e1, e2, e3, Or.inr (Or.inr (Or.inl ⟨e4, e5, x, rfl, e6.symm⟩))⟩
    all_goals (simp at h1)
  | 0, _, same => exact same _ rfl rfl
  | 2, _, same => exact same _ rfl rfl
  | t + 4, _, same => exact same _ rfl rfl
/-- does a read value go back into its cell, under its name? -/
def z_bk (a : AV) : Bool := match a.1 with
  | 1 => true
  | 3 => true
  | _ => false
def h_get (ci k np : Nat) : ZH := fun _ loc stk V h n sl => z_bd (z_p1 stk) fun a => z_if (Nat.beq a.1.1 4) (z_bd (z_g2 h a.1.2.1) fun c => z_if (z_and (Nat.beq (Nat.mod c.1 100) 0) (Nat.beq c.2.1 ci)) (z_bd (z_nth c.2.2 k) fun v => match z_bk v with
  | false => some ([(np, loc, v :: a.2, V, h, n, sl)], [])
  | true => some ([(np, loc, (z_ld V v).1 :: a.2, (z_ld V v).2, z_s2 h a.1.2.1 (c.1, c.2.1, z_put c.2.2 k (z_ld V v).1), n, sl)], [])))
def z_kp (fk : Nat) (a : AV) : Bool := match fk with
  | 0 => z_isI a
  | 1 => z_isL a
  | _ => z_isRn a
def h_put (ci k fk np : Nat) : ZH := fun _ loc stk V h n sl => z_bd (z_p1 stk) fun a => z_bd (z_p1 a.2) fun d => z_if (z_and (Nat.beq d.1.1 4) (z_kp fk a.1)) (z_bd (z_g2 h d.1.2.1) fun c => z_if (z_and (Nat.beq c.1 0) (Nat.beq c.2.1 ci)) (z_bd (z_nth c.2.2 k) fun _ => some ([(np, loc, d.2, V, z_s2 h d.1.2.1 (0, ci, z_put c.2.2 k a.1), n, sl)], [])))
def z_vk (fk : Nat) (x : Value) : Prop := match fk with
  | 0 => ∃ i, x = .int i
  | 1 => ∃ i, x = .long i
  | _ => ∃ i, x = .ref i
def z_tyok (fk : Nat) (ty : FieldType) : Prop := ∀ x : Value, z_vk fk x → narrow ty x = x ∧ fits ty x = true
theorem z_tyI : z_tyok 0 .int := fun x ⟨i, h⟩ => by subst h; exact ⟨rfl, rfl⟩
theorem z_tyL : z_tyok 1 .long := fun x ⟨i, h⟩ => by subst h; exact ⟨rfl, rfl⟩
theorem z_tyO {C : String} : z_tyok 2 (.object C) := fun x ⟨i, h⟩ => by subst h; exact ⟨rfl, rfl⟩
theorem z_tyA {t : FieldType} : z_tyok 2 (.array t) := fun x ⟨i, h⟩ => by subst h; exact ⟨rfl, rfl⟩
theorem z_kp_ok {ν : Nat → Int} {nv fk : Nat} {β : ZB} {a : AV} {v : Value} (q : z_mt ν nv β a v) (h : z_kp fk a = true) : z_vk fk v := by
  match fk, h with
  | 0, h => obtain ⟨-, x, e, -⟩ := z_mt_i q h; exact ⟨x, e⟩
  | 1, h => obtain ⟨-, x, e, -⟩ := z_mt_l q h; exact ⟨x, e⟩
  | _ + 2, h => exact z_mt_rn q h
section LF
variable {S : List ZT} {ms : List ZM} {D : va_G} {K : Nat → ClassId} {β : ZB} {p : Program} {l : Launch} {e : Env} {R : Room} {s : State} {m : MethodId} {args : Array Value} {below : List Frame} {meth : Method} {c : Code} {Q : State → Prop} {σ0 : Nat → va_E} {ν0 : Nat → Int} {nv0 k0 nL : Nat} {E : ZE} {own mn : String} {cc : ByteArray} {loc : List (Nat × AV)} {stk : List AV} {V : VS} {h : T2 AC} {n sl : Nat} {res : List ZS × List ZO} {ν : Nat → Int} {σ : Nat → va_E} {H : Heap} {locs : List Loc} {ls : Array Slot} {vs : List Value} {pc np : Nat} {C host : String} {ci k ix N fk : Nat} {T : u_T} {ty0 : Nat → FieldType}
theorem z_fm_put1 {α β' : Type} {P : α → β' → Prop} {l : List α} {k : List β'} {i : Nat} {a : α} {b : β'} (q : z_fm P l k) (hb : k[i]? = some b) (h : P a b) : z_fm P (z_put l i a) k := by
  induction l generalizing k i with
  | nil => cases k with
    | nil => exact q
    | cons => exact q.elim
  | cons c l ih => cases k with
    | nil => exact q.elim
    | cons b' k => cases i with
      | zero => cases hb; exact ⟨h, q.2⟩
      | succ i => exact ⟨q.1, ih q.2 (by simpa using hb)⟩
theorem z_getI (hr : h_get ci k np E loc stk V h n sl = some res) (hS : ∀ st ∈ res.1, z_W D K β p l e R s m args below meth c Q σ0 ν0 nv0 k0 nL st) (P : z_P D K β s σ0 ν0 nv0 k0 nL loc stk V h n ν σ H locs ls vs) : ∃ (i : Nat) (fs : List Value) (v : Value) (rest : List Value), vs = .ref (β.1 + i) :: rest ∧ i < n ∧ σ i = .inr (ci, fs) ∧ fs[k]? = some v ∧ W p l e R s m args below meth c H locs (n - k0) sl Q (F0 m np ls (v :: rest)) := by
  obtain ⟨a, ha, hr⟩ := z_bdI hr
  obtain ⟨hk, hr⟩ := z_ifI hr
  obtain ⟨cl, hc, hr⟩ := z_bdI hr
  obtain ⟨hk2, hr⟩ := z_ifI hr
  obtain ⟨hk2, hk3⟩ := z_andI hk2
  obtain ⟨w, hw', hr⟩ := z_bdI hr
  obtain ⟨p1, p2, p3, p4, p5, p6, p7, p8⟩ := P
  rw [z_p1I ha] at p7
  obtain ⟨vx, rest, rfl, q1, q2⟩ := z_fm_cons p7
  obtain rfl := z_mt_r q1 hk
  have hk2 : cl.1 % 100 = 0 := Nat.eq_of_beq_eq_true hk2
  obtain ⟨h1, fs, h2, h3⟩ := z_obj p5 hc hk2
  have hk3 := Nat.eq_of_beq_eq_true hk3
  obtain ⟨v, h4, h5⟩ := z_fm_nth h3 hw'
  refine ⟨a.1.2.1, fs, v, rest, rfl, h1, by rw [← hk3]; exact h2, h4, ?_⟩
  cases hb : z_bk w with
  | false =>
    rw [hb] at hr
    cases hr
    exact hS _ List.mem_cons_self ν σ H locs ls _ ⟨p1, p2, p3, p4, p5, p6, ⟨h5, q2⟩, p8⟩
  | true =>
    rw [hb] at hr
    cases hr
    obtain ⟨ν', e1, e2, e3, e4⟩ := z_ld_ok p4 h5
    refine hS _ List.mem_cons_self ν' σ H locs ls _ ⟨fun i hi => (e1 i (Nat.lt_of_lt_of_le hi p2)).trans (p1 i hi), Nat.le_trans p2 e2, p3, e3, z_hm_re (z_hm_ext e1 e2 p5) hc h1 rfl (Or.inl ⟨hk2, fs, h2, ?_⟩), z_lm_ext e1 e2 p6, ⟨e4, z_fm_mono (fun _ _ => z_mt_ext e1 e2) q2⟩, p8⟩
    exact z_fm_put1 (z_fm_mono (fun _ _ => z_mt_ext e1 e2) h3) h4 e4
theorem s_get (J : CIn ci C T N ty0) (hk : k < N) (hl : Cond.fieldLink own ix (T k).1 (T k).2.1 (T k).2.2.1 ∈ bw) (d : decode cc pc = .ok (.getfield ix, 3)) (hn : pc + 3 = np) : z_sound S ms own mn cc nL pc (h_get ci k np) := by
  subst hn
  intro D K β p l e R s m args below meth c Q σ0 ν0 nv0 k0 E X loc stk V h n sl res hr hS hO ν σ H locs ls vs P
  obtain ⟨i, fs, v, rest, rfl, h1, h2, h3, kk⟩ := z_getI hr hS P
  exact hp_get X.1 P.2.2.2.2.2.2.2 J i h1 h2 k hk h3 hl d kk
theorem s_getN (J : CIn ci C T N ty0) (hk : k < N) (hl : Cond.fieldLinkNest own ix (T k).1 (T k).2.1 (T k).2.2.1 host ∈ nst) (d : decode cc pc = .ok (.getfield ix, 3)) (hn : pc + 3 = np) : z_sound S ms own mn cc nL pc (h_get ci k np) := by
  subst hn
  intro D K β p l e R s m args below meth c Q σ0 ν0 nv0 k0 E X loc stk V h n sl res hr hS hO ν σ H locs ls vs P
  obtain ⟨i, fs, v, rest, rfl, h1, h2, h3, kk⟩ := z_getI hr hS P
  exact hp_getN X.1 P.2.2.2.2.2.2.2 J i h1 h2 k hk h3 hl d kk
theorem z_putI (hr : h_put ci k fk np E loc stk V h n sl = some res) (hS : ∀ st ∈ res.1, z_W D K β p l e R s m args below meth c Q σ0 ν0 nv0 k0 nL st) (P : z_P D K β s σ0 ν0 nv0 k0 nL loc stk V h n ν σ H locs ls vs) : ∃ (i : Nat) (fs : List Value) (v : Value) (rest : List Value), vs = v :: .ref (β.1 + i) :: rest ∧ i < n ∧ σ i = .inr (ci, fs) ∧ k < fs.length ∧ z_vk fk v ∧ ∀ (H : Heap) (locs : List Loc), hw D β.1 n (va_up σ i (.inr (ci, fs.set k v))) s H locs → W p l e R s m args below meth c H locs (n - k0) sl Q (F0 m np ls rest) := by
  obtain ⟨a, ha, hr⟩ := z_bdI hr
  obtain ⟨g, hg, hr⟩ := z_bdI hr
  obtain ⟨hk, hr⟩ := z_ifI hr
  obtain ⟨hk, hkv⟩ := z_andI hk
  obtain ⟨cl, hc, hr⟩ := z_bdI hr
  obtain ⟨hk2, hr⟩ := z_ifI hr
  obtain ⟨hk2, hk3⟩ := z_andI hk2
  obtain ⟨w, hw', hr⟩ := z_bdI hr
  cases hr
  obtain ⟨p1, p2, p3, p4, p5, p6, p7, p8⟩ := P
  rw [z_p1I ha, z_p1I hg] at p7
  obtain ⟨v, r1, rfl, q1, q2⟩ := z_fm_cons p7
  obtain ⟨vx, rest, rfl, q3, q4⟩ := z_fm_cons q2
  obtain rfl := z_mt_r q3 hk
  have hk2 : cl.1 = 0 := Nat.eq_of_beq_eq_true hk2
  obtain ⟨h1, fs, h2, h3⟩ := z_obj p5 hc (by rw [hk2])
  rw [Nat.eq_of_beq_eq_true hk3] at h2
  obtain ⟨v0, h4, h5⟩ := z_fm_nth h3 hw'
  refine ⟨g.1.2.1, fs, v, rest, rfl, h1, h2, (List.getElem?_eq_some_iff.mp h4).1, z_kp_ok q1 hkv, fun H locs hH => hS _ List.mem_cons_self ν _ H locs ls rest ⟨p1, p2, p3, p4, z_hm_set p5 hc h1 (show (0 : Nat) < 99 by omega) (Or.inl ⟨rfl, fs.set k v, rfl, z_fm_put h3 q1⟩), p6, q4, hH⟩⟩
theorem s_put (J : CIn ci C T N ty0) (hk : k < N) (hf : (T k).2.2.2 = false) (hty : z_tyok fk (ty0 k)) (hl : Cond.fieldLink own ix (T k).1 (T k).2.1 (T k).2.2.1 ∈ bw) (d : decode cc pc = .ok (.putfield ix, 3)) (hn : pc + 3 = np) : z_sound S ms own mn cc nL pc (h_put ci k fk np) := by
  subst hn
  intro D K β p l e R s m args below meth c Q σ0 ν0 nv0 k0 E X loc stk V h n sl res hr hS hO ν σ H locs ls vs P
  obtain ⟨i, fs, v, rest, rfl, h1, h2, h3, h4, kk⟩ := z_putI hr hS P
  exact hp_put X.1 P.2.2.2.2.2.2.2 J i h1 h2 k hk hf (hty v h4).1 (hty v h4).2 h3 hl d kk
theorem s_putN (J : CIn ci C T N ty0) (hk : k < N) (hf : (T k).2.2.2 = false) (hty : z_tyok fk (ty0 k)) (hl : Cond.fieldLinkNest own ix (T k).1 (T k).2.1 (T k).2.2.1 host ∈ nst) (d : decode cc pc = .ok (.putfield ix, 3)) (hn : pc + 3 = np) : z_sound S ms own mn cc nL pc (h_put ci k fk np) := by
  subst hn
  intro D K β p l e R s m args below meth c Q σ0 ν0 nv0 k0 E X loc stk V h n sl res hr hS hO ν σ H locs ls vs P
  obtain ⟨i, fs, v, rest, rfl, h1, h2, h3, h4, kk⟩ := z_putI hr hS P
  exact hp_putN X.1 P.2.2.2.2.2.2.2 J i h1 h2 k hk hf (hty v h4).1 (hty v h4).2 h3 hl d kk
theorem s_putF (J : CIn ci C T N ty0) (hk : k < N) (hf : (T k).2.2.2 = true) (hdc : (T k).1 = own) (hty : z_tyok fk (ty0 k)) (hl : Cond.fieldLink own ix (T k).1 (T k).2.1 (T k).2.2.1 ∈ bw) (d : decode cc pc = .ok (.putfield ix, 3)) (hn : pc + 3 = np) : z_sound S ms own "<init>" cc nL pc (h_put ci k fk np) := by
  subst hn
  intro D K β p l e R s m args below meth c Q σ0 ν0 nv0 k0 E X loc stk V h n sl res hr hS hO ν σ H locs ls vs P
  obtain ⟨i, fs, v, rest, rfl, h1, h2, h3, h4, kk⟩ := z_putI hr hS P
  exact hp_putF X.1 P.2.2.2.2.2.2.2 J i h1 h2 k hk hf X.2.1 hdc (hty v h4).1 (hty v h4).2 h3 hl d kk
end LF
