/-! cells -/
theorem z_hm_set {ν : Nat → Int} {nv B b : Nat} {K : Nat → ClassId} {h : T2 AC} {n i : Nat} {σ : Nat → va_E} {c c' : AC} {e' : va_E} (q : z_hm ν nv B b K h n σ) (hg : z_g2 h i = some c) (hi : i < n) (hc : z_mc ν nv B b K c' e') : z_hm ν nv B b K (z_s2 h i c') n (va_up σ i e') := by
  intro j d hj
  by_cases e : i = j
  · subst e
    rw [z_g2_self hg] at hj
    cases hj
    exact Or.inr ⟨hi, by rw [va_up_self]; exact hc⟩
  · rw [z_g2_ne _ _ e] at hj
    exact (q j d hj).imp id (fun z => ⟨z.1, by rw [va_up_ne _ _ (Ne.symm e)]; exact z.2⟩)
theorem z_hm_new {ν : Nat → Int} {nv B b : Nat} {K : Nat → ClassId} {h : T2 AC} {n : Nat} {σ : Nat → va_E} {c c' : AC} {e' : va_E} (q : z_hm ν nv B b K h n σ) (hg : z_g2 h n = some c) (hc : z_mc ν nv B b K c' e') : z_hm ν nv B b K (z_s2 h n c') (n + 1) (va_up σ n e') := by
  intro j d hj
  by_cases e : n = j
  · subst e
    rw [z_g2_self hg] at hj
    cases hj
    exact Or.inr ⟨Nat.lt_succ_self _, by rw [va_up_self]; exact hc⟩
  · rw [z_g2_ne _ _ e] at hj
    exact (q j d hj).imp id (fun z => ⟨Nat.lt_succ_of_lt z.1, by rw [va_up_ne _ _ (Ne.symm e)]; exact z.2⟩)
section LC
variable {ν : Nat → Int} {nv B b : Nat} {K : Nat → ClassId} {h : T2 AC} {n i : Nat} {σ : Nat → va_E} {c : AC}
theorem z_obj (q : z_hm ν nv B b K h n σ) (hg : z_g2 h i = some c) (h0 : Nat.beq c.1 0 = true) : i < n ∧ ∃ vs, σ i = .inr (c.2.1, vs) ∧ z_fm (z_mt ν nv B b) c.2.2 vs := by
  have h0 := Nat.eq_of_beq_eq_true h0
  rcases q i c hg with e | ⟨h1, ⟨-, h2⟩ | ⟨h2, -⟩ | ⟨h2, -⟩ | ⟨h2, -⟩⟩
  · omega
  · exact ⟨h1, h2⟩
  all_goals omega
theorem z_arI (q : z_hm ν nv B b K h n σ) (hg : z_g2 h i = some c) (h0 : c.1 = 1 ∨ c.1 = 2 ∨ c.1 = 4) : i < n ∧ ∃ f : Nat → Int32, σ i = .inl (K (c.1 - 1), c.2.1, .inl f) ∧ ∀ j, j < c.2.1 → ∃ a, z_at c.2.2 j = some a ∧ z_mt ν nv B b a (.int (f j)) := by
  rcases q i c hg with e | ⟨h1, ⟨h2, -⟩ | ⟨-, h2⟩ | ⟨h2, -⟩ | ⟨h2, -⟩⟩
  · omega
  · omega
  · exact ⟨h1, h2⟩
  all_goals omega
theorem z_arL (q : z_hm ν nv B b K h n σ) (hg : z_g2 h i = some c) (h0 : c.1 = 3) : i < n ∧ ∃ f : Nat → Int64, σ i = .inl (K 2, c.2.1, .inr (.inl f)) ∧ ∀ j, j < c.2.1 → ∃ a, z_at c.2.2 j = some a ∧ z_mt ν nv B b a (.long (f j)) := by
  rcases q i c hg with e | ⟨h1, ⟨h2, -⟩ | ⟨h2, -⟩ | ⟨-, h2⟩ | ⟨h2, -⟩⟩
  · omega
  · omega
  · omega
  · exact ⟨h1, h2⟩
  · omega
theorem z_arR (q : z_hm ν nv B b K h n σ) (hg : z_g2 h i = some c) (h0 : c.1 = 5 ∨ c.1 = 6) : i < n ∧ ∃ f : Nat → Option Nat, σ i = .inl (K (c.1 - 1), c.2.1, .inr (.inr (.inr (.inr f)))) ∧ ∀ j, j < c.2.1 → ∃ a, z_at c.2.2 j = some a ∧ z_mt ν nv B b a (z_rf (f j)) := by
  rcases q i c hg with e | ⟨h1, ⟨h2, -⟩ | ⟨h2, -⟩ | ⟨h2, -⟩ | ⟨-, h2⟩⟩
  · omega
  · omega
  · omega
  · omega
  · exact ⟨h1, h2⟩
end LC
/-- fields -/
def h_get (ci k np : Nat) : ZH := fun _ loc stk V h n sl => z_bd (z_p1 stk) fun a => z_if (Nat.beq a.1.1 4) (z_bd (z_g2 h a.1.2.1) fun c => z_if (z_and (Nat.beq c.1 0) (Nat.beq c.2.1 ci)) (z_bd (z_nth c.2.2 k) fun v => some ([(np, loc, v :: a.2, V, h, n, sl)], [])))
def z_kp (fk : Nat) (a : AV) : Bool := match fk with
  | 0 => z_isI a
  | 1 => z_isL a
  | _ => Nat.beq a.1 4
def h_put (ci k fk np : Nat) : ZH := fun _ loc stk V h n sl => z_bd (z_p1 stk) fun a => z_bd (z_p1 a.2) fun d => z_if (z_and (Nat.beq d.1.1 4) (z_kp fk a.1)) (z_bd (z_g2 h d.1.2.1) fun c => z_if (z_and (Nat.beq c.1 0) (Nat.beq c.2.1 ci)) (z_bd (z_nth c.2.2 k) fun _ => some ([(np, loc, d.2, V, z_s2 h d.1.2.1 (0, ci, z_put c.2.2 k a.1), n, sl)], [])))
def z_vk (fk : Nat) (x : Value) : Prop := match fk with
  | 0 => ∃ i, x = .int i
  | 1 => ∃ i, x = .long i
  | _ => ∃ i, x = .ref i
def z_tyok (fk : Nat) (ty : FieldType) : Prop := ∀ x : Value, z_vk fk x → narrow ty x = x ∧ fits ty x = true
theorem z_tyI : z_tyok 0 .int := fun x ⟨i, h⟩ => by subst h; exact ⟨rfl, rfl⟩
theorem z_tyL : z_tyok 1 .long := fun x ⟨i, h⟩ => by subst h; exact ⟨rfl, rfl⟩
theorem z_tyO {C : String} : z_tyok 2 (.object C) := fun x ⟨i, h⟩ => by subst h; exact ⟨rfl, rfl⟩
theorem z_tyA {t : FieldType} : z_tyok 2 (.array t) := fun x ⟨i, h⟩ => by subst h; exact ⟨rfl, rfl⟩
theorem z_kp_ok {ν : Nat → Int} {nv B b fk : Nat} {a : AV} {v : Value} (q : z_mt ν nv B b a v) (h : z_kp fk a = true) : z_vk fk v := by
  match fk, h with
  | 0, h => obtain ⟨x, e, -⟩ := z_mt_i q h; exact ⟨x, e⟩
  | 1, h => obtain ⟨x, e, -⟩ := z_mt_l q h; exact ⟨x, e⟩
  | _ + 2, h => exact ⟨_, z_mt_r q h⟩
section LF
variable {ms : List ZM} {own mn C host : String} {cc : ByteArray} {nL pc np ci k ix N fk : Nat} {T : u_T} {ty0 : Nat → FieldType}
theorem z_getI {D : va_G} {K : Nat → ClassId} {B b : Nat} {p : Program} {l : Launch} {e : Env} {R : Room} {s : State} {m : MethodId} {args : Array Value} {below : List Frame} {meth : Method} {c : Code} {Q : State → Prop} {ν0 : Nat → Int} {nv0 k0 : Nat} {E : ZE} {loc : List (Nat × AV)} {stk : List AV} {V : VS} {h : T2 AC} {n sl : Nat} {res : List ZS × List ZO} {ν : Nat → Int} {σ : Nat → va_E} {H : Heap} {locs : List Loc} {ls : Array Slot} {vs : List Value} (hr : h_get ci k np E loc stk V h n sl = some res) (hS : ∀ st ∈ res.1, z_W D K B b p l e R s m args below meth c Q ν0 nv0 k0 nL st) (P : z_P D K B b s ν0 nv0 k0 nL loc stk V h n ν σ H locs ls vs) : ∃ (i : Nat) (fs : List Value) (v : Value) (rest : List Value), vs = .ref (B + i) :: rest ∧ i < n ∧ σ i = .inr (ci, fs) ∧ fs[k]? = some v ∧ W p l e R s m args below meth c H locs (n - k0) sl Q (F0 m np ls (v :: rest)) := by
  obtain ⟨a, ha, hr⟩ := z_bdI hr
  obtain ⟨hk, hr⟩ := z_ifI hr
  obtain ⟨cl, hc, hr⟩ := z_bdI hr
  obtain ⟨hk2, hr⟩ := z_ifI hr
  obtain ⟨hk2, hk3⟩ := z_andI hk2
  obtain ⟨w, hw', hr⟩ := z_bdI hr
  cases hr
  have p7 := P.2.2.2.2.2.2.1
  rw [z_p1I ha] at p7
  obtain ⟨vx, rest, rfl, q1, q2⟩ := z_fm_cons p7
  obtain rfl := z_mt_r q1 hk
  obtain ⟨h1, fs, h2, h3⟩ := z_obj P.2.2.2.2.1 hc hk2
  rw [Nat.eq_of_beq_eq_true hk3] at h2
  obtain ⟨v, h4, h5⟩ := z_fm_nth h3 hw'
  exact ⟨a.1.2.1, fs, v, rest, rfl, h1, h2, h4, hS _ List.mem_cons_self ν σ H locs ls _ (z_Pk P ⟨h5, q2⟩)⟩
theorem s_get (J : CIn ci C T N ty0) (hk : k < N) (hl : Cond.fieldLink own ix (T k).1 (T k).2.1 (T k).2.2.1 ∈ bw) (d : decode cc pc = .ok (.getfield ix, 3)) (hn : pc + 3 = np) : z_sound ms own mn cc nL pc (h_get ci k np) := by
  subst hn
  intro D K B b p l e R s m args below meth c Q ν0 nv0 k0 E X loc stk V h n sl res hr hS hO ν σ H locs ls vs P
  obtain ⟨i, fs, v, rest, rfl, h1, h2, h3, kk⟩ := z_getI hr hS P
  exact hp_get X.1 P.2.2.2.2.2.2.2 J i h1 h2 k hk h3 hl d kk
theorem s_getN (J : CIn ci C T N ty0) (hk : k < N) (hl : Cond.fieldLinkNest own ix (T k).1 (T k).2.1 (T k).2.2.1 host ∈ nst) (d : decode cc pc = .ok (.getfield ix, 3)) (hn : pc + 3 = np) : z_sound ms own mn cc nL pc (h_get ci k np) := by
  subst hn
  intro D K B b p l e R s m args below meth c Q ν0 nv0 k0 E X loc stk V h n sl res hr hS hO ν σ H locs ls vs P
  obtain ⟨i, fs, v, rest, rfl, h1, h2, h3, kk⟩ := z_getI hr hS P
  exact hp_getN X.1 P.2.2.2.2.2.2.2 J i h1 h2 k hk h3 hl d kk
theorem z_putI {D : va_G} {K : Nat → ClassId} {B b : Nat} {p : Program} {l : Launch} {e : Env} {R : Room} {s : State} {m : MethodId} {args : Array Value} {below : List Frame} {meth : Method} {c : Code} {Q : State → Prop} {ν0 : Nat → Int} {nv0 k0 : Nat} {E : ZE} {loc : List (Nat × AV)} {stk : List AV} {V : VS} {h : T2 AC} {n sl : Nat} {res : List ZS × List ZO} {ν : Nat → Int} {σ : Nat → va_E} {H : Heap} {locs : List Loc} {ls : Array Slot} {vs : List Value} (hr : h_put ci k fk np E loc stk V h n sl = some res) (hS : ∀ st ∈ res.1, z_W D K B b p l e R s m args below meth c Q ν0 nv0 k0 nL st) (P : z_P D K B b s ν0 nv0 k0 nL loc stk V h n ν σ H locs ls vs) : ∃ (i : Nat) (fs : List Value) (v : Value) (rest : List Value), vs = v :: .ref (B + i) :: rest ∧ i < n ∧ σ i = .inr (ci, fs) ∧ k < fs.length ∧ z_vk fk v ∧ ∀ (H : Heap) (locs : List Loc), hw D B n (va_up σ i (.inr (ci, fs.set k v))) s H locs → W p l e R s m args below meth c H locs (n - k0) sl Q (F0 m np ls rest) := by
  obtain ⟨a, ha, hr⟩ := z_bdI hr
  obtain ⟨g, hg, hr⟩ := z_bdI hr
  obtain ⟨hk, hr⟩ := z_ifI hr
  obtain ⟨hk, hkv⟩ := z_andI hk
  obtain ⟨cl, hc, hr⟩ := z_bdI hr
  obtain ⟨hk2, hr⟩ := z_ifI hr
  obtain ⟨hk2, hk3⟩ := z_andI hk2
  obtain ⟨w, hw', hr⟩ := z_bdI hr
  cases hr
  obtain ⟨p1, p2, p3, p4, p5, p6, p7, p8⟩ := P
  rw [z_p1I ha, z_p1I hg] at p7
  obtain ⟨v, r1, rfl, q1, q2⟩ := z_fm_cons p7
  obtain ⟨vx, rest, rfl, q3, q4⟩ := z_fm_cons q2
  obtain rfl := z_mt_r q3 hk
  obtain ⟨h1, fs, h2, h3⟩ := z_obj p5 hc hk2
  rw [Nat.eq_of_beq_eq_true hk3] at h2
  obtain ⟨v0, h4, h5⟩ := z_fm_nth h3 hw'
  refine ⟨g.1.2.1, fs, v, rest, rfl, h1, h2, (List.getElem?_eq_some_iff.mp h4).1, z_kp_ok q1 hkv, fun H locs hH => hS _ List.mem_cons_self ν _ H locs ls rest ⟨p1, p2, p3, p4, z_hm_set p5 hc h1 (Or.inl ⟨rfl, fs.set k v, rfl, z_fm_put h3 q1⟩), p6, q4, hH⟩⟩
theorem s_put (J : CIn ci C T N ty0) (hk : k < N) (hf : (T k).2.2.2 = false) (hty : z_tyok fk (ty0 k)) (hl : Cond.fieldLink own ix (T k).1 (T k).2.1 (T k).2.2.1 ∈ bw) (d : decode cc pc = .ok (.putfield ix, 3)) (hn : pc + 3 = np) : z_sound ms own mn cc nL pc (h_put ci k fk np) := by
  subst hn
  intro D K B b p l e R s m args below meth c Q ν0 nv0 k0 E X loc stk V h n sl res hr hS hO ν σ H locs ls vs P
  obtain ⟨i, fs, v, rest, rfl, h1, h2, h3, h4, kk⟩ := z_putI hr hS P
  exact hp_put X.1 P.2.2.2.2.2.2.2 J i h1 h2 k hk hf (hty v h4).1 (hty v h4).2 h3 hl d kk
theorem s_putN (J : CIn ci C T N ty0) (hk : k < N) (hf : (T k).2.2.2 = false) (hty : z_tyok fk (ty0 k)) (hl : Cond.fieldLinkNest own ix (T k).1 (T k).2.1 (T k).2.2.1 host ∈ nst) (d : decode cc pc = .ok (.putfield ix, 3)) (hn : pc + 3 = np) : z_sound ms own mn cc nL pc (h_put ci k fk np) := by
  subst hn
  intro D K B b p l e R s m args below meth c Q ν0 nv0 k0 E X loc stk V h n sl res hr hS hO ν σ H locs ls vs P
  obtain ⟨i, fs, v, rest, rfl, h1, h2, h3, h4, kk⟩ := z_putI hr hS P
  exact hp_putN X.1 P.2.2.2.2.2.2.2 J i h1 h2 k hk hf (hty v h4).1 (hty v h4).2 h3 hl d kk
theorem s_putF (J : CIn ci C T N ty0) (hk : k < N) (hf : (T k).2.2.2 = true) (hdc : (T k).1 = own) (hty : z_tyok fk (ty0 k)) (hl : Cond.fieldLink own ix (T k).1 (T k).2.1 (T k).2.2.1 ∈ bw) (d : decode cc pc = .ok (.putfield ix, 3)) (hn : pc + 3 = np) : z_sound ms own "<init>" cc nL pc (h_put ci k fk np) := by
  subst hn
  intro D K B b p l e R s m args below meth c Q ν0 nv0 k0 E X loc stk V h n sl res hr hS hO ν σ H locs ls vs P
  obtain ⟨i, fs, v, rest, rfl, h1, h2, h3, h4, kk⟩ := z_putI hr hS P
  exact hp_putF X.1 P.2.2.2.2.2.2.2 J i h1 h2 k hk hf X.2.1 hdc (hty v h4).1 (hty v h4).2 h3 hl d kk
end LF
/-- what is read of a row: one for all, or one each -/
def z_hull (V : VS) : List AV → Option (Int × Int)
  | [] => none
  | a :: l => match l with
    | [] => z_iv V a
    | _ :: _ => z_bd (z_iv V a) fun i => z_bd (z_hull V l) fun j => some (z_min i.1 j.1, z_max i.2 j.2)
theorem z_hull_ok {V : VS} {l : List AV} {w : Int × Int} (h : z_hull V l = some w) {j : Nat} {a : AV} (ha : z_nth l j = some a) : ∃ i, z_iv V a = some i ∧ w.1 ≤ i.1 ∧ i.2 ≤ w.2 := by
  induction l generalizing j w with
  | nil => cases ha
  | cons d l ih =>
    cases l with
    | nil =>
      cases j with
      | zero => cases ha; exact ⟨w, h, Int.le_refl _, Int.le_refl _⟩
      | succ j => cases ha
    | cons d2 l =>
      obtain ⟨i, hi, h⟩ := z_bdI h
      obtain ⟨q, hq, h⟩ := z_bdI h
      cases h
      cases j with
      | zero => cases ha; exact ⟨i, hi, z_min_le.1, z_max_le.1⟩
      | succ j =>
        obtain ⟨i2, e1, e2, e3⟩ := ih hq ha
        exact ⟨i2, e1, Int.le_trans z_min_le.2.1 e2, Int.le_trans e3 z_max_le.2.1⟩
def z_rd (t : Nat) (V : VS) (l : List AV) (q : Int × Int) : Option AV := match l with
  | [] => none
  | [a] => some a
  | a :: d :: k => match z_one q with
    | true => z_nth (a :: d :: k) (Int.toNat q.1)
    | false => z_bd (z_hull V (a :: d :: k)) fun w => some (t, 0, w)
theorem z_rdI {ν : Nat → Int} {B b : Nat} {V : VS} {l : List AV} {q : Int × Int} {r : AV} {j : Nat} {a : AV} {x : Int32} (hs : z_sat ν V) (h : z_rd 0 V l q = some r) (h1 : q.1 ≤ j) (h2 : (j : Int) ≤ q.2) (ha : z_at l j = some a) (hm : z_mt ν (z_len V) B b a (.int x)) : z_mt ν (z_len V) B b r (.int x) := by
  match l, h, ha with
  | [d], h, ha => cases h; cases ha; exact hm
  | d :: g :: k, h, ha =>
    unfold z_rd at h
    cases ho : z_one q with
    | true =>
      rw [ho] at h
      have := z_le_iff.mp ho
      have e : Int.toNat q.1 = j := by omega
      have h' : z_nth (d :: g :: k) (Int.toNat q.1) = some r := h
      rw [e] at h'
      cases h'.symm.trans ha
      exact hm
    | false =>
      rw [ho] at h
      obtain ⟨w, hw', h⟩ := z_bdI h
      cases h
      obtain ⟨i, e1, e2, e3⟩ := z_hull_ok hw' ha
      have hI : z_isI a = true := z_isI_iff.mpr (by
        rcases hm with ⟨g1, -⟩ | ⟨g1, y, g2, -⟩ | ⟨-, g2⟩ | ⟨-, g2⟩ | ⟨-, g2⟩
        · exact g1
        all_goals cases g2)
      obtain ⟨y, hy, hz⟩ := z_mt_i hm hI
      cases hy
      have := z_iv_ok hs hz e1
      exact z_mkI (Int.le_trans e2 this.1) (Int.le_trans this.2 e3)
theorem z_rdL {ν : Nat → Int} {B b : Nat} {V : VS} {l : List AV} {q : Int × Int} {r : AV} {j : Nat} {a : AV} {x : Int64} (hs : z_sat ν V) (h : z_rd 2 V l q = some r) (h1 : q.1 ≤ j) (h2 : (j : Int) ≤ q.2) (ha : z_at l j = some a) (hm : z_mt ν (z_len V) B b a (.long x)) : z_mt ν (z_len V) B b r (.long x) := by
  match l, h, ha with
  | [d], h, ha => cases h; cases ha; exact hm
  | d :: g :: k, h, ha =>
    unfold z_rd at h
    cases ho : z_one q with
    | true =>
      rw [ho] at h
      have := z_le_iff.mp ho
      have e : Int.toNat q.1 = j := by omega
      have h' : z_nth (d :: g :: k) (Int.toNat q.1) = some r := h
      rw [e] at h'
      cases h'.symm.trans ha
      exact hm
    | false =>
      rw [ho] at h
      obtain ⟨w, hw', h⟩ := z_bdI h
      cases h
      obtain ⟨i, e1, e2, e3⟩ := z_hull_ok hw' ha
      have hI : z_isL a = true := z_isL_iff.mpr (by
        rcases hm with ⟨g1, y, g2, -⟩ | ⟨g1, -⟩ | ⟨-, g2⟩ | ⟨-, g2⟩ | ⟨-, g2⟩
        · cases g2
        · exact g1
        all_goals cases g2)
      obtain ⟨y, hy, hz⟩ := z_mt_l hm hI
      cases hy
      have := z_iv_ok hs hz e1
      exact z_mkL (Int.le_trans e2 this.1) (Int.le_trans this.2 e3)
def z_inb (q : Int × Int) (len : Nat) : Bool := z_and (z_le 0 q.1) (z_le (Int.add q.2 1) (Int.ofNat len))
theorem z_inbI {q : Int × Int} {len : Nat} {x : Int32} (h : z_inb q len = true) (h1 : q.1 ≤ x.toInt) (h2 : x.toInt ≤ q.2) : vp_in x len ∧ (x.toNatClampNeg : Int) = x.toInt ∧ x.toNatClampNeg < len := by
  obtain ⟨a1, a2⟩ := z_andI h
  have a1 := z_le_iff.mp a1
  have a2 : q.2 + 1 ≤ (len : Int) := z_le_iff.mp a2
  have e : (x.toNatClampNeg : Int) = x.toInt := rg_clamp (a := q.1) (b := q.2) ⟨h1, h2⟩ a1
  exact ⟨vp_in_iff.mpr ⟨by omega, by omega⟩, e, by omega⟩
def h_ald (kk t np : Nat) : ZH := fun _ loc stk V h n sl => z_bd (z_p1 stk) fun a => z_bd (z_p1 a.2) fun d => z_if (z_and (z_isI a.1) (Nat.beq d.1.1 4)) (z_bd (z_g2 h d.1.2.1) fun c => z_if (Nat.beq c.1 kk) (z_bd (z_iv V a.1) fun q => z_if (z_inb q c.2.1) (z_bd (z_rd t V c.2.2 q) fun v => some ([(np, loc, v :: d.2, V, h, n, sl)], []))))
section LA
variable {ms : List ZM} {own mn : String} {cc : ByteArray} {nL pc np : Nat}
theorem z_ald {kk t : Nat} {D : va_G} {K : Nat → ClassId} {B b : Nat} {p : Program} {l : Launch} {e : Env} {R : Room} {s : State} {m : MethodId} {args : Array Value} {below : List Frame} {meth : Method} {c : Code} {Q : State → Prop} {ν0 : Nat → Int} {nv0 k0 : Nat} {E : ZE} {loc : List (Nat × AV)} {stk : List AV} {V : VS} {h : T2 AC} {n sl : Nat} {res : List ZS × List ZO} {ν : Nat → Int} {σ : Nat → va_E} {H : Heap} {locs : List Loc} {ls : Array Slot} {vs : List Value} (hr : h_ald kk t np E loc stk V h n sl = some res) (hS : ∀ st ∈ res.1, z_W D K B b p l e R s m args below meth c Q ν0 nv0 k0 nL st) (P : z_P D K B b s ν0 nv0 k0 nL loc stk V h n ν σ H locs ls vs) : ∃ (i : Nat) (x : Int32) (rest : List Value) (cl : AC) (q : Int × Int) (r : AV), vs = .int x :: .ref (B + i) :: rest ∧ z_g2 h i = some cl ∧ cl.1 = kk ∧ vp_in x cl.2.1 ∧ x.toNatClampNeg < cl.2.1 ∧ q.1 ≤ (x.toNatClampNeg : Int) ∧ (x.toNatClampNeg : Int) ≤ q.2 ∧ z_rd t V cl.2.2 q = some r ∧ ∀ v, z_mt ν (z_len V) B b r v → W p l e R s m args below meth c H locs (n - k0) sl Q (F0 m np ls (v :: rest)) := by
  obtain ⟨a, ha, hr⟩ := z_bdI hr
  obtain ⟨g, hg, hr⟩ := z_bdI hr
  obtain ⟨hk, hr⟩ := z_ifI hr
  obtain ⟨hka, hkg⟩ := z_andI hk
  obtain ⟨cl, hc, hr⟩ := z_bdI hr
  obtain ⟨hk2, hr⟩ := z_ifI hr
  obtain ⟨q, hq, hr⟩ := z_bdI hr
  obtain ⟨hin, hr⟩ := z_ifI hr
  obtain ⟨r, hrd, hr⟩ := z_bdI hr
  cases hr
  have p7 := P.2.2.2.2.2.2.1
  rw [z_p1I ha, z_p1I hg] at p7
  obtain ⟨vx, r1, rfl, q1, q2⟩ := z_fm_cons p7
  obtain ⟨vr, rest, rfl, q3, q4⟩ := z_fm_cons q2
  obtain ⟨x, rfl, hx⟩ := z_mt_i q1 hka
  obtain rfl := z_mt_r q3 hkg
  have hb := z_iv_ok P.2.2.2.1 hx hq
  obtain ⟨b1, b2, b3⟩ := z_inbI hin hb.1 hb.2
  exact ⟨g.1.2.1, x, rest, cl, q, r, rfl, hc, Nat.eq_of_beq_eq_true hk2, b1, b3, by rw [b2]; exact hb.1, by rw [b2]; exact hb.2, hrd, fun v hv => hS _ List.mem_cons_self ν σ H locs ls _ (z_Pk P ⟨hv, q4⟩)⟩
theorem s_iaload (d : decode cc pc = .ok (.iaload, 1)) (hn : pc + 1 = np) : z_sound ms own mn cc nL pc (h_ald 1 0 np) := by
  subst hn
  intro D K B b p l e R s m args below meth c Q ν0 nv0 k0 E X loc stk V h n sl res hr hS hO ν σ H locs ls vs P
  obtain ⟨i, x, rest, cl, q, r, rfl, hc, e1, h1, h2, h3, h4, h5, kk⟩ := z_ald hr hS P
  obtain ⟨hi, f, hf, hel⟩ := z_arI P.2.2.2.2.1 hc (Or.inl e1)
  rw [e1] at hf
  obtain ⟨a, ha, hm⟩ := hel _ h2
  exact hp_iald X.1 P.2.2.2.2.2.2.2 i hi hf h1 rfl d (kk _ (z_rdI P.2.2.2.1 h5 h3 h4 ha hm))
theorem s_baload (d : decode cc pc = .ok (.baload, 1)) (hn : pc + 1 = np) : z_sound ms own mn cc nL pc (h_ald 2 0 np) := by
  subst hn
  intro D K B b p l e R s m args below meth c Q ν0 nv0 k0 E X loc stk V h n sl res hr hS hO ν σ H locs ls vs P
  obtain ⟨i, x, rest, cl, q, r, rfl, hc, e1, h1, h2, h3, h4, h5, kk⟩ := z_ald hr hS P
  obtain ⟨hi, f, hf, hel⟩ := z_arI P.2.2.2.2.1 hc (Or.inr (Or.inl e1))
  rw [e1] at hf
  obtain ⟨a, ha, hm⟩ := hel _ h2
  exact hp_bald X.1 P.2.2.2.2.2.2.2 i hi hf h1 rfl d (kk _ (z_rdI P.2.2.2.1 h5 h3 h4 ha hm))
theorem s_zaload (d : decode cc pc = .ok (.baload, 1)) (hn : pc + 1 = np) : z_sound ms own mn cc nL pc (h_ald 4 0 np) := by
  subst hn
  intro D K B b p l e R s m args below meth c Q ν0 nv0 k0 E X loc stk V h n sl res hr hS hO ν σ H locs ls vs P
  obtain ⟨i, x, rest, cl, q, r, rfl, hc, e1, h1, h2, h3, h4, h5, kk⟩ := z_ald hr hS P
  obtain ⟨hi, f, hf, hel⟩ := z_arI P.2.2.2.2.1 hc (Or.inr (Or.inr e1))
  rw [e1] at hf
  obtain ⟨a, ha, hm⟩ := hel _ h2
  exact hp_zald X.1 P.2.2.2.2.2.2.2 i hi hf h1 rfl d (kk _ (z_rdI P.2.2.2.1 h5 h3 h4 ha hm))
theorem s_laload (d : decode cc pc = .ok (.laload, 1)) (hn : pc + 1 = np) : z_sound ms own mn cc nL pc (h_ald 3 2 np) := by
  subst hn
  intro D K B b p l e R s m args below meth c Q ν0 nv0 k0 E X loc stk V h n sl res hr hS hO ν σ H locs ls vs P
  obtain ⟨i, x, rest, cl, q, r, rfl, hc, e1, h1, h2, h3, h4, h5, kk⟩ := z_ald hr hS P
  obtain ⟨hi, f, hf, hel⟩ := z_arL P.2.2.2.2.1 hc e1
  obtain ⟨a, ha, hm⟩ := hel _ h2
  exact hp_lald X.1 P.2.2.2.2.2.2.2 i hi hf h1 rfl d (kk _ (z_rdL P.2.2.2.1 h5 h3 h4 ha hm))
end LA
