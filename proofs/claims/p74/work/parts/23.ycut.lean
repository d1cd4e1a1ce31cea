/-! templates of cells, locals, names -/
def z_inK (V : VS) (θ : TH) (m k : Nat) (c0 c : Nat × List AV) : Bool := match k with
  | 0 => z_inL V θ m c0.2 c.2
  | 7 => match c0.2 with
    | [so0, sz0] => match c.2 with
      | [so, sz] => z_and (z_eqF V θ m (z_fm2 so0) (z_fm2 so)) (z_eqF V θ m (z_fm2 sz0) (z_fm2 sz))
      | _ => false
    | _ => false
  | _ => z_inAr V θ m c0.1 c0.2 c.2
def z_inC (V : VS) (θ : TH) (m : Nat) (c0 c : AC) : Bool := match Nat.beq c0.1 99 with
  | true => Nat.ble 99 c.1
  | false => z_and (z_and (Nat.beq (Nat.mod c0.1 100) (Nat.mod c.1 100)) (z_and (Nat.ble (Nat.mod c0.1 100) 7) (match Nat.ble 100 c0.1 with
    | true => Nat.ble 100 c.1
    | false => true))) (z_and (Nat.beq c0.2.1 c.2.1) (z_inK V θ m (Nat.mod c0.1 100) c0.2 c.2))
theorem z_inC_ok {ν : Nat → Int} {β : ZB} {K : Nat → ClassId} {σ0 : Nat → va_E} {V : VS} {θ : TH} {m n i : Nat} {c0 c : AC} {σ : Nat → va_E} (hs : z_sat ν V) (h : z_inC V θ m c0 c = true) (hc : (99 ≤ c.1 → σ i = σ0 i) ∧ (c.1 = 99 ∨ (i < n ∧ z_mc ν (z_len V.1) β K (c.1 % 100, c.2) (σ i)))) : (99 ≤ c0.1 → σ i = σ0 i) ∧ (c0.1 = 99 ∨ (i < n ∧ z_mc (z_nu ν θ) m β K (c0.1 % 100, c0.2) (σ i))) := by
  unfold z_inC at h
  cases h9 : Nat.beq c0.1 99 with
  | true =>
    rw [h9] at h
    have := Nat.eq_of_beq_eq_true h9
    exact ⟨fun _ => hc.1 (Nat.le_of_ble_eq_true h), Or.inl this⟩
  | false =>
    rw [h9] at h
    obtain ⟨h1, h2⟩ := z_andI h
    obtain ⟨h1, h3⟩ := z_andI h1
    obtain ⟨h3, h4⟩ := z_andI h3
    obtain ⟨h2, h5⟩ := z_andI h2
    have h1 : c0.1 % 100 = c.1 % 100 := Nat.eq_of_beq_eq_true h1
    have h3 : c0.1 % 100 ≤ 7 := Nat.le_of_ble_eq_true h3
    have h2 := Nat.eq_of_beq_eq_true h2
    have hne : c0.1 ≠ 99 := fun e => by rw [e] at h9; cases h9
    refine ⟨fun g => ?_, Or.inr ?_⟩
    · have g : 100 ≤ c0.1 := by omega
      cases hb : Nat.ble 100 c0.1 with
      | false => have := Nat.ble_eq_true_of_le g; rw [hb] at this; cases this
      | true =>
        rw [hb] at h4
        exact hc.1 (Nat.le_trans (by omega) (Nat.le_of_ble_eq_true h4))
    · rcases hc.2 with e | ⟨hi, hm⟩
      · rw [e] at h1; omega
      · refine ⟨hi, ?_⟩
        have h5 : z_inK V θ m (c0.1 % 100) c0.2 c.2 = true := h5
        rw [h1] at h5 ⊢
        generalize c.1 % 100 = k at h5 hm
        rcases hm with ⟨e, vs, e1, e2⟩ | ⟨e, f, e1, e2⟩ | ⟨e, f, e1, e2⟩ | ⟨e, f, e1, e2⟩ | ⟨e, f, so, sz, e1, e2, e3, e4, e5⟩
        · simp only at e e1 e2
          subst e
          exact Or.inl ⟨rfl, vs, by rw [e1, h2], z_inL_ok hs h5 e2⟩
        · simp only at e e1 e2
          have h6 : z_inAr V θ m c0.2.1 c0.2.2 c.2.2 = true := by rcases e with e | e | e <;> (subst e; exact h5)
          exact Or.inr (Or.inl ⟨e, f, by rw [e1, h2], z_inAr_ok (F := fun j => .int (f j)) hs h6 (by rw [h2]; exact e2)⟩)
        · simp only at e e1 e2
          have h6 : z_inAr V θ m c0.2.1 c0.2.2 c.2.2 = true := by subst e; exact h5
          exact Or.inr (Or.inr (Or.inl ⟨e, f, by rw [e1, h2], z_inAr_ok (F := fun j => .long (f j)) hs h6 (by rw [h2]; exact e2)⟩))
        · simp only at e e1 e2
          have h6 : z_inAr V θ m c0.2.1 c0.2.2 c.2.2 = true := by rcases e with e | e <;> (subst e; exact h5)
          exact Or.inr (Or.inr (Or.inr (Or.inl ⟨e, f, by rw [e1, h2], z_inAr_ok (F := fun j => z_rf (f j)) hs h6 (by rw [h2]; exact e2)⟩)))
        · simp only at e e1 e2
          subst e
          have h6 : (match c0.2.2 with
            | [so0, sz0] => match c.2.2 with
              | [so, sz] => z_and (z_eqF V θ m (z_fm2 so0) (z_fm2 so)) (z_eqF V θ m (z_fm2 sz0) (z_fm2 sz))
              | _ => false
            | _ => false) = true := h5
          match hl : c0.2.2, h6 with
          | [so0, sz0], h6 =>
            rw [e2] at h6
            obtain ⟨g1, g2⟩ := z_andI h6
            have g1 := z_eqF_ok hs g1
            have g2 := z_eqF_ok hs g2
            exact Or.inr (Or.inr (Or.inr (Or.inr ⟨rfl, f, so0, sz0, by rw [e1, h2], hl, g1.1, g2.1, by rw [g1.2, g2.2]; exact e5⟩)))
          | [], h6 => cases h6
          | [_], h6 => cases h6
          | _ :: _ :: _ :: _, h6 => cases h6
def z_inR1 (V : VS) (θ : TH) (m : Nat) : List AC → List AC → Bool
  | [], [] => true
  | a :: l, b :: k => z_and (z_inC V θ m a b) (z_inR1 V θ m l k)
  | [], _ :: _ => false
  | _ :: _, [] => false
def z_inH (V : VS) (θ : TH) (m : Nat) : T2 AC → T2 AC → Bool
  | [], [] => true
  | a :: l, b :: k => z_and (z_inR1 V θ m a b) (z_inH V θ m l k)
  | [], _ :: _ => false
  | _ :: _, [] => false
theorem z_inR1_nth {V : VS} {θ : TH} {m : Nat} {l0 l : List AC} (h : z_inR1 V θ m l0 l = true) {j : Nat} {c0 : AC} (hc : z_nth l0 j = some c0) : ∃ c, z_nth l j = some c ∧ z_inC V θ m c0 c = true := by
  induction l0 generalizing l j with
  | nil => cases hc
  | cons a l0 ih => cases l with
    | nil => cases h
    | cons b l =>
      obtain ⟨h1, h2⟩ := z_andI h
      cases j with
      | zero => cases hc; exact ⟨b, rfl, h1⟩
      | succ j => exact ih h2 hc
theorem z_inH_nth {V : VS} {θ : TH} {m : Nat} {l0 l : T2 AC} (h : z_inH V θ m l0 l = true) {j : Nat} {r0 : List AC} (hc : z_nth l0 j = some r0) : ∃ r, z_nth l j = some r ∧ z_inR1 V θ m r0 r = true := by
  induction l0 generalizing l j with
  | nil => cases hc
  | cons a l0 ih => cases l with
    | nil => cases h
    | cons b l =>
      obtain ⟨h1, h2⟩ := z_andI h
      cases j with
      | zero => cases hc; exact ⟨b, rfl, h1⟩
      | succ j => exact ih h2 hc
theorem z_inH_ok {ν : Nat → Int} {β : ZB} {K : Nat → ClassId} {σ0 : Nat → va_E} {V : VS} {θ : TH} {m n : Nat} {h0 h : T2 AC} {σ : Nat → va_E} (hs : z_sat ν V) (hi : z_inH V θ m h0 h = true) (q : z_hm ν (z_len V.1) β K σ0 h n σ) : z_hm (z_nu ν θ) m β K σ0 h0 n σ := by
  intro i c0 hc0
  unfold z_g2 at hc0
  cases hr : z_nth h0 (Nat.div i 16) with
  | none => rw [hr] at hc0; cases hc0
  | some r0 =>
    rw [hr] at hc0
    obtain ⟨r, h1, h2⟩ := z_inH_nth hi hr
    obtain ⟨c, h3, h4⟩ := z_inR1_nth h2 hc0
    have : z_g2 h i = some c := by unfold z_g2; rw [h1]; exact h3
    exact z_inC_ok hs h4 (q i c this)
def z_inLo (V : VS) (θ : TH) (m : Nat) (loc : List (Nat × AV)) : List (Nat × AV) → Bool
  | [] => true
  | q :: l => z_and (match z_lkp loc q.1 with
    | some a => z_inA V θ m q.2 a
    | none => false) (z_inLo V θ m loc l)
theorem z_inLo_ok {ν : Nat → Int} {β : ZB} {V : VS} {θ : TH} {m : Nat} {loc0 loc : List (Nat × AV)} {ls : Array Slot} {nL : Nat} (hs : z_sat ν V) (h : z_inLo V θ m loc loc0 = true) (q : z_lm ν (z_len V.1) β loc ls nL) : z_lm (z_nu ν θ) m β loc0 ls nL := by
  obtain ⟨lv, h1, h2⟩ := q
  suffices hh : ∃ lv0 : List (Nat × Value), (∀ q ∈ lv0, q ∈ lv) ∧ z_fm (fun (a : Nat × AV) (q : Nat × Value) => a.1 = q.1 ∧ z_mt (z_nu ν θ) m β a.2 q.2) loc0 lv0 by
    obtain ⟨lv0, g1, g2⟩ := hh
    exact ⟨lv0, ⟨h1.1, h1.2.1, fun q hq => h1.2.2 q (g1 q hq)⟩, g2⟩
  induction loc0 with
  | nil => exact ⟨[], (fun _ h => by cases h), trivial⟩
  | cons r l ih =>
    obtain ⟨g1, g2⟩ := z_andI h
    obtain ⟨lv0, i1, i2⟩ := ih g2
    cases ha : z_lkp loc r.1 with
    | none => rw [ha] at g1; cases g1
    | some a =>
      rw [ha] at g1
      obtain ⟨v, v1, v2⟩ := z_lkp_ok h2 ha
      exact ⟨(r.1, v) :: lv0, fun q hq => (List.mem_cons.mp hq).elim (fun e => e ▸ v1) (i1 q), ⟨rfl, z_inA_ok hs g1 v2⟩, i2⟩
def z_inV1 (V : VS) (θ : TH) : Nat → List (Int × Int) → Bool
  | _, [] => true
  | x, b :: l => z_and (match z_thl θ x with
    | some g => z_inR V g b.1 b.2
    | none => false) (z_inV1 V θ (Nat.succ x) l)
def z_inV2 (V : VS) (θ : TH) (m : Nat) : List FM → Bool
  | [] => true
  | g :: l => z_and (z_and (z_wfL m g.2) (match f_sbs θ g with
    | some k => f_le V k 0
    | none => false)) (z_inV2 V θ m l)
def z_inV (V : VS) (θ : TH) (V0 : VS) : Bool := z_and (z_inV1 V θ 0 V0.1) (z_and (z_inV2 V θ (z_len V0.1) V0.2.1) (match V0.2.2 with
  | [] => true
  | _ :: _ => false))
theorem z_inV1_ok {ν : Nat → Int} {V : VS} {θ : TH} {x : Nat} {l : List (Int × Int)} (hs : z_sat ν V) (h : z_inV1 V θ x l = true) {i : Nat} {q : Int × Int} (hq : z_nth l i = some q) : q.1 ≤ z_nu ν θ (x + i) ∧ z_nu ν θ (x + i) ≤ q.2 := by
  induction l generalizing x i with
  | nil => cases hq
  | cons b l ih =>
    obtain ⟨h1, h2⟩ := z_andI h
    cases i with
    | zero =>
      cases hq
      cases ht : z_thl θ x with
      | none => rw [ht] at h1; cases h1
      | some g =>
        rw [ht] at h1
        have := z_inRI hs h1
        show q.1 ≤ z_nu ν θ x ∧ z_nu ν θ x ≤ q.2
        unfold z_nu
        rw [ht]
        exact this
    | succ i =>
      have := ih (x := Nat.succ x) h2 hq
      rwa [show Nat.succ x + i = x + (i + 1) by omega] at this
theorem z_inV_ok {ν : Nat → Int} {V V0 : VS} {θ : TH} (hs : z_sat ν V) (h : z_inV V θ V0 = true) : z_sat (z_nu ν θ) V0 := by
  obtain ⟨h1, h2⟩ := z_andI h
  obtain ⟨h2, h3⟩ := z_andI h2
  refine ⟨fun i q hq => by have := z_inV1_ok hs h1 hq; rwa [Nat.zero_add] at this, ?_, ?_⟩
  · intro g hg
    generalize V0.2.1 = l at h2 hg
    induction l with
    | nil => cases hg
    | cons a l ih =>
      obtain ⟨g1, g2⟩ := z_andI h2
      rcases List.mem_cons.mp hg with rfl | hg
      · obtain ⟨g3, g4⟩ := z_andI g1
        refine ⟨z_wfLI g3, ?_⟩
        cases hk : f_sbs θ g with
        | none => rw [hk] at g4; cases g4
        | some k => rw [hk] at g4; rw [f_sbs_ok hk]; exact f_le_ok hs g4
      · exact ih g2 hg
  · intro x hx
    cases hl : V0.2.2 with
    | nil => rw [hl] at hx; cases hx
    | cons a l => rw [hl] at h3; cases h3
/-- a template: names with bounds, locals, cells -/
abbrev ZK : Type := VS × List (Nat × AV) × T2 AC
def z_incl (V : VS) (loc : List (Nat × AV)) (h : T2 AC) (θ : TH) (T : ZK) : Bool := z_and (z_inV V θ T.1) (z_and (z_inLo V θ (z_len T.1.1) loc T.2.1) (z_inH V θ (z_len T.1.1) T.2.2 h))
section CP
variable {S : List ZT} {ms : List ZM} {D : va_G} {K : Nat → ClassId} {β : ZB} {p : Program} {l : Launch} {e : Env} {R : Room} {s : State} {m : MethodId} {args : Array Value} {below : List Frame} {meth : Method} {c : Code} {Q : State → Prop} {σ0 : Nat → va_E} {ν0 : Nat → Int} {nv0 k0 nL : Nat} {E : ZE} {own mn : String} {cc : ByteArray} {loc : List (Nat × AV)} {stk : List AV} {V : VS} {h : T2 AC} {n sl : Nat} {ν : Nat → Int} {σ : Nat → va_E} {H : Heap} {locs : List Loc} {ls : Array Slot} {vs : List Value}
theorem z_incl_ok {θ : TH} {T : ZK} (hi : z_incl V loc h θ T = true) (P : z_P D K β s σ0 ν0 nv0 k0 nL loc [] V h n ν σ H locs ls vs) : vs = [] ∧ z_P D K β s σ0 (z_nu ν θ) (z_len T.1.1) k0 nL T.2.1 [] T.1 T.2.2 n (z_nu ν θ) σ H locs ls [] := by
  obtain ⟨p1, p2, p3, p4, p5, p6, p7, p8⟩ := P
  obtain ⟨h1, h2⟩ := z_andI hi
  obtain ⟨h2, h3⟩ := z_andI h2
  exact ⟨z_fm_nil p7, fun _ _ => rfl, Nat.le_refl _, p3, z_inV_ok p4 h1, z_inH_ok p4 h3 p5, z_inLo_ok p4 h2 p6, trivial, p8⟩
end CP
/-! ranks: lists of forms, compared from the first on -/
def z_lex (V : VS) : List FM → List FM → Bool
  | s :: ss, a :: as => match f_le V (f_sub a s) (-1) with
    | true => true
    | false => z_and (f_le V (f_sub a s) 0) (z_lex V ss as)
  | _, _ => false
def z_sbl (θ : TH) : List FM → Option (List FM)
  | [] => some []
  | f :: l => z_bd (f_sbs θ f) fun g => z_bd (z_sbl θ l) fun r => some (g :: r)
def r_enc (b : Nat) : List Nat → Nat
  | [] => 0
  | x :: l => x * (b + 1) ^ l.length + r_enc b l
theorem r_enc_lt {b : Nat} {l : List Nat} (h : ∀ x ∈ l, x ≤ b) : r_enc b l < (b + 1) ^ l.length := by
  induction l with
  | nil => exact Nat.one_pos
  | cons x l ih =>
    have h1 := ih (fun y hy => h y (List.mem_cons_of_mem _ hy))
    have h2 : x ≤ b := h x List.mem_cons_self
    show x * (b + 1) ^ l.length + r_enc b l < (b + 1) ^ (l.length + 1)
    rw [Nat.pow_succ]
    have h3 : x * (b + 1) ^ l.length + (b + 1) ^ l.length ≤ (b + 1) ^ l.length * (b + 1) := by
      rw [Nat.mul_comm ((b + 1) ^ l.length) (b + 1), Nat.succ_mul b]
      exact Nat.add_le_add_right (Nat.mul_le_mul_right _ h2) _
    omega
def z_evl (ν : Nat → Int) (l : List FM) : List Nat := l.map (fun f => (f_evm ν f).toNat)
/-- the forms are numbers from 0 to b -/
def z_rkb (ν : Nat → Int) (b : Nat) (l : List FM) : Prop := ∀ f ∈ l, 0 ≤ f_evm ν f ∧ f_evm ν f ≤ b
def z_rkc (V : VS) (b : Nat) : List FM → Bool
  | [] => true
  | f :: l => z_and (z_inR V f 0 (Int.ofNat b)) (z_rkc V b l)
theorem z_rkc_ok {ν : Nat → Int} {V : VS} {b : Nat} {l : List FM} (hs : z_sat ν V) (h : z_rkc V b l = true) : z_rkb ν b l := by
  induction l with
  | nil => intro f hf; cases hf
  | cons g l ih =>
    obtain ⟨h1, h2⟩ := z_andI h
    intro f hf
    rcases List.mem_cons.mp hf with rfl | hf
    · exact z_inRI hs h1
    · exact ih h2 f hf
theorem z_evl_le {ν : Nat → Int} {b : Nat} {l : List FM} (h : z_rkb ν b l) : ∀ x ∈ z_evl ν l, x ≤ b := by
  intro x hx
  obtain ⟨f, hf, rfl⟩ := List.mem_map.mp hx
  have := h f hf
  omega
theorem z_lex_ok {ν : Nat → Int} {V : VS} {b : Nat} {ss as : List FM} (hs : z_sat ν V) (h : z_lex V ss as = true) (h1 : z_rkb ν b ss) (h2 : z_rkb ν b as) (hl : ss.length = as.length) : r_enc b (z_evl ν as) < r_enc b (z_evl ν ss) := by
  induction ss generalizing as with
  | nil => cases h
  | cons s ss ih => cases as with
    | nil => cases h
    | cons a as =>
      have hl : ss.length = as.length := by simpa using hl
      have hs1 : z_rkb ν b ss := fun f hf => h1 f (List.mem_cons_of_mem _ hf)
      have ha1 : z_rkb ν b as := fun f hf => h2 f (List.mem_cons_of_mem _ hf)
      have e1 := h1 s List.mem_cons_self
      have e2 := h2 a List.mem_cons_self
      have la : (z_evl ν as).length = as.length := List.length_map _
      have ls' : (z_evl ν ss).length = ss.length := List.length_map _
      have b1 := r_enc_lt (z_evl_le ha1)
      show (f_evm ν a).toNat * (b + 1) ^ (z_evl ν as).length + r_enc b (z_evl ν as) < (f_evm ν s).toNat * (b + 1) ^ (z_evl ν ss).length + r_enc b (z_evl ν ss)
      rw [la] at b1 ⊢
      rw [ls', hl]
      unfold z_lex at h
      cases hc : f_le V (f_sub a s) (-1) with
      | true =>
        have g := f_le_ok hs hc
        rw [f_sub_ev] at g
        have g2 : (f_evm ν a).toNat + 1 ≤ (f_evm ν s).toNat := by omega
        have g3 := Nat.mul_le_mul_right ((b + 1) ^ as.length) g2
        rw [Nat.succ_mul] at g3
        omega
      | false =>
        rw [hc] at h
        obtain ⟨k1, k2⟩ := z_andI h
        have g := f_le_ok hs k1
        rw [f_sub_ev] at g
        have g2 : (f_evm ν a).toNat ≤ (f_evm ν s).toNat := by omega
        have g3 := Nat.mul_le_mul_right ((b + 1) ^ as.length) g2
        have := ih k2 hs1 ha1 hl
        omega
theorem z_sbl_ok {ν : Nat → Int} {θ : TH} {l r : List FM} (h : z_sbl θ l = some r) : z_evl (z_nu ν θ) l = z_evl ν r ∧ r.length = l.length ∧ ∀ b, z_rkb (z_nu ν θ) b l → z_rkb ν b r := by
  induction l generalizing r with
  | nil => cases h; exact ⟨rfl, rfl, fun _ _ f hf => by cases hf⟩
  | cons f l ih =>
    obtain ⟨g, hg, h⟩ := z_bdI h
    obtain ⟨k, hk, h⟩ := z_bdI h
    cases h
    obtain ⟨i1, i2, i3⟩ := ih hk
    have e := f_sbs_ok (ν := ν) hg
    refine ⟨?_, by simp [i2], fun b hb q hq => ?_⟩
    · show (f_evm (z_nu ν θ) f).toNat :: z_evl (z_nu ν θ) l = (f_evm ν g).toNat :: z_evl ν k
      rw [e, i1]
    · rcases List.mem_cons.mp hq with rfl | hq
      · have := hb f List.mem_cons_self
        rwa [e] at this
      · exact i3 b (fun f hf => hb f (List.mem_cons_of_mem _ hf)) q hq
