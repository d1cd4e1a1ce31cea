/-! runs: steps one behind the other, calls by depth -/
def z_tick (code : T2 ZH) (E : ZE) (t : List ZS × List ZO) : Option (List ZS × List ZO) := match t.1 with
  | [] => some t
  | st :: r => match z_g2 code st.1 with
    | none => none
    | some f => match f E st.2.1 st.2.2.1 st.2.2.2.1 st.2.2.2.2.1 st.2.2.2.2.2.1 st.2.2.2.2.2.2 with
      | none => none
      | some q => some (z_app q.1 r, z_app q.2 t.2)
def z_iter (code : T2 ZH) (E : ZE) : Nat → List ZS × List ZO → Option (List ZS × List ZO)
  | 0, t => z_tick code E t
  | k + 1, t => match z_iter code E k t with
    | none => none
    | some t1 => match t1.1 with
      | [] => some t1
      | _ :: _ => z_iter code E k t1
def z_arg : Nat → List AV → List (Nat × AV)
  | _, [] => []
  | i, a :: l => (i, a) :: z_arg (match z_lg a with | true => Nat.add i 2 | false => Nat.add i 1) l
/-- the code's table is sound -/
def z_tok (S : List ZT) (ms : List ZM) (own mn : String) (cc : ByteArray) (nL : Nat) : Nat → List ZH → Prop
  | _, [] => True
  | pc, f :: l => z_sound S ms own mn cc nL pc f ∧ z_tok S ms own mn cc nL (pc + 1) l
def z_tok2 (S : List ZT) (ms : List ZM) (own mn : String) (cc : ByteArray) (nL : Nat) : Nat → T2 ZH → Prop
  | _, [] => True
  | k, r :: l => z_tok S ms own mn cc nL (16 * k) r ∧ z_tok2 S ms own mn cc nL (k + 1) l
theorem z_tokI {S : List ZT} {ms : List ZM} {own mn : String} {cc : ByteArray} {nL pc i : Nat} {l : List ZH} {f : ZH} (h : z_tok S ms own mn cc nL pc l) (hf : z_nth l i = some f) : z_sound S ms own mn cc nL (pc + i) f := by
  induction l generalizing pc i with
  | nil => cases hf
  | cons g l ih => cases i with
    | zero => cases hf; exact h.1
    | succ i => have := ih h.2 hf; rwa [show pc + 1 + i = pc + (i + 1) by omega] at this
theorem z_tok2I {S : List ZT} {ms : List ZM} {own mn : String} {cc : ByteArray} {nL k i : Nat} {t : T2 ZH} {r : List ZH} (h : z_tok2 S ms own mn cc nL k t) (hf : z_nth t i = some r) : z_tok S ms own mn cc nL (16 * (k + i)) r := by
  induction t generalizing k i with
  | nil => cases hf
  | cons g l ih => cases i with
    | zero => cases hf; exact h.1
    | succ i => have := ih h.2 hf; rwa [show k + 1 + i = k + (i + 1) by omega] at this
theorem z_tokG {S : List ZT} {ms : List ZM} {own mn : String} {cc : ByteArray} {nL pc : Nat} {t : T2 ZH} {f : ZH} (h : z_tok2 S ms own mn cc nL 0 t) (hf : z_g2 t pc = some f) : z_sound S ms own mn cc nL pc f := by
  unfold z_g2 at hf
  cases hr : z_nth t (Nat.div pc 16) with
  | none => rw [hr] at hf; cases hf
  | some r =>
    rw [hr] at hf
    have := z_tokI (z_tok2I h hr) hf
    rwa [show 16 * (0 + Nat.div pc 16) + Nat.mod pc 16 = pc by show 16 * (0 + pc / 16) + pc % 16 = pc; omega] at this
section RN
variable {S : List ZT} {ms : List ZM} {D : va_G} {K : Nat → ClassId} {β : ZB} {p : Program} {l : Launch} {e : Env} {R : Room} {s : State} {m : MethodId} {args : Array Value} {below : List Frame} {meth : Method} {c : Code} {Q : State → Prop} {σ0 : Nat → va_E} {ν0 : Nat → Int} {nv0 k0 nL : Nat} {E : ZE} {own mn : String} {cc : ByteArray} {code : T2 ZH}
theorem z_tick_ok (X : z_C S ms D K β p l R s m args meth c own mn cc k0 nL E) (hc : z_tok2 S ms own mn cc nL 0 code) {t t' : List ZS × List ZO} (h : z_tick code E t = some t') : (∀ o ∈ t.2, o ∈ t'.2) ∧ ((∀ o ∈ t'.2, z_T D K β p l e R s m args below meth c cc Q σ0 ν0 nv0 k0 nL o) → (∀ st ∈ t'.1, z_W D K β p l e R s m args below meth c Q σ0 ν0 nv0 k0 nL st) → ∀ st ∈ t.1, z_W D K β p l e R s m args below meth c Q σ0 ν0 nv0 k0 nL st) := by
  obtain ⟨todo, os⟩ := t
  unfold z_tick at h
  cases todo with
  | nil => cases h; exact ⟨fun _ ho => ho, fun _ hW => hW⟩
  | cons st r =>
    simp only at h
    cases hf : z_g2 code st.1 with
    | none => rw [hf] at h; cases h
    | some f =>
      rw [hf] at h
      simp only at h
      cases hq : f E st.2.1 st.2.2.1 st.2.2.2.1 st.2.2.2.2.1 st.2.2.2.2.2.1 st.2.2.2.2.2.2 with
      | none => rw [hq] at h; cases h
      | some q =>
        rw [hq] at h
        cases h
        refine ⟨fun o ho => z_mem_app.mpr (Or.inr ho), fun hT hW st' hst => ?_⟩
        rcases List.mem_cons.mp hst with rfl | hst
        · exact z_tokG hc hf D K β p l e R s m args below meth c Q σ0 ν0 nv0 k0 E X _ _ _ _ _ _ q hq (fun st2 h2 => hW st2 (z_mem_app.mpr (Or.inl h2))) (fun o ho => hT o (z_mem_app.mpr (Or.inl ho)))
        · exact hW st' (z_mem_app.mpr (Or.inr hst))
theorem z_iter_ok (X : z_C S ms D K β p l R s m args meth c own mn cc k0 nL E) (hc : z_tok2 S ms own mn cc nL 0 code) {k : Nat} {t t' : List ZS × List ZO} (h : z_iter code E k t = some t') : (∀ o ∈ t.2, o ∈ t'.2) ∧ ((∀ o ∈ t'.2, z_T D K β p l e R s m args below meth c cc Q σ0 ν0 nv0 k0 nL o) → (∀ st ∈ t'.1, z_W D K β p l e R s m args below meth c Q σ0 ν0 nv0 k0 nL st) → ∀ st ∈ t.1, z_W D K β p l e R s m args below meth c Q σ0 ν0 nv0 k0 nL st) := by
  induction k generalizing t t' with
  | zero => exact z_tick_ok X hc h
  | succ k ih =>
    unfold z_iter at h
    cases h1 : z_iter code E k t with
    | none => rw [h1] at h; cases h
    | some t1 =>
      rw [h1] at h
      simp only at h
      have a1 := ih h1
      cases ht : t1.1 with
      | nil =>
        rw [ht] at h
        cases h
        exact a1
      | cons st r =>
        rw [ht] at h
        have a2 := ih h
        exact ⟨fun o ho => a2.1 o (a1.1 o ho), fun hT hW => a1.2 (fun o ho => hT o (a2.1 o ho)) (a2.2 hT hW)⟩
end RN
theorem z_arg_ok {ν : Nat → Int} {nv : Nat} {β : ZB} {as : List AV} {av : List Value} {i : Nat} (q : z_fm (z_mt ν nv β) as av) : z_fm (fun (a : Nat × AV) (q : Nat × Value) => a.1 = q.1 ∧ z_mt ν nv β a.2 q.2) (z_arg i as) (lv_args i av) := by
  induction as generalizing av i with
  | nil => rw [z_fm_nil q]; trivial
  | cons a as ih =>
    obtain ⟨v, k, rfl, q1, q2⟩ := z_fm_cons q
    refine ⟨⟨rfl, q1⟩, ?_⟩
    have e : (if v.category = 2 then i + 2 else i + 1) = (match z_lg a with | true => Nat.add i 2 | false => Nat.add i 1) := by
      rw [z_mt_cat q1]
      cases z_lg a <;> rfl
    show z_fm _ (z_arg (match z_lg a with | true => Nat.add i 2 | false => Nat.add i 1) as) (lv_args (if v.category = 2 then i + 2 else i + 1) k)
    rw [e]
    exact ih q2
theorem z_sl_len {ν : Nat → Int} {nv : Nat} {β : ZB} {as : List AV} {av : List Value} (q : z_fm (z_mt ν nv β) as av) : (lg_sl av).length = z_cat as := by
  rw [← z_cat_ok q]
  clear q
  induction av with
  | nil => rfl
  | cons v av ih =>
    have : lg_sl (v :: av) = (if v.category = 2 then [.val v, .second] else [.val v]) ++ lg_sl av := rfl
    rw [this, List.length_append, ih, List.map_cons, List.sum_cons]
    rcases lv_cat v with h | h <;> simp [h]
/-! templates: what is put in for names, and what lies in a template -/
abbrev TH : Type := List (Nat × FM)
def z_thl : TH → Nat → Option FM
  | [], _ => none
  | q :: l, x => match Nat.beq q.1 x with
    | true => some q.2
    | false => z_thl l x
def z_nu (ν : Nat → Int) (θ : TH) : Nat → Int := fun x => match z_thl θ x with
  | some g => f_evm ν g
  | none => 0
def f_sb1 (θ : TH) : FL → Option FM
  | [] => some (0, [])
  | q :: l => z_bd (z_thl θ q.2) fun g => z_bd (f_sb1 θ l) fun r => some (f_add (f_sc q.1 g) r)
def f_sbs (θ : TH) (f : FM) : Option FM := z_bd (f_sb1 θ f.2) fun r => some (f_add (f.1, []) r)
theorem f_sb1_ok {ν : Nat → Int} {θ : TH} {l : FL} {g : FM} (h : f_sb1 θ l = some g) : f_ev (z_nu ν θ) l = f_evm ν g := by
  induction l generalizing g with
  | nil => cases h; rfl
  | cons q l ih =>
    obtain ⟨r, hr, h⟩ := z_bdI h
    obtain ⟨k, hk, h⟩ := z_bdI h
    cases h
    have e : z_nu ν θ q.2 = f_evm ν r := by unfold z_nu; rw [hr]
    show q.1 * z_nu ν θ q.2 + f_ev (z_nu ν θ) l = f_evm ν (f_add (f_sc q.1 r) k)
    rw [f_add_ev, f_sc_ev, e, ih hk]
theorem f_sbs_ok {ν : Nat → Int} {θ : TH} {f g : FM} (h : f_sbs θ f = some g) : f_evm (z_nu ν θ) f = f_evm ν g := by
  obtain ⟨r, hr, h⟩ := z_bdI h
  cases h
  rw [f_add_ev]
  show f.1 + f_ev (z_nu ν θ) f.2 = f.1 + 0 + f_evm ν r
  rw [f_sb1_ok hr]
  omega
def z_wfL (m : Nat) : FL → Bool
  | [] => true
  | q :: l => z_and (Nat.ble (Nat.succ q.2) m) (z_wfL m l)
theorem z_wfLI {m : Nat} {l : FL} (h : z_wfL m l = true) : f_wf m l := by
  induction l with
  | nil => exact f_wf0
  | cons q l ih =>
    intro r hr
    rcases List.mem_cons.mp hr with rfl | hr
    · exact Nat.le_of_ble_eq_true (z_andI h).1
    · exact ih (z_andI h).2 r hr
def z_eqF (V : VS) (θ : TH) (m : Nat) (f g : FM) : Bool := z_and (z_wfL m f.2) (match f_sbs θ f with
  | none => false
  | some k => z_and (f_le V (f_sub k g) 0) (f_ge V (f_sub k g) 0))
theorem z_eqF_ok {ν : Nat → Int} {V : VS} {θ : TH} {m : Nat} {f g : FM} (hs : z_sat ν V) (h : z_eqF V θ m f g = true) : f_wf m f.2 ∧ f_evm (z_nu ν θ) f = f_evm ν g := by
  obtain ⟨h1, h2⟩ := z_andI h
  refine ⟨z_wfLI h1, ?_⟩
  cases hk : f_sbs θ f with
  | none => rw [hk] at h2; cases h2
  | some k =>
    rw [hk] at h2
    obtain ⟨h3, h4⟩ := z_andI h2
    have h3 := f_le_ok hs h3
    have h4 := f_ge_ok hs h4
    rw [f_sub_ev] at h3 h4
    rw [f_sbs_ok hk]
    omega
def z_inb1 (a0 a : AV) : Bool := z_and (z_and (z_le a0.2.2.1 a.2.2.1) (z_le a.2.2.2.1 a0.2.2.2.1)) (match a0.2.1 with
  | 0 => true
  | _ + 1 => match Nat.ble 1 a.2.1 with
    | true => true
    | false => z_and (z_le 0 a.2.2.1) (z_le a.2.2.2.1 0))
theorem z_inb1_ok {a0 a : AV} {X : Int} (h : z_inb1 a0 a = true) (hX : z_mk1 a.2.1 a.2.2.1 a.2.2.2.1 X) : z_mk1 a0.2.1 a0.2.2.1 a0.2.2.2.1 X := by
  obtain ⟨h1, h2⟩ := z_andI h
  obtain ⟨h1, h3⟩ := z_andI h1
  have h1 := z_le_iff.mp h1
  have h3 := z_le_iff.mp h3
  obtain ⟨x1, x2, x3⟩ := hX
  refine ⟨Int.le_trans h1 x1, Int.le_trans x2 h3, ?_⟩
  cases hm : a0.2.1 with
  | zero => exact Or.inl rfl
  | succ k =>
    rw [hm] at h2
    cases hb : Nat.ble 1 a.2.1 with
    | true =>
      have : 1 ≤ a.2.1 := Nat.le_of_ble_eq_true hb
      exact Or.inr (x3.resolve_left (by omega))
    | false =>
      simp only [hb] at h2
      obtain ⟨w1, w2⟩ := z_andI h2
      have w1 := z_le_iff.mp w1
      have w2 := z_le_iff.mp w2
      have e : X = 0 := by omega
      subst e
      exact Or.inr (Or.inl ⟨by omega, by omega, by omega⟩)
def z_inA (V : VS) (θ : TH) (m : Nat) (a0 a : AV) : Bool := match a0.1 with
  | 0 => z_and (Nat.beq a.1 0) (z_eqF V θ m (z_fm2 a0) (z_fm2 a))
  | 1 => match a.1 with
    | 0 => z_fitA 0 V a a0
    | 1 => z_inb1 a0 a
    | _ => false
  | 2 => z_and (Nat.beq a.1 2) (z_eqF V θ m (z_fm2 a0) (z_fm2 a))
  | 3 => match a.1 with
    | 2 => z_fitA 2 V a a0
    | 3 => z_inb1 a0 a
    | _ => false
  | 4 => z_and (Nat.beq a.1 4) (Nat.beq a.2.1 a0.2.1)
  | 5 => Nat.beq a.1 5
  | 7 => z_and (z_and (Nat.beq a0.2.1 0) (Nat.beq a.1 7)) (z_eqF V θ m (z_fm2 a0) (z_fm2 a))
  | 6 => z_isRn a
  | 8 => z_and (Nat.beq a.1 8) (Nat.beq a.2.1 a0.2.1)
  | 9 => z_and (Nat.beq a.1 9) (Nat.beq a.2.1 a0.2.1)
  | _ => false
theorem z_fitA_ok {ν : Nat → Int} {V : VS} {t : Nat} {v a : AV} {X : Int} (hs : z_sat ν V) (h : z_fitA t V v a = true) (hX : X = f_evm ν (z_fm2 v)) : a.1 = t + 1 ∧ z_mk1 a.2.1 a.2.2.1 a.2.2.2.1 X := by
  obtain ⟨f1, f2⟩ := z_andI h
  obtain ⟨f1, f3⟩ := z_andI f1
  have fb := z_inRI hs f3
  rw [← hX] at fb
  refine ⟨Nat.eq_of_beq_eq_true f1, fb.1, fb.2, ?_⟩
  cases hm : a.2.1 with
  | zero => exact Or.inl rfl
  | succ n =>
    rw [hm] at f2
    right
    rw [hX]
    exact z_actF_ok hs f2
theorem z_inA_ok {ν : Nat → Int} {β : ZB} {V : VS} {θ : TH} {m : Nat} {a0 a : AV} {v : Value} (hs : z_sat ν V) (h : z_inA V θ m a0 a = true) (hm : z_mt ν (z_len V.1) β a v) : z_mt (z_nu ν θ) m β a0 v := by
  obtain ⟨t, r⟩ := a0
  match t, h with
  | 0, h =>
    obtain ⟨h1, h2⟩ := z_andI h
    obtain ⟨-, x, rfl, hx⟩ := z_mt_i hm h1
    obtain ⟨e1, e2⟩ := z_eqF_ok hs h2
    exact Or.inl ⟨rfl, e1, x, rfl, by rw [e2]; exact hx⟩
  | 1, h =>
    obtain ⟨ta, ra⟩ := a
    match ta, h, hm with
    | 0, h, hm =>
      obtain ⟨-, x, rfl, hx⟩ := z_mt_i hm rfl
      exact Or.inr (Or.inl ⟨rfl, x, rfl, (z_fitA_ok hs h hx).2⟩)
    | 1, h, hm =>
      rcases hm with ⟨g, _⟩ | ⟨_, x, rfl, hx⟩ | ⟨g, _⟩ | ⟨g, _⟩ | ⟨g, _⟩ | ⟨g, _⟩ | ⟨g, _⟩ | ⟨g, _⟩ | ⟨g, _⟩ | ⟨g, _⟩
      case inr.inl => exact Or.inr (Or.inl ⟨rfl, x, rfl, z_inb1_ok h hx⟩)
      all_goals (simp at g)
    | n + 2, h, _ => cases h
  | 2, h =>
    obtain ⟨h1, h2⟩ := z_andI h
    obtain ⟨-, x, rfl, hx⟩ := z_mt_l hm h1
    obtain ⟨e1, e2⟩ := z_eqF_ok hs h2
    exact Or.inr (Or.inr (Or.inl ⟨rfl, e1, x, rfl, by rw [e2]; exact hx⟩))
  | 3, h =>
    obtain ⟨ta, ra⟩ := a
    match ta, h, hm with
    | 0, h, _ => cases h
    | 1, h, _ => cases h
    | 2, h, hm =>
      obtain ⟨-, x, rfl, hx⟩ := z_mt_l hm rfl
      exact Or.inr (Or.inr (Or.inr (Or.inl ⟨rfl, x, rfl, (z_fitA_ok hs h hx).2⟩)))
    | 3, h, hm =>
      rcases hm with ⟨g, _⟩ | ⟨g, _⟩ | ⟨g, _⟩ | ⟨_, x, rfl, hx⟩ | ⟨g, _⟩ | ⟨g, _⟩ | ⟨g, _⟩ | ⟨g, _⟩ | ⟨g, _⟩ | ⟨g, _⟩
      case inr.inr.inr.inl => exact Or.inr (Or.inr (Or.inr (Or.inl ⟨rfl, x, rfl, z_inb1_ok h hx⟩)))
      all_goals (simp at g)
    | n + 4, h, _ => cases h
  | 4, h =>
    obtain ⟨h1, h2⟩ := z_andI h
    have := z_mt_r hm h1
    rw [Nat.eq_of_beq_eq_true h2] at this
    exact Or.inr (Or.inr (Or.inr (Or.inr (Or.inl ⟨rfl, this⟩))))
  | 5, h =>
    have h : a.1 = 5 := Nat.eq_of_beq_eq_true h
    rcases hm with ⟨g, _⟩ | ⟨g, _⟩ | ⟨g, _⟩ | ⟨g, _⟩ | ⟨g, _⟩ | ⟨_, g⟩ | ⟨g, _⟩ | ⟨g, _⟩ | ⟨g, _⟩ | ⟨g, _⟩
    case inr.inr.inr.inr.inr.inl => exact Or.inr (Or.inr (Or.inr (Or.inr (Or.inr (Or.inl ⟨rfl, g⟩)))))
    all_goals omega
  | 6, h => exact Or.inr (Or.inr (Or.inr (Or.inr (Or.inr (Or.inr (Or.inl ⟨rfl, z_mt_rn hm h⟩))))))
  | 7, h =>
    obtain ⟨h1, h2⟩ := z_andI h
    obtain ⟨h0, h1⟩ := z_andI h1
    have h1 : a.1 = 7 := Nat.eq_of_beq_eq_true h1
    obtain ⟨e1, e2⟩ := z_eqF_ok hs h2
    rcases hm with ⟨g, _⟩ | ⟨g, _⟩ | ⟨g, _⟩ | ⟨g, _⟩ | ⟨g, _⟩ | ⟨g, _⟩ | ⟨g, _⟩ | ⟨_, g1, g2, g3, g4⟩ | ⟨g, _⟩ | ⟨g, _⟩
    case inr.inr.inr.inr.inr.inr.inr.inl => exact Or.inr (Or.inr (Or.inr (Or.inr (Or.inr (Or.inr (Or.inr (Or.inl ⟨rfl, g1, e1, by rw [e2]; exact g3, Or.inl (Nat.eq_of_beq_eq_true h0)⟩)))))))
    all_goals omega
  | 8, h =>
    obtain ⟨h1, h2⟩ := z_andI h
    have := z_mt_t hm h1
    rw [Nat.eq_of_beq_eq_true h2] at this
    exact Or.inr (Or.inr (Or.inr (Or.inr (Or.inr (Or.inr (Or.inr (Or.inr (Or.inl ⟨rfl, this⟩))))))))
  | 9, h =>
    obtain ⟨h1, h2⟩ := z_andI h
    have := z_mt_u hm h1
    rw [Nat.eq_of_beq_eq_true h2] at this
    exact Or.inr (Or.inr (Or.inr (Or.inr (Or.inr (Or.inr (Or.inr (Or.inr (Or.inr ⟨rfl, this⟩))))))))
  | n + 10, h => cases h
/-- lists side by side -/
def z_inL (V : VS) (θ : TH) (m : Nat) : List AV → List AV → Bool
  | [], [] => true
  | a0 :: l0, a :: l => z_and (z_inA V θ m a0 a) (z_inL V θ m l0 l)
  | [], _ :: _ => false
  | _ :: _, [] => false
theorem z_inL_ok {ν : Nat → Int} {β : ZB} {V : VS} {θ : TH} {m : Nat} {l0 l : List AV} {vs : List Value} (hs : z_sat ν V) (h : z_inL V θ m l0 l = true) (hm : z_fm (z_mt ν (z_len V.1) β) l vs) : z_fm (z_mt (z_nu ν θ) m β) l0 vs := by
  induction l0 generalizing l vs with
  | nil => cases l with
    | nil => rw [z_fm_nil hm]; trivial
    | cons a l => cases h
  | cons a0 l0 ih => cases l with
    | nil => cases h
    | cons a l =>
      obtain ⟨v, k, rfl, q1, q2⟩ := z_fm_cons hm
      obtain ⟨h1, h2⟩ := z_andI h
      exact ⟨z_inA_ok hs h1 q1, ih h2 q2⟩
theorem z_inL_nth {V : VS} {θ : TH} {m : Nat} {l0 l : List AV} (h : z_inL V θ m l0 l = true) {j : Nat} {a : AV} (ha : z_nth l j = some a) : ∃ a0, z_nth l0 j = some a0 ∧ z_inA V θ m a0 a = true := by
  induction l0 generalizing l j with
  | nil => cases l with
    | nil => cases ha
    | cons a l => cases h
  | cons a0 l0 ih => cases l with
    | nil => cases h
    | cons b l =>
      obtain ⟨h1, h2⟩ := z_andI h
      cases j with
      | zero => cases ha; exact ⟨a0, rfl, h1⟩
      | succ j => exact ih h2 ha
theorem z_inL_len {V : VS} {θ : TH} {m : Nat} {l0 l : List AV} (h : z_inL V θ m l0 l = true) : z_len l0 = z_len l := by
  induction l0 generalizing l with
  | nil => cases l with
    | nil => rfl
    | cons a l => cases h
  | cons a0 l0 ih => cases l with
    | nil => cases h
    | cons b l => exact congrArg Nat.succ (ih (z_andI h).2)
/-- rows: one for all takes every element in -/
def z_allA (V : VS) (θ : TH) (m : Nat) (a0 : AV) : List AV → Bool
  | [] => true
  | a :: l => z_and (z_inA V θ m a0 a) (z_allA V θ m a0 l)
def z_allB (V : VS) (θ : TH) (m : Nat) (a : AV) : List AV → Bool
  | [] => true
  | a0 :: l => z_and (z_inA V θ m a0 a) (z_allB V θ m a l)
theorem z_allA_ok {V : VS} {θ : TH} {m : Nat} {a0 : AV} {l : List AV} (h : z_allA V θ m a0 l = true) {j : Nat} {a : AV} (ha : z_nth l j = some a) : z_inA V θ m a0 a = true := by
  induction l generalizing j with
  | nil => cases ha
  | cons b l ih => cases j with
    | zero => cases ha; exact (z_andI h).1
    | succ j => exact ih (z_andI h).2 ha
theorem z_allB_ok {V : VS} {θ : TH} {m : Nat} {a : AV} {l : List AV} (h : z_allB V θ m a l = true) {j : Nat} {a0 : AV} (ha : z_nth l j = some a0) : z_inA V θ m a0 a = true := by
  induction l generalizing j with
  | nil => cases ha
  | cons b l ih => cases j with
    | zero => cases ha; exact (z_andI h).1
    | succ j => exact ih (z_andI h).2 ha
def z_inAr (V : VS) (θ : TH) (m len : Nat) (l0 l : List AV) : Bool := match l0 with
  | [] => Nat.beq len 0
  | [a0] => z_allA V θ m a0 l
  | a0 :: b0 :: k0 => match l with
    | [] => Nat.beq len 0
    | [a] => z_and (Nat.ble len (z_len (a0 :: b0 :: k0))) (z_allB V θ m a (a0 :: b0 :: k0))
    | a :: b :: k => z_inL V θ m (a0 :: b0 :: k0) (a :: b :: k)
theorem z_inAr_ok {ν : Nat → Int} {β : ZB} {V : VS} {θ : TH} {m len : Nat} {l0 l : List AV} {F : Nat → Value} (hs : z_sat ν V) (h : z_inAr V θ m len l0 l = true) (hel : ∀ j, j < len → ∃ a, z_at l j = some a ∧ z_mt ν (z_len V.1) β a (F j)) : ∀ j, j < len → ∃ a, z_at l0 j = some a ∧ z_mt (z_nu ν θ) m β a (F j) := by
  intro j hj
  obtain ⟨a, ha, hm⟩ := hel j hj
  have nth : ∃ j', z_nth l j' = some a := by
    match l, ha with
    | [d], ha => cases ha; exact ⟨0, rfl⟩
    | d :: g :: k, ha => exact ⟨j, ha⟩
  match l0, h with
  | [], h => have : len = 0 := Nat.eq_of_beq_eq_true h; omega
  | [a0], h =>
    obtain ⟨j', hj'⟩ := nth
    exact ⟨a0, rfl, z_inA_ok hs (z_allA_ok h hj') hm⟩
  | a0 :: b0 :: k0, h =>
    match l, h, ha with
    | [], h, ha => cases ha
    | [d], h, ha =>
      cases ha
      obtain ⟨h1, h2⟩ := z_andI h
      have h1 := Nat.le_of_ble_eq_true h1
      obtain ⟨c0, hc0⟩ := z_len_nth (l := a0 :: b0 :: k0) (i := j) (by omega)
      exact ⟨c0, hc0, z_inA_ok hs (z_allB_ok h2 hc0) hm⟩
    | d :: g :: k, h, ha =>
      obtain ⟨c0, h1, h2⟩ := z_inL_nth h ha
      exact ⟨c0, h1, z_inA_ok hs h2 hm⟩
