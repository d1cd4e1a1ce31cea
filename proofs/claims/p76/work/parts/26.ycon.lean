/-! calls by contract -/
theorem met_mono {l : Launch} {y : MethodName} {ws : List Cond} {rm : Room} {Pc : Array Value → State → Prop} {Qc Qd : Array Value → State → Outcome → State → Prop} {mc ms : Nat} {free : Addr → Prop} (h : Met l y ws rm Pc Qc mc ms free) (hq : ∀ a st o t, Qc a st o t → Qd a st o t) : Met l y ws rm Pc Qd mc ms free := by
  intro p e h1 h2 h3 s m args below h4 h5 h6 h7
  obtain ⟨n, o, g1, g2, g3, g4, g5⟩ := h p e h1 h2 h3 s m args below h4 h5 h6 h7
  exact ⟨n, o, g1, g2, g3, hq _ _ _ _ g4, g5⟩
theorem z_Q_mono {D : va_G} {K : Nat → ClassId} {β : ZB} {σ1 σ2 : Nat → va_E} {o1 o2 : List ZO} {ν1 ν2 : Nat → Int} {m1 m2 n' : Nat} : ∀ (rk : Nat), (∀ (r : Nat) (v : Value) (u : Nat → va_E), (r ≠ 0 → rk ≠ 0) → z_post K β σ1 o1 ν1 m1 n' r v u → z_post K β σ2 o2 ν2 m2 n' r v u) → ∀ (a : Array Value) (st : State) (o : Outcome) (t : State), z_Q D K β σ1 o1 ν1 m1 n' rk a st o t → z_Q D K β σ2 o2 ν2 m2 n' rk a st o t
  | 0, hp, _, _, _, _, ⟨⟨u, e1, e2, e3⟩, e4⟩ => ⟨⟨u, e1, hp _ _ _ (fun h => absurd rfl h) e2, e3⟩, e4⟩
  | 1, hp, _, _, _, _, ⟨⟨r, u, e1, e2, e3⟩, e4⟩ => ⟨⟨r, u, e1, hp _ _ _ (fun _ => by decide) e2, e3⟩, e4⟩
  | k + 2, hp, _, _, _, _, ⟨⟨r, u, e1, e2, e3⟩, e4⟩ => ⟨⟨r, u, e1, hp _ _ _ (fun _ => by omega) e2, e3⟩, e4⟩
/-- forms are put in for names: values, cells -/
def z_sbA (θ : TH) (m' : Nat) (a : AV) : Option AV := match a.1 with
  | 0 => z_bd (f_sbs θ (z_fm2 a)) fun g => z_if (z_wfL m' g.2) (some (0, 0, g.1, 0, g.2))
  | 2 => z_bd (f_sbs θ (z_fm2 a)) fun g => z_if (z_wfL m' g.2) (some (2, 0, g.1, 0, g.2))
  | 7 => none
  | _ => some a
def z_sbL (θ : TH) (m' : Nat) : List AV → Option (List AV)
  | [] => some []
  | a :: l => z_bd (z_sbA θ m' a) fun b => z_bd (z_sbL θ m' l) fun r => some (b :: r)
def z_no7 : AV := (5, 0, 0, 0, [])
def z_sbC (θ : TH) (m' : Nat) (c : AC) : Option AC := match c.1 with
  | 7 => match c.2.2 with
    | so :: sz :: _ => z_bd (f_sbs θ (z_fm2 so)) fun g => z_bd (f_sbs θ (z_fm2 sz)) fun k => z_if (z_and (z_wfL m' g.2) (z_wfL m' k.2)) (some (7, c.2.1, [(1, 0, g.1, 0, g.2), (1, 0, k.1, 0, k.2), z_no7, z_no7, z_no7]))
    | _ => none
  | 8 => none
  | k => z_bd (z_sbL θ m' c.2.2) fun l => some (k, c.2.1, l)
section SB
variable {ν' ν1 : Nat → Int} {θ : TH} {m m' : Nat} {β : ZB} {K : Nat → ClassId}
theorem f_sb_ev (hag : ∀ i, i < m → ν' i = z_nu ν1 θ i) {f g : FM} (hw : f_wf m f.2) (h : f_sbs θ f = some g) : f_evm ν' f = f_evm ν1 g := by
  rw [← f_sbs_ok h]
  show f.1 + f_ev ν' f.2 = f.1 + f_ev (z_nu ν1 θ) f.2
  rw [f_ev_ext (ν := z_nu ν1 θ) (ν' := ν') hag hw]
theorem z_sbA_ok (hag : ∀ i, i < m → ν' i = z_nu ν1 θ i) {a a' : AV} {v : Value} (h : z_sbA θ m' a = some a') (q : z_mt ν' m β a v) : z_mt ν1 m' β a' v := by
  unfold z_sbA at h
  rcases q with ⟨e, hw, x, hx, q⟩ | ⟨e, q⟩ | ⟨e, hw, x, hx, q⟩ | ⟨e, q⟩ | ⟨e, q⟩ | ⟨e, q⟩ | ⟨e, q⟩ | ⟨e, q⟩ | ⟨e, q⟩ | ⟨e, q⟩
  · rw [e] at h
    obtain ⟨g, hg, h⟩ := z_bdI h
    obtain ⟨hw', h⟩ := z_ifI h
    cases h
    subst hx
    exact z_mkI (z_wfLI hw') (by rw [q]; exact f_sb_ev hag hw hg)
  · rw [e] at h; cases h; exact Or.inr (Or.inl ⟨e, q⟩)
  · rw [e] at h
    obtain ⟨g, hg, h⟩ := z_bdI h
    obtain ⟨hw', h⟩ := z_ifI h
    cases h
    subst hx
    exact z_mkL (z_wfLI hw') (by rw [q]; exact f_sb_ev hag hw hg)
  all_goals (rw [e] at h; cases h)
  · exact Or.inr (Or.inr (Or.inr (Or.inl ⟨e, q⟩)))
  · exact Or.inr (Or.inr (Or.inr (Or.inr (Or.inl ⟨e, q⟩))))
  · exact Or.inr (Or.inr (Or.inr (Or.inr (Or.inr (Or.inl ⟨e, q⟩)))))
  · exact Or.inr (Or.inr (Or.inr (Or.inr (Or.inr (Or.inr (Or.inl ⟨e, q⟩))))))
  · exact Or.inr (Or.inr (Or.inr (Or.inr (Or.inr (Or.inr (Or.inr (Or.inr (Or.inl ⟨e, q⟩))))))))
  · exact Or.inr (Or.inr (Or.inr (Or.inr (Or.inr (Or.inr (Or.inr (Or.inr (Or.inr ⟨e, q⟩))))))))
theorem z_sbL_ok (hag : ∀ i, i < m → ν' i = z_nu ν1 θ i) {l l' : List AV} {vs : List Value} (h : z_sbL θ m' l = some l') (q : z_fm (z_mt ν' m β) l vs) : z_fm (z_mt ν1 m' β) l' vs := by
  induction l generalizing l' vs with
  | nil => cases h; cases z_fm_nil q; trivial
  | cons a l ih =>
    obtain ⟨b, hb, h⟩ := z_bdI h
    obtain ⟨r, hr, h⟩ := z_bdI h
    cases h
    obtain ⟨v, vs', rfl, q1, q2⟩ := z_fm_cons q
    exact ⟨z_sbA_ok hag hb q1, ih hr q2⟩
theorem z_sbL_nth {l l' : List AV} (h : z_sbL θ m' l = some l') {j : Nat} {a : AV} (ha : z_nth l j = some a) : ∃ b, z_nth l' j = some b ∧ z_sbA θ m' a = some b := by
  induction l generalizing l' j with
  | nil => cases ha
  | cons x l ih =>
    obtain ⟨b, hb, h⟩ := z_bdI h
    obtain ⟨r, hr, h⟩ := z_bdI h
    cases h
    cases j with
    | zero => cases ha; exact ⟨b, rfl, hb⟩
    | succ j => exact ih hr ha
theorem z_sbL_at {l l' : List AV} (h : z_sbL θ m' l = some l') {j : Nat} {a : AV} (ha : z_at l j = some a) : ∃ b, z_at l' j = some b ∧ z_sbA θ m' a = some b := by
  match l, h, ha with
  | [x], h, ha =>
    obtain ⟨b, hb, h⟩ := z_bdI h
    obtain ⟨r, hr, h⟩ := z_bdI h
    cases hr; cases h; cases ha
    exact ⟨b, rfl, hb⟩
  | x :: y :: k, h, ha =>
    have ha : z_nth (x :: y :: k) j = some a := ha
    obtain ⟨b, h1, h2⟩ := z_sbL_nth h ha
    obtain ⟨b1, hb1, h⟩ := z_bdI h
    obtain ⟨r, hr, h⟩ := z_bdI h
    obtain ⟨b2, hb2, hr⟩ := z_bdI hr
    obtain ⟨r2, hr2, hr⟩ := z_bdI hr
    cases hr; cases h
    exact ⟨b, h1, h2⟩
theorem z_sbC_k {c c' : AC} (h : z_sbC θ m' c = some c') : c'.1 = c.1 := by
  unfold z_sbC at h
  split at h
  · rename_i e
    split at h
    · obtain ⟨g, hg, h⟩ := z_bdI h
      obtain ⟨k, hk, h⟩ := z_bdI h
      obtain ⟨-, h⟩ := z_ifI h
      cases h; exact e.symm
    · cases h
  · cases h
  · obtain ⟨l, hl, h⟩ := z_bdI h
    cases h; rfl
theorem z_sbC_o {c c' : AC} (h7 : c.1 ≠ 7) (h : z_sbC θ m' c = some c') : ∃ l, z_sbL θ m' c.2.2 = some l ∧ c' = (c.1, c.2.1, l) := by
  unfold z_sbC at h
  split at h
  · rename_i e; exact absurd e h7
  · cases h
  · obtain ⟨l, hl, h⟩ := z_bdI h
    cases h; exact ⟨l, hl, rfl⟩
theorem z_sbC_ok (hag : ∀ i, i < m → ν' i = z_nu ν1 θ i) {c c' : AC} {e : va_E} (h : z_sbC θ m' c = some c') (q : z_mc ν' m β K c e) : z_mc ν1 m' β K c' e := by
  rcases q with ⟨k, vs, e1, e2⟩ | ⟨k, f, e1, e2⟩ | ⟨k, f, e1, e2⟩ | ⟨k, f, e1, e2⟩ | ⟨k, f, so, sz, rs, e1, e2, e3, e4, e5, -⟩ | ⟨k, f, a, l, e1, e2, e3, e4⟩
  · obtain ⟨l, hl, rfl⟩ := z_sbC_o (by omega) h
    exact Or.inl ⟨k, vs, e1, z_sbL_ok hag hl e2⟩
  · obtain ⟨l, hl, rfl⟩ := z_sbC_o (by omega) h
    refine Or.inr (Or.inl ⟨k, f, e1, fun j hj => ?_⟩)
    obtain ⟨a, g1, g2⟩ := e2 j hj
    obtain ⟨b, g3, g4⟩ := z_sbL_at hl g1
    exact ⟨b, g3, z_sbA_ok hag g4 g2⟩
  · obtain ⟨l, hl, rfl⟩ := z_sbC_o (by omega) h
    refine Or.inr (Or.inr (Or.inl ⟨k, f, e1, fun j hj => ?_⟩))
    obtain ⟨a, g1, g2⟩ := e2 j hj
    obtain ⟨b, g3, g4⟩ := z_sbL_at hl g1
    exact ⟨b, g3, z_sbA_ok hag g4 g2⟩
  · obtain ⟨l, hl, rfl⟩ := z_sbC_o (by omega) h
    refine Or.inr (Or.inr (Or.inr (Or.inl ⟨k, f, e1, fun j hj => ?_⟩)))
    obtain ⟨a, g1, g2⟩ := e2 j hj
    obtain ⟨b, g3, g4⟩ := z_sbL_at hl g1
    exact ⟨b, g3, z_sbA_ok hag g4 g2⟩
  · unfold z_sbC at h
    rw [k] at h
    simp only [e2] at h
    obtain ⟨g, hg, h⟩ := z_bdI h
    obtain ⟨r, hr, h⟩ := z_bdI h
    obtain ⟨hw, h⟩ := z_ifI h
    obtain ⟨hw1, hw2⟩ := z_andI hw
    cases h
    refine Or.inr (Or.inr (Or.inr (Or.inr (Or.inl ⟨rfl, f, _, _, _, e1, rfl, z_wfLI hw1, z_wfLI hw2, ?_, ?_⟩))))
    · have a1 := f_sb_ev (f := z_fm2 so) hag e3 hg
      have a2 := f_sb_ev (f := z_fm2 sz) hag e4 hr
      show z_seen (f_evm ν1 g) (f_evm ν1 r) f
      rw [← a1, ← a2]
      exact e5
    · exact z_no2_nx rfl
  · unfold z_sbC at h
    rw [k] at h
    cases h
end SB
/-- the cells behind a call: those that the callee may write are as its end says, the others as they were; what was looked at stays looked at -/
def z_mgC (θ : TH) (m' : Nat) (c d : AC) : Option AC := match Nat.beq c.1 107 with
  | true => z_bd (z_sbC θ m' (7, c.2)) fun x => some ((match Nat.ble 99 d.1 with
    | true => 107
    | false => 7), x.2)
  | false => match Nat.ble 99 c.1 with
    | true => some d
    | false => z_sbC θ m' c
def z_mgR (θ : TH) (m' : Nat) : List AC → List AC → Option (List AC)
  | [], [] => some []
  | c :: l, d :: k => z_bd (z_mgC θ m' c d) fun x => z_bd (z_mgR θ m' l k) fun r => some (x :: r)
  | [], _ :: _ => none
  | _ :: _, [] => none
def z_mgH (θ : TH) (m' : Nat) : T2 AC → T2 AC → Option (T2 AC)
  | [], [] => some []
  | c :: l, d :: k => z_bd (z_mgR θ m' c d) fun x => z_bd (z_mgH θ m' l k) fun r => some (x :: r)
  | [], _ :: _ => none
  | _ :: _, [] => none
theorem z_mgR_nth {θ : TH} {m' : Nat} {l k r : List AC} (h : z_mgR θ m' l k = some r) {j : Nat} {x : AC} (hx : z_nth r j = some x) : ∃ c d, z_nth l j = some c ∧ z_nth k j = some d ∧ z_mgC θ m' c d = some x := by
  induction l generalizing k r j with
  | nil => cases k with
    | nil => cases h; cases hx
    | cons => cases h
  | cons c l ih => cases k with
    | nil => cases h
    | cons d k =>
      obtain ⟨y, hy, h⟩ := z_bdI h
      obtain ⟨t, ht, h⟩ := z_bdI h
      cases h
      cases j with
      | zero => cases hx; exact ⟨c, d, rfl, rfl, hy⟩
      | succ j => exact ih ht hx
theorem z_mgH_nth {θ : TH} {m' : Nat} {l k r : T2 AC} (h : z_mgH θ m' l k = some r) {j : Nat} {x : List AC} (hx : z_nth r j = some x) : ∃ c d, z_nth l j = some c ∧ z_nth k j = some d ∧ z_mgR θ m' c d = some x := by
  induction l generalizing k r j with
  | nil => cases k with
    | nil => cases h; cases hx
    | cons => cases h
  | cons c l ih => cases k with
    | nil => cases h
    | cons d k =>
      obtain ⟨y, hy, h⟩ := z_bdI h
      obtain ⟨t, ht, h⟩ := z_bdI h
      cases h
      cases j with
      | zero => cases hx; exact ⟨c, d, rfl, rfl, hy⟩
      | succ j => exact ih ht hx
theorem z_mgH_ok {ν ν' ν1 : Nat → Int} {θ : TH} {m m' nv n n' : Nat} {β : ZB} {K : Nat → ClassId} {σ σ0 u : Nat → va_E} {hp h r : T2 AC} (hag : ∀ i, i < m → ν' i = z_nu ν1 θ i) (hx : ∀ i, i < nv → ν1 i = ν i) (hn : nv ≤ m') (hnn : n ≤ n') (hm : z_mgH θ m' hp h = some r) (q1 : z_hm ν' m β K σ hp n' u) (q2 : z_hm ν nv β K σ0 h n σ) : z_hm ν1 m' β K σ0 r n' u := by
  intro i x hxi
  unfold z_g2 at hxi
  cases hr : z_nth r (Nat.div i 16) with
  | none => rw [hr] at hxi; cases hxi
  | some t =>
    rw [hr] at hxi
    obtain ⟨c0, d0, h1, h2, h3⟩ := z_mgH_nth hm hr
    obtain ⟨c, d, g1, g2, g3⟩ := z_mgR_nth h3 hxi
    have a1 : z_g2 hp i = some c := by unfold z_g2; rw [h1]; exact g1
    have a2 : z_g2 h i = some d := by unfold z_g2; rw [h2]; exact g2
    obtain ⟨b1, b2⟩ := q1 i c a1
    obtain ⟨b3, b4⟩ := q2 i d a2
    unfold z_mgC at g3
    cases h7 : Nat.beq c.1 107 with
    | true =>
      rw [h7] at g3
      obtain ⟨y, hy, g3⟩ := z_bdI g3
      have e7 := Nat.eq_of_beq_eq_true h7
      rcases b2 with w | ⟨w1, w2⟩
      · omega
      · have w2 : z_mc ν' m β K (7, c.2) (u i) := by rw [e7] at w2; exact w2
        have w3 := z_sbC_ok hag hy w2
        have ky := z_sbC_k hy
        have w4 : z_mc ν1 m' β K (7, y.2) (u i) := by rw [show ((7, y.2) : AC) = y from by rw [show (7 : Nat) = y.1 from ky.symm]]; exact w3
        cases hb : Nat.ble 99 d.1 with
        | true =>
          rw [hb] at g3
          cases g3
          have hd := Nat.le_of_ble_eq_true hb
          refine ⟨fun _ => (b1 (by omega)).trans (b3 hd), Or.inr ⟨w1, ?_⟩⟩
          show z_mc ν1 m' β K (107 % 100, y.2) (u i)
          exact w4
        | false =>
          rw [hb] at g3
          cases g3
          refine ⟨fun w => by have w : 99 ≤ 7 := w; omega, Or.inr ⟨w1, ?_⟩⟩
          show z_mc ν1 m' β K (7 % 100, y.2) (u i)
          exact w4
    | false =>
      rw [h7] at g3
      simp only at g3
      cases hb : Nat.ble 99 c.1 with
      | true =>
        rw [hb] at g3
        cases g3
        rw [b1 (Nat.le_of_ble_eq_true hb)]
        exact ⟨b3, b4.imp id (fun w => ⟨by omega, z_mc_ext hx hn w.2⟩)⟩
      | false =>
        rw [hb] at g3
        have k1 : c.1 < 99 := by
          rcases Nat.lt_or_ge c.1 99 with g | g
          · exact g
          · have := Nat.ble_eq_true_of_le g; rw [hb] at this; cases this
        have kk := z_sbC_k g3
        refine ⟨fun w => by omega, Or.inr ?_⟩
        rcases b2 with w | ⟨w1, w2⟩
        · omega
        · refine ⟨w1, ?_⟩
          rw [Nat.mod_eq_of_lt (by omega)] at w2 ⊢
          exact z_sbC_ok hag g3 w2
