/-! rows: reads -/
def z_avb (V : VS) (a : AV) : Option (Int × Int) := match a.1 with
  | 0 => f_bd V (z_fm2 a)
  | 1 => some (a.2.2.1, a.2.2.2.1)
  | 2 => f_bd V (z_fm2 a)
  | 3 => some (a.2.2.1, a.2.2.2.1)
  | _ => none
theorem z_avbI {ν : Nat → Int} {β : ZB} {V : VS} {a : AV} {w : Int × Int} {x : Int32} (hs : z_sat ν V) (h : z_avb V a = some w) (hm : z_mt ν (z_len V.1) β a (.int x)) : w.1 ≤ x.toInt ∧ x.toInt ≤ w.2 := by
  rcases hm with ⟨h1, _, y, h2, h3⟩ | ⟨h1, y, h2, h3⟩ | ⟨h1, _, y, h2, _⟩ | ⟨h1, y, h2, _⟩ | ⟨_, h2⟩ | ⟨_, h2 | ⟨r, h2⟩⟩ | ⟨_, r, h2⟩ | ⟨_, h2, -⟩ | ⟨_, h2⟩ | ⟨_, h2⟩
  · cases h2
    unfold z_avb at h
    rw [h1] at h
    rw [h3]
    exact f_bd_ok hs h
  · cases h2
    unfold z_avb at h
    rw [h1] at h
    cases h
    exact ⟨h3.1, h3.2.1⟩
  all_goals cases h2
theorem z_avbL {ν : Nat → Int} {β : ZB} {V : VS} {a : AV} {w : Int × Int} {x : Int64} (hs : z_sat ν V) (h : z_avb V a = some w) (hm : z_mt ν (z_len V.1) β a (.long x)) : w.1 ≤ x.toInt ∧ x.toInt ≤ w.2 := by
  rcases hm with ⟨h1, _, y, h2, _⟩ | ⟨h1, y, h2, _⟩ | ⟨h1, _, y, h2, h3⟩ | ⟨h1, y, h2, h3⟩ | ⟨_, h2⟩ | ⟨_, h2 | ⟨r, h2⟩⟩ | ⟨_, r, h2⟩ | ⟨_, h2, -⟩ | ⟨_, h2⟩ | ⟨_, h2⟩
  · cases h2
  · cases h2
  · cases h2
    unfold z_avb at h
    rw [h1] at h
    rw [h3]
    exact f_bd_ok hs h
  · cases h2
    unfold z_avb at h
    rw [h1] at h
    cases h
    exact ⟨h3.1, h3.2.1⟩
  all_goals cases h2
/-- the places that an index can be: from lo to hi, in steps -/
def f_g : FL → Nat
  | [] => 0
  | q :: l => Nat.gcd (Int.natAbs q.1) (f_g l)
theorem f_g_ok {ν : Nat → Int} {l : FL} : ((f_g l : Nat) : Int) ∣ f_ev ν l := by
  induction l with
  | nil => exact Int.dvd_zero _
  | cons q l ih =>
    show ((Nat.gcd (Int.natAbs q.1) (f_g l) : Nat) : Int) ∣ q.1 * ν q.2 + f_ev ν l
    refine Int.dvd_add ?_ ?_
    · have : ((Nat.gcd (Int.natAbs q.1) (f_g l) : Nat) : Int) ∣ q.1 := Int.ofNat_dvd_left.mpr (Nat.gcd_dvd_left _ _)
      exact Int.dvd_trans this (Int.dvd_mul_right _ _)
    · exact Int.dvd_trans (Int.ofNat_dvd.mpr (Nat.gcd_dvd_right _ _)) ih
def z_cg (g : Nat) (r j : Int) : Bool := match g with
  | 0 => true
  | _ + 1 => z_eq0 (Int.emod (Int.add j (Int.mul (-1) r)) (Int.ofNat g))
theorem z_eq0R {a : Int} (h : a = 0) : z_eq0 a = true := by subst h; rfl
theorem z_cg_ok {ν : Nat → Int} {ix : FM} {j : Int} (h : j = f_evm ν ix) : z_cg (f_g ix.2) ix.1 j = true := by
  have hd := f_g_ok (ν := ν) (l := ix.2)
  have e : j + -1 * ix.1 = f_ev ν ix.2 := by rw [h]; show ix.1 + f_ev ν ix.2 + -1 * ix.1 = _; omega
  generalize f_g ix.2 = g at hd
  cases g with
  | zero => rfl
  | succ g =>
    refine z_eq0R ?_
    show (j + -1 * ix.1) % ((g + 1 : Nat) : Int) = 0
    rw [e]
    exact Int.emod_eq_zero_of_dvd hd
def z_sel (g : Nat) (r : Int) (q : Int × Int) (j : Int) : Bool := z_and (z_le q.1 j) (z_and (z_le j q.2) (z_cg g r j))
theorem z_sel_ok {ν : Nat → Int} {ix : FM} {q : Int × Int} {j : Int} (h : j = f_evm ν ix) (h1 : q.1 ≤ j) (h2 : j ≤ q.2) : z_sel (f_g ix.2) ix.1 q j = true := by
  unfold z_sel
  rw [z_le_iff.mpr h1, z_le_iff.mpr h2, z_cg_ok h]
  rfl
/-- bounds of the elements at such places -/
def z_hullR (V : VS) (sel : Int → Bool) : Int → List AV → Option (Int × Int)
  | _, [] => some (1, 0)
  | j, a :: l => z_bd (z_hullR V sel (Int.add j 1) l) fun r => match sel j with
    | false => some r
    | true => z_bd (z_avb V a) fun w => match z_le r.1 r.2 with
      | true => some (z_min w.1 r.1, z_max w.2 r.2)
      | false => some w
theorem z_hullR_ok {V : VS} {sel : Int → Bool} {j : Int} {l : List AV} {r : Int × Int} (h : z_hullR V sel j l = some r) {k : Nat} {a : AV} (ha : z_nth l k = some a) (h1 : sel (j + k) = true) : ∃ w, z_avb V a = some w ∧ (∀ X : Int, w.1 ≤ X → X ≤ w.2 → r.1 ≤ X ∧ X ≤ r.2) := by
  induction l generalizing j k r with
  | nil => cases ha
  | cons d l ih =>
    obtain ⟨q, hq, h⟩ := z_bdI h
    cases k with
    | zero =>
      cases ha
      have h1 : sel j = true := by rw [show j = j + ((0 : Nat) : Int) by omega]; exact h1
      rw [h1] at h
      obtain ⟨w, hw', h⟩ := z_bdI h
      refine ⟨w, hw', fun X x1 x2 => ?_⟩
      cases hc : z_le q.1 q.2 with
      | true =>
        rw [hc] at h
        cases h
        exact ⟨Int.le_trans z_min_le.1 x1, Int.le_trans x2 z_max_le.1⟩
      | false =>
        rw [hc] at h
        cases h
        exact ⟨x1, x2⟩
    | succ k =>
      obtain ⟨w, hw', hX⟩ := ih (j := Int.add j 1) hq ha (by rw [show Int.add j 1 + (k : Int) = j + ((k + 1 : Nat) : Int) by show j + 1 + (k : Int) = _; omega]; exact h1)
      refine ⟨w, hw', fun X x1 x2 => ?_⟩
      have := hX X x1 x2
      cases hc : sel j with
      | false => rw [hc] at h; cases h; exact this
      | true =>
        rw [hc] at h
        obtain ⟨w2, hw2, h⟩ := z_bdI h
        cases hc2 : z_le q.1 q.2 with
        | true =>
          rw [hc2] at h
          cases h
          exact ⟨Int.le_trans z_min_le.2.1 this.1, Int.le_trans this.2 z_max_le.2.1⟩
        | false =>
          have := z_le_f.mp hc2
          omega
/-- all of them are acts -/
def z_allm (t : Nat) (sel : Int → Bool) : Int → List AV → Bool
  | _, [] => true
  | j, a :: l => match sel j with
    | false => z_allm t sel (Int.add j 1) l
    | true => z_and (z_and (Nat.beq a.1 (Nat.succ t)) (Nat.ble 1 a.2.1)) (z_allm t sel (Int.add j 1) l)
theorem z_allm_ok {t : Nat} {sel : Int → Bool} {j : Int} {l : List AV} (h : z_allm t sel j l = true) {k : Nat} {a : AV} (ha : z_nth l k = some a) (h1 : sel (j + k) = true) : a.1 = t + 1 ∧ 1 ≤ a.2.1 := by
  induction l generalizing j k with
  | nil => cases ha
  | cons d l ih =>
    unfold z_allm at h
    cases k with
    | zero =>
      cases ha
      have h1 : sel j = true := by rw [show j = j + ((0 : Nat) : Int) by omega]; exact h1
      rw [h1] at h
      obtain ⟨h, -⟩ := z_andI h
      obtain ⟨g1, g2⟩ := z_andI h
      exact ⟨Nat.eq_of_beq_eq_true g1, Nat.le_of_ble_eq_true g2⟩
    | succ k =>
      refine ih (j := Int.add j 1) (k := k) ?_ ha (by rw [show Int.add j 1 + (k : Int) = j + ((k + 1 : Nat) : Int) by show j + 1 + (k : Int) = _; omega]; exact h1)
      cases hc : sel j with
      | false => rw [hc] at h; exact h
      | true => rw [hc] at h; exact (z_andI h).2
/-- a number of a row, by bounds, or an act -/
def z_frM (t : Nat) (V : VS) (w : Int × Int) (m : Bool) : AV × VS := match m with
  | true => z_frA t V (Nat.succ t, 1, w.1, w.2, [])
  | false => z_fr t V w
/-- a read: the value, what is known then, the row as it is told then -/
def z_rdA (t : Nat) (V : VS) (l : List AV) (ix : FM) : Option (AV × VS × List AV) := match l with
  | [] => none
  | [a] => some ((z_ld V a).1, (z_ld V a).2, [a])
  | a :: d :: k => z_bd (f_bd V ix) fun q => match z_one q with
    | true => z_bd (z_nth (a :: d :: k) (Int.toNat q.1)) fun b => match z_bk b with
      | true => some ((z_ld V b).1, (z_ld V b).2, z_put (a :: d :: k) (Int.toNat q.1) (z_ld V b).1)
      | false => some (b, V, a :: d :: k)
    | false => z_bd (z_hullR V (z_sel (f_g ix.2) ix.1 q) 0 (a :: d :: k)) fun w => match z_frM t V w (z_allm t (z_sel (f_g ix.2) ix.1 q) 0 (a :: d :: k)) with
      | r => some (r.1, r.2, a :: d :: k)
theorem z_at2 {l : List AV} (h : 2 ≤ z_len l) (j : Nat) : z_at l j = z_nth l j := by
  match l, h with
  | [], h => exact absurd h (by simp [z_len])
  | [a], h => exact absurd h (by simp [z_len])
  | a :: d :: k, h => rfl
theorem z_rdAI {ν : Nat → Int} {β : ZB} {V V' : VS} {l l' : List AV} {ix : FM} {r : AV} {j len : Nat} {f : Nat → Int32} (hs : z_sat ν V) (h : z_rdA 0 V l ix = some (r, V', l')) (hj : (j : Int) = f_evm ν ix) (hlt : j < len) (hel : ∀ j, j < len → ∃ a, z_at l j = some a ∧ z_mt ν (z_len V.1) β a (.int (f j))) : ∃ ν' : Nat → Int, (∀ i, i < z_len V.1 → ν' i = ν i) ∧ z_len V.1 ≤ z_len V'.1 ∧ z_sat ν' V' ∧ z_mt ν' (z_len V'.1) β r (.int (f j)) ∧ ∀ j, j < len → ∃ a, z_at l' j = some a ∧ z_mt ν' (z_len V'.1) β a (.int (f j)) := by
  match l, h, hel with
  | [a], h, hel =>
    cases h
    obtain ⟨b, hb1, hb2⟩ := hel j hlt
    cases hb1
    obtain ⟨ν', e1, e2, e3, e4⟩ := z_ld_ok hs hb2
    exact ⟨ν', e1, e2, e3, e4, fun i hi => by
      obtain ⟨b, g1, g2⟩ := hel i hi
      exact ⟨b, g1, z_mt_ext e1 e2 g2⟩⟩
  | a :: d :: k, h, hel =>
    obtain ⟨q, hq, h⟩ := z_bdI h
    have hb := f_bd_ok hs hq
    rw [← hj] at hb
    obtain ⟨a0, ha0, hm0⟩ := hel j hlt
    have ha0 : z_nth (a :: d :: k) j = some a0 := ha0
    cases ho : z_one q with
    | true =>
      rw [ho] at h
      have := z_le_iff.mp ho
      have e : Int.toNat q.1 = j := by omega
      obtain ⟨b, hbn, h⟩ := z_bdI h
      rw [e] at hbn h
      cases hbn.symm.trans ha0
      cases hk : z_bk a0 with
      | true =>
        rw [hk] at h
        cases h
        obtain ⟨ν', e1, e2, e3, e4⟩ := z_ld_ok hs hm0
        refine ⟨ν', e1, e2, e3, e4, fun i hi => ?_⟩
        rw [z_at2 (by rw [z_len_put]; simp [z_len])]
        by_cases hij : j = i
        · subst hij
          exact ⟨_, z_nth_self ha0 _, e4⟩
        · obtain ⟨b', g1, g2⟩ := hel i hi
          exact ⟨b', (z_nth_ne _ _ hij).trans g1, z_mt_ext e1 e2 g2⟩
      | false =>
        rw [hk] at h
        cases h
        exact ⟨ν, fun _ _ => rfl, Nat.le_refl _, hs, hm0, hel⟩
    | false =>
      rw [ho] at h
      obtain ⟨w, hw', h⟩ := z_bdI h
      have hsel : z_sel (f_g ix.2) ix.1 q (0 + (j : Int)) = true := by rw [show (0 : Int) + (j : Int) = (j : Int) by omega]; exact z_sel_ok hj hb.1 hb.2
      obtain ⟨w2, hw2, hX⟩ := z_hullR_ok hw' ha0 hsel
      have hb2 := z_avbI hs hw2 hm0
      have := hX _ hb2.1 hb2.2
      have fin : z_gv ν β V (z_frM 0 V w (z_allm 0 (z_sel (f_g ix.2) ix.1 q) 0 (a :: d :: k))) (.int (f j)) := by
        cases hm : z_allm 0 (z_sel (f_g ix.2) ix.1 q) 0 (a :: d :: k) with
        | false => exact z_frI (β := β) hs this.1 this.2
        | true =>
          have ga := z_allm_ok hm ha0 hsel
          refine z_ld_ok (a := (1, 1, w.1, w.2, [])) hs (Or.inr (Or.inl ⟨rfl, _, rfl, this.1, this.2, Or.inr ?_⟩))
          rcases hm0 with ⟨g, _⟩ | ⟨g, x, gx, gm⟩ | ⟨g, _⟩ | ⟨g, _⟩ | ⟨g, _⟩ | ⟨g, _⟩ | ⟨g, _⟩ | ⟨g, _⟩ | ⟨g, _⟩ | ⟨g, _⟩
          all_goals first | (have := ga.1; omega) | skip
          cases gx
          rcases gm.2.2 with g0 | g0
          · have := ga.2; omega
          · exact g0
      obtain ⟨ν', e1, e2, e3, e4⟩ := fin
      cases h
      exact ⟨ν', e1, e2, e3, e4, fun i hi => by
        obtain ⟨b', g1, g2⟩ := hel i hi
        exact ⟨b', g1, z_mt_ext e1 e2 g2⟩⟩
theorem z_rdAL {ν : Nat → Int} {β : ZB} {V V' : VS} {l l' : List AV} {ix : FM} {r : AV} {j len : Nat} {f : Nat → Int64} (hs : z_sat ν V) (h : z_rdA 2 V l ix = some (r, V', l')) (hj : (j : Int) = f_evm ν ix) (hlt : j < len) (hel : ∀ j, j < len → ∃ a, z_at l j = some a ∧ z_mt ν (z_len V.1) β a (.long (f j))) : ∃ ν' : Nat → Int, (∀ i, i < z_len V.1 → ν' i = ν i) ∧ z_len V.1 ≤ z_len V'.1 ∧ z_sat ν' V' ∧ z_mt ν' (z_len V'.1) β r (.long (f j)) ∧ ∀ j, j < len → ∃ a, z_at l' j = some a ∧ z_mt ν' (z_len V'.1) β a (.long (f j)) := by
  match l, h, hel with
  | [a], h, hel =>
    cases h
    obtain ⟨b, hb1, hb2⟩ := hel j hlt
    cases hb1
    obtain ⟨ν', e1, e2, e3, e4⟩ := z_ld_ok hs hb2
    exact ⟨ν', e1, e2, e3, e4, fun i hi => by
      obtain ⟨b, g1, g2⟩ := hel i hi
      exact ⟨b, g1, z_mt_ext e1 e2 g2⟩⟩
  | a :: d :: k, h, hel =>
    obtain ⟨q, hq, h⟩ := z_bdI h
    have hb := f_bd_ok hs hq
    rw [← hj] at hb
    obtain ⟨a0, ha0, hm0⟩ := hel j hlt
    have ha0 : z_nth (a :: d :: k) j = some a0 := ha0
    cases ho : z_one q with
    | true =>
      rw [ho] at h
      have := z_le_iff.mp ho
      have e : Int.toNat q.1 = j := by omega
      obtain ⟨b, hbn, h⟩ := z_bdI h
      rw [e] at hbn h
      cases hbn.symm.trans ha0
      cases hk : z_bk a0 with
      | true =>
        rw [hk] at h
        cases h
        obtain ⟨ν', e1, e2, e3, e4⟩ := z_ld_ok hs hm0
        refine ⟨ν', e1, e2, e3, e4, fun i hi => ?_⟩
        rw [z_at2 (by rw [z_len_put]; simp [z_len])]
        by_cases hij : j = i
        · subst hij
          exact ⟨_, z_nth_self ha0 _, e4⟩
        · obtain ⟨b', g1, g2⟩ := hel i hi
          exact ⟨b', (z_nth_ne _ _ hij).trans g1, z_mt_ext e1 e2 g2⟩
      | false =>
        rw [hk] at h
        cases h
        exact ⟨ν, fun _ _ => rfl, Nat.le_refl _, hs, hm0, hel⟩
    | false =>
      rw [ho] at h
      obtain ⟨w, hw', h⟩ := z_bdI h
      have hsel : z_sel (f_g ix.2) ix.1 q (0 + (j : Int)) = true := by rw [show (0 : Int) + (j : Int) = (j : Int) by omega]; exact z_sel_ok hj hb.1 hb.2
      obtain ⟨w2, hw2, hX⟩ := z_hullR_ok hw' ha0 hsel
      have hb2 := z_avbL hs hw2 hm0
      have := hX _ hb2.1 hb2.2
      have fin : z_gv ν β V (z_frM 2 V w (z_allm 2 (z_sel (f_g ix.2) ix.1 q) 0 (a :: d :: k))) (.long (f j)) := by
        cases hm : z_allm 2 (z_sel (f_g ix.2) ix.1 q) 0 (a :: d :: k) with
        | false => exact z_frL (β := β) hs this.1 this.2
        | true =>
          have ga := z_allm_ok hm ha0 hsel
          refine z_ld_ok (a := (3, 1, w.1, w.2, [])) hs (Or.inr (Or.inr (Or.inr (Or.inl ⟨rfl, _, rfl, this.1, this.2, Or.inr ?_⟩))))
          rcases hm0 with ⟨g, _⟩ | ⟨g, _⟩ | ⟨g, _⟩ | ⟨g, x, gx, gm⟩ | ⟨g, _⟩ | ⟨g, _⟩ | ⟨g, _⟩ | ⟨g, _⟩ | ⟨g, _⟩ | ⟨g, _⟩
          all_goals first | (have := ga.1; omega) | skip
          cases gx
          rcases gm.2.2 with g0 | g0
          · have := ga.2; omega
          · exact g0
      obtain ⟨ν', e1, e2, e3, e4⟩ := fin
      cases h
      exact ⟨ν', e1, e2, e3, e4, fun i hi => by
        obtain ⟨b', g1, g2⟩ := hel i hi
        exact ⟨b', g1, z_mt_ext e1 e2 g2⟩⟩
def z_inb (V : VS) (ix : FM) (len : Nat) : Bool := z_inR V ix 0 (Int.add (Int.ofNat len) (-1))
theorem z_inbI {ν : Nat → Int} {V : VS} {ix : FM} {len : Nat} {x : Int32} (hs : z_sat ν V) (h : z_inb V ix len = true) (hx : x.toInt = f_evm ν ix) : vp_in x len ∧ (x.toNatClampNeg : Int) = f_evm ν ix ∧ x.toNatClampNeg < len := by
  obtain ⟨a1, a2⟩ := z_inRI hs h
  have a2 : f_evm ν ix ≤ (len : Int) + (-1) := a2
  have e : (x.toNatClampNeg : Int) = x.toInt := rg_clamp (a := 0) (b := (len : Int)) ⟨by omega, by omega⟩ (Int.le_refl _)
  exact ⟨vp_in_iff.mpr ⟨by omega, by omega⟩, by omega, by omega⟩
def h_ald (kk t np : Nat) : ZH := fun _ loc stk V h n sl => z_bd (z_p1 stk) fun a => z_bd (z_p1 a.2) fun d => z_if (z_and (z_isI a.1) (Nat.beq d.1.1 4)) (z_bd (z_g2 h d.1.2.1) fun c => z_if (z_and (Nat.beq (Nat.mod c.1 100) kk) (z_inb V (z_fm2 a.1) c.2.1)) (z_bd (z_rdA t V c.2.2 (z_fm2 a.1)) fun q => some ([(np, loc, q.1 :: d.2, q.2.1, z_s2 h d.1.2.1 (c.1, c.2.1, q.2.2), n, sl)], [])))
section LA
variable {S : List ZT} {ms : List ZM} {D : va_G} {K : Nat → ClassId} {β : ZB} {p : Program} {l : Launch} {e : Env} {R : Room} {s : State} {m : MethodId} {args : Array Value} {below : List Frame} {meth : Method} {c : Code} {Q : State → Prop} {σ0 : Nat → va_E} {ν0 : Nat → Int} {nv0 k0 nL : Nat} {E : ZE} {own mn : String} {cc : ByteArray} {loc : List (Nat × AV)} {stk : List AV} {V : VS} {h : T2 AC} {n sl : Nat} {res : List ZS × List ZO} {ν : Nat → Int} {σ : Nat → va_E} {H : Heap} {locs : List Loc} {ls : Array Slot} {vs : List Value} {pc np : Nat}
theorem z_ald {kk t : Nat} (hr : h_ald kk t np E loc stk V h n sl = some res) (hS : ∀ st ∈ res.1, z_W D K β p l e R s m args below meth c Q σ0 ν0 nv0 k0 nL st) (P : z_P D K β s σ0 ν0 nv0 k0 nL loc stk V h n ν σ H locs ls vs) : ∃ (i : Nat) (x : Int32) (rest : List Value) (cl : AC) (ix : FM) (r : AV) (V' : VS) (l' : List AV), vs = .int x :: .ref (β.1 + i) :: rest ∧ z_g2 h i = some cl ∧ cl.1 % 100 = kk ∧ vp_in x cl.2.1 ∧ x.toNatClampNeg < cl.2.1 ∧ (x.toNatClampNeg : Int) = f_evm ν ix ∧ z_rdA t V cl.2.2 ix = some (r, V', l') ∧ ∀ (ν' : Nat → Int) (v : Value), (∀ i, i < z_len V.1 → ν' i = ν i) → z_len V.1 ≤ z_len V'.1 → z_sat ν' V' → z_mt ν' (z_len V'.1) β r v → i < n → z_mc ν' (z_len V'.1) β K (cl.1 % 100, cl.2.1, l') (σ i) → W p l e R s m args below meth c H locs (n - k0) sl Q (F0 m np ls (v :: rest)) := by
  obtain ⟨a, ha, hr⟩ := z_bdI hr
  obtain ⟨g, hg, hr⟩ := z_bdI hr
  obtain ⟨hk, hr⟩ := z_ifI hr
  obtain ⟨hka, hkg⟩ := z_andI hk
  obtain ⟨cl, hc, hr⟩ := z_bdI hr
  obtain ⟨hk2, hr⟩ := z_ifI hr
  obtain ⟨hk2, hin⟩ := z_andI hk2
  obtain ⟨q, hrd, hr⟩ := z_bdI hr
  cases hr
  obtain ⟨p1, p2, p3, p4, p5, p6, p7, p8⟩ := P
  rw [z_p1I ha, z_p1I hg] at p7
  obtain ⟨vx, r1, rfl, q1, q2⟩ := z_fm_cons p7
  obtain ⟨vr, rest, rfl, q3, q4⟩ := z_fm_cons q2
  obtain ⟨wx, x, rfl, hx⟩ := z_mt_i q1 hka
  obtain rfl := z_mt_r q3 hkg
  obtain ⟨b1, b2, b3⟩ := z_inbI p4 hin hx
  exact ⟨g.1.2.1, x, rest, cl, _, q.1, q.2.1, q.2.2, rfl, hc, Nat.eq_of_beq_eq_true hk2, b1, b3, b2, hrd, fun ν' v e1 e2 e3 hv hi hm => hS _ List.mem_cons_self ν' σ H locs ls _ ⟨fun i hi => (e1 i (Nat.lt_of_lt_of_le hi p2)).trans (p1 i hi), Nat.le_trans p2 e2, p3, e3, z_hm_re (z_hm_ext e1 e2 p5) hc hi rfl hm, z_lm_ext e1 e2 p6, ⟨hv, z_fm_mono (fun _ _ => z_mt_ext e1 e2) q4⟩, p8⟩⟩
theorem s_iaload (d : decode cc pc = .ok (.iaload, 1)) (hn : pc + 1 = np) : z_sound S ms own mn cc nL pc (h_ald 1 0 np) := by
  subst hn
  intro D K β p l e R s m args below meth c Q σ0 ν0 nv0 k0 E X loc stk V h n sl res hr hS hO ν σ H locs ls vs P
  obtain ⟨i, x, rest, cl, ix, r, V', l', rfl, hc, e1, h1, h2, h3, h4, kk⟩ := z_ald hr hS P
  obtain ⟨hi, f, hf, hel⟩ := z_arI P.2.2.2.2.1 hc (Or.inl e1)
  obtain ⟨ν', g1, g2, g3, g4, g5⟩ := z_rdAI P.2.2.2.1 h4 h3 h2 hel
  have hf' := hf
  rw [e1] at hf'
  exact hp_iald X.1 P.2.2.2.2.2.2.2 i hi hf' h1 rfl d (kk ν' _ g1 g2 g3 g4 hi (Or.inr (Or.inl ⟨Or.inl e1, f, hf, g5⟩)))
theorem s_baload (d : decode cc pc = .ok (.baload, 1)) (hn : pc + 1 = np) : z_sound S ms own mn cc nL pc (h_ald 2 0 np) := by
  subst hn
  intro D K β p l e R s m args below meth c Q σ0 ν0 nv0 k0 E X loc stk V h n sl res hr hS hO ν σ H locs ls vs P
  obtain ⟨i, x, rest, cl, ix, r, V', l', rfl, hc, e1, h1, h2, h3, h4, kk⟩ := z_ald hr hS P
  obtain ⟨hi, f, hf, hel⟩ := z_arI P.2.2.2.2.1 hc (Or.inr (Or.inl e1))
  obtain ⟨ν', g1, g2, g3, g4, g5⟩ := z_rdAI P.2.2.2.1 h4 h3 h2 hel
  have hf' := hf
  rw [e1] at hf'
  exact hp_bald X.1 P.2.2.2.2.2.2.2 i hi hf' h1 rfl d (kk ν' _ g1 g2 g3 g4 hi (Or.inr (Or.inl ⟨Or.inr (Or.inl e1), f, hf, g5⟩)))
theorem s_zaload (d : decode cc pc = .ok (.baload, 1)) (hn : pc + 1 = np) : z_sound S ms own mn cc nL pc (h_ald 4 0 np) := by
  subst hn
  intro D K β p l e R s m args below meth c Q σ0 ν0 nv0 k0 E X loc stk V h n sl res hr hS hO ν σ H locs ls vs P
  obtain ⟨i, x, rest, cl, ix, r, V', l', rfl, hc, e1, h1, h2, h3, h4, kk⟩ := z_ald hr hS P
  obtain ⟨hi, f, hf, hel⟩ := z_arI P.2.2.2.2.1 hc (Or.inr (Or.inr e1))
  obtain ⟨ν', g1, g2, g3, g4, g5⟩ := z_rdAI P.2.2.2.1 h4 h3 h2 hel
  have hf' := hf
  rw [e1] at hf'
  exact hp_zald X.1 P.2.2.2.2.2.2.2 i hi hf' h1 rfl d (kk ν' _ g1 g2 g3 g4 hi (Or.inr (Or.inl ⟨Or.inr (Or.inr e1), f, hf, g5⟩)))
theorem s_laload (d : decode cc pc = .ok (.laload, 1)) (hn : pc + 1 = np) : z_sound S ms own mn cc nL pc (h_ald 3 2 np) := by
  subst hn
  intro D K β p l e R s m args below meth c Q σ0 ν0 nv0 k0 E X loc stk V h n sl res hr hS hO ν σ H locs ls vs P
  obtain ⟨i, x, rest, cl, ix, r, V', l', rfl, hc, e1, h1, h2, h3, h4, kk⟩ := z_ald hr hS P
  obtain ⟨hi, f, hf, hel⟩ := z_arL P.2.2.2.2.1 hc e1
  obtain ⟨ν', g1, g2, g3, g4, g5⟩ := z_rdAL P.2.2.2.1 h4 h3 h2 hel
  exact hp_lald X.1 P.2.2.2.2.2.2.2 i hi hf h1 rfl d (kk ν' _ g1 g2 g3 g4 hi (Or.inr (Or.inr (Or.inl ⟨e1, f, hf, g5⟩))))
end LA
