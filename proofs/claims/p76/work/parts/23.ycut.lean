/-! templates of cells, locals, names -/
/-- a row that was looked at: nothing of its next three is told in a template -/
def z_no2 : List AV → Bool
  | [] => true
  | a :: l => match Nat.beq a.1 2 with
    | true => false
    | false => z_no2 l
theorem z_no2_nx {ν : Nat → Int} {nv : Nat} {β : ZB} {p : Int} {f : Nat → Int64} {l : List AV} (h : z_no2 l = true) {d : Nat} : z_nx ν nv β p f d l := by
  induction l generalizing d with
  | nil => trivial
  | cons a l ih =>
    unfold z_no2 at h
    cases hb : Nat.beq a.1 2 with
    | true => rw [hb] at h; cases h
    | false =>
      rw [hb] at h
      refine ⟨fun e => ?_, ih h⟩
      rw [e] at hb
      cases hb
def z_m3L : FL → Bool
  | [] => true
  | q :: l => z_and (z_eq0 (Int.emod q.1 3)) (z_m3L l)
theorem z_m3L_ok {ν : Nat → Int} {l : FL} (h : z_m3L l = true) : (3 : Int) ∣ f_ev ν l := by
  induction l with
  | nil => exact Int.dvd_zero _
  | cons q l ih =>
    obtain ⟨h1, h2⟩ := z_andI h
    have h1 : q.1 % 3 = 0 := z_eq0I h1
    exact Int.dvd_add (Int.dvd_trans (Int.dvd_of_emod_eq_zero h1) (Int.dvd_mul_right _ _)) (ih h2)
def z_m3 (f : FM) : Bool := z_and (z_eq0 (Int.emod f.1 3)) (z_m3L f.2)
theorem z_m3_ok {ν : Nat → Int} {f : FM} (h : z_m3 f = true) : f_evm ν f % 3 = 0 := by
  obtain ⟨h1, h2⟩ := z_andI h
  have h1 : f.1 % 3 = 0 := z_eq0I h1
  exact Int.emod_eq_zero_of_dvd (Int.dvd_add (Int.dvd_of_emod_eq_zero h1) (z_m3L_ok h2))
def z_r1 (V : VS) (r : AV) (hi : Int) : Bool := z_and (z_isL r) (z_inR V (z_fm2 r) 0 hi)
def z_r3 (V : VS) (rs : List AV) : Bool := match rs with
  | [r0, r1, r2] => z_and (z_r1 V r0 5) (z_and (z_r1 V r1 15) (z_r1 V r2 99))
  | _ => false
theorem z_r1_ok {ν : Nat → Int} {β : ZB} {V : VS} {r : AV} {hi : Int} {x : Int64} (hs : z_sat ν V) (h : z_r1 V r hi = true) (hm : r.1 = 2 → z_mt ν (z_len V.1) β r (.long x)) : 0 ≤ x.toInt ∧ x.toInt ≤ hi := by
  obtain ⟨h1, h2⟩ := z_andI h
  obtain ⟨-, y, hy, hz⟩ := z_mt_l (hm (Nat.eq_of_beq_eq_true h1)) h1
  cases hy
  rw [hz]
  exact z_inRI hs h2
def z_in7 (V : VS) (θ : TH) (m k : Nat) (l0 l : List AV) : Bool := match l0 with
  | so0 :: sz0 :: rs0 => z_and (z_and (z_no2 rs0) (z_and (z_wfL m so0.2.2.2.2) (z_wfL m sz0.2.2.2.2))) (match f_sbs θ (z_fm2 so0) with
    | none => false
    | some a => match f_sbs θ (z_fm2 sz0) with
      | none => false
      | some b => match k with
        | 3 => f_le V b 0
        | 7 => match l with
          | so :: sz :: rs => z_and (z_and (f_le V (f_sub a (z_fm2 so)) 0) (f_ge V (f_sub a (z_fm2 so)) 0)) (match f_le V (f_sub b (z_fm2 sz)) 0 with
            | true => true
            | false => z_and (z_and (z_m3 (z_fm2 sz)) (f_ge V a 0)) (z_and (z_r3 V rs) (f_le V (f_sub b (z_fm2 sz)) 3)))
          | _ => false
        | _ => false)
  | _ => false
def z_any7 (l0 : List AV) : Bool := match l0 with
  | [a] => z_and (z_and (Nat.beq a.1 3) (Nat.beq a.2.1 0)) (z_and (z_le a.2.2.1 z_mnL) (z_le z_mxL a.2.2.2.1))
  | _ => false
def z_in82 (V : VS) (θ : TH) (m : Nat) (l0 l : List AV) : Bool := match l0 with
  | [a0] => match l with
    | a :: _ => z_inA V θ m a0 a
    | [] => false
  | _ => false
def z_in28 (V : VS) (θ : TH) (m : Nat) (l0 l : List AV) : Bool := match l0 with
  | [a0] => z_allA V θ m a0 l
  | _ => false
def z_inK (V : VS) (θ : TH) (m k0 k : Nat) (c0 c : Nat × List AV) : Bool := match k0 with
  | 0 => z_and (Nat.beq k 0) (z_inL V θ m c0.2 c.2)
  | 7 => z_in7 V θ m k c0.2 c.2
  | 8 => match k with
    | 2 => z_in28 V θ m c0.2 c.2
    | 8 => z_in82 V θ m c0.2 c.2
    | _ => false
  | 3 => match k with
    | 3 => z_inAr V θ m c0.1 c0.2 c.2
    | 7 => z_any7 c0.2
    | _ => false
  | 2 => match k with
    | 2 => z_inAr V θ m c0.1 c0.2 c.2
    | 8 => z_in82 V θ m c0.2 c.2
    | _ => false
  | k0 => z_and (z_and (Nat.ble k0 6) (Nat.beq k k0)) (z_inAr V θ m c0.1 c0.2 c.2)
def z_inC (V : VS) (θ : TH) (m : Nat) (c0 c : AC) : Bool := match Nat.beq c0.1 99 with
  | true => Nat.ble 99 c.1
  | false => z_and (match Nat.ble 100 c0.1 with
    | true => Nat.ble 100 c.1
    | false => true) (z_and (Nat.beq c0.2.1 c.2.1) (z_inK V θ m (Nat.mod c0.1 100) (Nat.mod c.1 100) c0.2 c.2))
section IK
variable {ν : Nat → Int} {β : ZB} {K : Nat → ClassId} {V : VS} {θ : TH} {m k0 k : Nat} {c0 c : Nat × List AV} {e : va_E}
theorem z_in7_ok (hs : z_sat ν V) {l0 l : List AV} {f : Nat → Int64} (h : z_in7 V θ m k l0 l = true) (hk : k = 3 ∨ (k = 7 ∧ ∃ (so sz : AV) (rs : List AV), l = so :: sz :: rs ∧ z_seen (f_evm ν (z_fm2 so)) (f_evm ν (z_fm2 sz)) f ∧ z_nx ν (z_len V.1) β (f_evm ν (z_fm2 so) + f_evm ν (z_fm2 sz)) f 0 rs)) : ∃ (so sz : AV) (rs : List AV), l0 = so :: sz :: rs ∧ f_wf m so.2.2.2.2 ∧ f_wf m sz.2.2.2.2 ∧ z_seen (f_evm (z_nu ν θ) (z_fm2 so)) (f_evm (z_nu ν θ) (z_fm2 sz)) f ∧ z_nx (z_nu ν θ) m β (f_evm (z_nu ν θ) (z_fm2 so) + f_evm (z_nu ν θ) (z_fm2 sz)) f 0 rs := by
  match l0, h with
  | so0 :: sz0 :: rs0, h =>
    obtain ⟨h1, h⟩ := z_andI h
    obtain ⟨h1, h2⟩ := z_andI h1
    obtain ⟨h2, h3⟩ := z_andI h2
    cases ha : f_sbs θ (z_fm2 so0) with
    | none => rw [ha] at h; cases h
    | some a =>
      rw [ha] at h
      simp only at h
      cases hb : f_sbs θ (z_fm2 sz0) with
      | none => rw [hb] at h; cases h
      | some b =>
        rw [hb] at h
        simp only at h
        have ea := f_sbs_ok (ν := ν) ha
        have eb := f_sbs_ok (ν := ν) hb
        refine ⟨so0, sz0, rs0, rfl, z_wfLI h2, z_wfLI h3, ?_, z_no2_nx h1⟩
        rw [ea, eb]
        rcases hk with hk | ⟨hk, so, sz, rs, hl, hse, hnx⟩
        · subst hk
          have := f_le_ok hs h
          intro j _ hj
          omega
        · subst hk
          subst hl
          simp only at h
          obtain ⟨g1, g2⟩ := z_andI h
          obtain ⟨g1, g3⟩ := z_andI g1
          have g1 := f_le_ok hs g1
          have g3 := f_ge_ok hs g3
          rw [f_sub_ev] at g1 g3
          have eo : f_evm ν a = f_evm ν (z_fm2 so) := by omega
          rw [eo]
          cases hle : f_le V (f_sub b (z_fm2 sz)) 0 with
          | true =>
            have := f_le_ok hs hle
            rw [f_sub_ev] at this
            intro j h3 hj
            exact hse j h3 (by omega)
          | false =>
            rw [hle] at g2
            obtain ⟨g4, g5⟩ := z_andI g2
            obtain ⟨g4, g6⟩ := z_andI g4
            obtain ⟨g5, g7⟩ := z_andI g5
            have g4 := z_m3_ok (ν := ν) g4
            have g6 := f_ge_ok hs g6
            have g7 := f_le_ok hs g7
            rw [f_sub_ev] at g7
            match rs, g5, hnx with
            | [r0, r1, r2], g5, hnx =>
              obtain ⟨q0, g5⟩ := z_andI g5
              obtain ⟨q1, q2⟩ := z_andI g5
              have b0 := z_r1_ok hs q0 hnx.1
              have b1 := z_r1_ok hs q1 hnx.2.1
              have b2 := z_r1_ok hs q2 hnx.2.2.1
              intro j h3 hj
              by_cases hlt : (j : Int) < f_evm ν (z_fm2 sz)
              · exact hse j h3 hlt
              · have ej : (j : Int) = f_evm ν (z_fm2 sz) := by omega
                have e0 : (f_evm ν (z_fm2 so) + f_evm ν (z_fm2 sz) + ((0 : Nat) : Int)).toNat = (f_evm ν (z_fm2 so)).toNat + j := by omega
                have e1 : (f_evm ν (z_fm2 so) + f_evm ν (z_fm2 sz) + ((0 + 1 : Nat) : Int)).toNat = (f_evm ν (z_fm2 so)).toNat + j + 1 := by omega
                have e2 : (f_evm ν (z_fm2 so) + f_evm ν (z_fm2 sz) + ((0 + 1 + 1 : Nat) : Int)).toNat = (f_evm ν (z_fm2 so)).toNat + j + 2 := by omega
                rw [e0] at b0
                rw [e1] at b1
                rw [e2] at b2
                exact ⟨by omega, b0, b1, b2.1, b2.2⟩
            | [], g5, _ => cases g5
            | [_], g5, _ => cases g5
            | [_, _], g5, _ => cases g5
            | _ :: _ :: _ :: _ :: _, g5, _ => cases g5
  | [], h => cases h
  | [_], h => cases h
theorem zk0 (h : z_inK V θ m 0 k c0 c = true) : k = 0 ∧ z_inL V θ m c0.2 c.2 = true := by
  have h : z_and (Nat.beq k 0) (z_inL V θ m c0.2 c.2) = true := h
  exact ⟨Nat.eq_of_beq_eq_true (z_andI h).1, (z_andI h).2⟩
theorem zkp {j : Nat} (hj : j = 1 ∨ j = 4 ∨ j = 5 ∨ j = 6) (h : z_inK V θ m j k c0 c = true) : k = j ∧ z_inAr V θ m c0.1 c0.2 c.2 = true := by
  have h : z_and (z_and (Nat.ble j 6) (Nat.beq k j)) (z_inAr V θ m c0.1 c0.2 c.2) = true := by rcases hj with rfl | rfl | rfl | rfl <;> exact h
  exact ⟨Nat.eq_of_beq_eq_true (z_andI (z_andI h).1).2, (z_andI h).2⟩
theorem zk9 {n : Nat} (h : z_inK V θ m (n + 9) k c0 c = true) : False := by
  have h : z_and (z_and (Nat.ble (n + 9) 6) (Nat.beq k (n + 9))) (z_inAr V θ m c0.1 c0.2 c.2) = true := h
  have := Nat.le_of_ble_eq_true (z_andI (z_andI h).1).1
  omega
theorem zk7 (h37 : k ≠ 3) (h77 : k ≠ 7) (h : z_inK V θ m 7 k c0 c = true) : False := by
  have h : z_in7 V θ m k c0.2 c.2 = true := h
  unfold z_in7 at h
  split at h
  · obtain ⟨-, h⟩ := z_andI h
    split at h
    · cases h
    · split at h
      · cases h
      · split at h
        · exact h37 rfl
        · exact h77 rfl
        · cases h
  · cases h
theorem zk8 (h2 : k ≠ 2) (h8 : k ≠ 8) (h : z_inK V θ m 8 k c0 c = true) : False := by
  unfold z_inK at h
  simp [h2, h8] at h
theorem zk3 (h2 : k ≠ 3) (h8 : k ≠ 7) (h : z_inK V θ m 3 k c0 c = true) : False := by
  unfold z_inK at h
  simp [h2, h8] at h
theorem zk2 (h2 : k ≠ 2) (h8 : k ≠ 8) (h : z_inK V θ m 2 k c0 c = true) : False := by
  unfold z_inK at h
  simp [h2, h8] at h
theorem z_inK_ok (hs : z_sat ν V) (hl : c0.1 = c.1) (h : z_inK V θ m k0 k c0 c = true) (hm : z_mc ν (z_len V.1) β K (k, c) e) : z_mc (z_nu ν θ) m β K (k0, c0) e := by
  rcases hm with ⟨hk, vs, e1, e2⟩ | ⟨hk, f, e1, e2⟩ | ⟨hk, f, e1, e2⟩ | ⟨hk, f, e1, e2⟩ | ⟨hk, f, so, sz, rs, e1, e2, e3, e4, e5, e6⟩ | ⟨hk, f, a, l, e1, e2, e3, e4⟩
  · -- an object
    simp only at hk e1 e2
    subst hk
    match k0, h with
    | 0, h => exact Or.inl ⟨rfl, vs, by rw [e1, hl], z_inL_ok hs (zk0 h).2 e2⟩
    | 1, h => have := (zkp (Or.inl rfl) h).1; omega
    | 2, h => exact (zk2 (by omega) (by omega) h).elim
    | 3, h => exact (zk3 (by omega) (by omega) h).elim
    | 4, h => have := (zkp (Or.inr (Or.inl rfl)) h).1; omega
    | 5, h => have := (zkp (Or.inr (Or.inr (Or.inl rfl))) h).1; omega
    | 6, h => have := (zkp (Or.inr (Or.inr (Or.inr rfl))) h).1; omega
    | 7, h => exact (zk7 (by omega) (by omega) h).elim
    | 8, h => exact (zk8 (by omega) (by omega) h).elim
    | n + 9, h => exact (zk9 h).elim
  · -- rows of ints, bytes, booleans
    simp only at hk e1 e2
    have ar : ∀ j, z_inAr V θ m c0.1 c0.2 c.2 = true → j = k → (j = 1 ∨ j = 2 ∨ j = 4) → z_mc (z_nu ν θ) m β K (j, c0) e := fun j h6 hj hj3 => by
      subst hj
      exact Or.inr (Or.inl ⟨hj3, f, by rw [e1, hl], z_inAr_ok (F := fun j => .int (f j)) hs h6 (by rw [hl]; exact e2)⟩)
    match k0, h with
    | 0, h => have := (zk0 h).1; omega
    | 1, h => exact ar 1 (zkp (Or.inl rfl) h).2 (zkp (Or.inl rfl) h).1.symm (Or.inl rfl)
    | 2, h =>
      rcases hk with hk | hk | hk
      · exact (zk2 (by omega) (by omega) h).elim
      · subst hk; exact ar 2 h rfl (Or.inr (Or.inl rfl))
      · exact (zk2 (by omega) (by omega) h).elim
    | 3, h => exact (zk3 (by omega) (by omega) h).elim
    | 4, h => exact ar 4 (zkp (Or.inr (Or.inl rfl)) h).2 (zkp (Or.inr (Or.inl rfl)) h).1.symm (Or.inr (Or.inr rfl))
    | 5, h => have := (zkp (Or.inr (Or.inr (Or.inl rfl))) h).1; omega
    | 6, h => have := (zkp (Or.inr (Or.inr (Or.inr rfl))) h).1; omega
    | 7, h => exact (zk7 (by omega) (by omega) h).elim
    | 8, h =>
      rcases hk with hk | hk | hk
      · exact (zk8 (by omega) (by omega) h).elim
      · subst hk
        have h : z_in28 V θ m c0.2 c.2 = true := h
        unfold z_in28 at h
        split at h
        · rename_i a0 h0
          refine Or.inr (Or.inr (Or.inr (Or.inr (Or.inr ⟨rfl, f, a0, [], by rw [e1, hl], h0, fun j hj => ?_, trivial⟩))))
          obtain ⟨a, g1, g2⟩ := e2 j (by rw [← hl]; exact hj)
          have ga : ∃ j', z_nth c.2 j' = some a := by
            revert g1
            generalize c.2 = l
            intro g1
            match l, g1 with
            | [x], g1 => exact ⟨0, g1⟩
            | x :: y :: r, g1 => exact ⟨j, g1⟩
          obtain ⟨j', g3⟩ := ga
          exact z_inA_ok hs (z_allA_ok h g3) g2
        · cases h
      · exact (zk8 (by omega) (by omega) h).elim
    | n + 9, h => exact (zk9 h).elim
  · -- a row of longs
    simp only at hk e1 e2
    subst hk
    match k0, h with
    | 0, h => have := (zk0 h).1; omega
    | 1, h => have := (zkp (Or.inl rfl) h).1; omega
    | 2, h => exact (zk2 (by omega) (by omega) h).elim
    | 3, h => exact Or.inr (Or.inr (Or.inl ⟨rfl, f, by rw [e1, hl], z_inAr_ok (F := fun j => .long (f j)) hs h (by rw [hl]; exact e2)⟩))
    | 4, h => have := (zkp (Or.inr (Or.inl rfl)) h).1; omega
    | 5, h => have := (zkp (Or.inr (Or.inr (Or.inl rfl))) h).1; omega
    | 6, h => have := (zkp (Or.inr (Or.inr (Or.inr rfl))) h).1; omega
    | 7, h =>
      obtain ⟨so, sz, rs, g1, g2, g3, g4, g5⟩ := z_in7_ok (β := β) (k := 3) (l0 := c0.2) (l := c.2) (f := f) hs h (Or.inl rfl)
      exact Or.inr (Or.inr (Or.inr (Or.inr (Or.inl ⟨rfl, f, so, sz, rs, by rw [e1, hl], g1, g2, g3, g4, g5⟩))))
    | 8, h => exact (zk8 (by omega) (by omega) h).elim
    | n + 9, h => exact (zk9 h).elim
  · -- rows of references
    simp only at hk e1 e2
    match k0, h with
    | 0, h => have := (zk0 h).1; omega
    | 1, h => have := (zkp (Or.inl rfl) h).1; omega
    | 2, h => exact (zk2 (by omega) (by omega) h).elim
    | 3, h => exact (zk3 (by omega) (by omega) h).elim
    | 4, h => have := (zkp (Or.inr (Or.inl rfl)) h).1; omega
    | 5, h =>
      obtain ⟨this, h⟩ := zkp (Or.inr (Or.inr (Or.inl rfl))) h
      subst this
      exact Or.inr (Or.inr (Or.inr (Or.inl ⟨Or.inl rfl, f, by rw [e1, hl], z_inAr_ok (F := fun j => z_rf (f j)) hs h (by rw [hl]; exact e2)⟩)))
    | 6, h =>
      obtain ⟨this, h⟩ := zkp (Or.inr (Or.inr (Or.inr rfl))) h
      subst this
      exact Or.inr (Or.inr (Or.inr (Or.inl ⟨Or.inr rfl, f, by rw [e1, hl], z_inAr_ok (F := fun j => z_rf (f j)) hs h (by rw [hl]; exact e2)⟩)))
    | 7, h => exact (zk7 (by omega) (by omega) h).elim
    | 8, h => exact (zk8 (by omega) (by omega) h).elim
    | n + 9, h => exact (zk9 h).elim
  · -- a row that was looked at
    simp only at hk e1 e2
    subst hk
    match k0, h with
    | 0, h => have := (zk0 h).1; omega
    | 1, h => have := (zkp (Or.inl rfl) h).1; omega
    | 2, h => exact (zk2 (by omega) (by omega) h).elim
    | 3, h =>
      have h : z_any7 c0.2 = true := h
      unfold z_any7 at h
      split at h
      · rename_i a h0
        obtain ⟨g1, g2⟩ := z_andI h
        obtain ⟨g1, g3⟩ := z_andI g1
        obtain ⟨g2, g4⟩ := z_andI g2
        refine Or.inr (Or.inr (Or.inl ⟨rfl, f, by rw [e1, hl], fun j _ => ⟨a, by rw [h0]; rfl, Or.inr (Or.inr (Or.inr (Or.inl ⟨Nat.eq_of_beq_eq_true g1, f j, rfl, ?_, ?_, Or.inl (Nat.eq_of_beq_eq_true g3)⟩)))⟩⟩))
        · exact Int.le_trans (z_le_iff.mp g2) (z_mnL_le _)
        · exact Int.le_trans (z_mxL_le _) (z_le_iff.mp g4)
      · cases h
    | 4, h => have := (zkp (Or.inr (Or.inl rfl)) h).1; omega
    | 5, h => have := (zkp (Or.inr (Or.inr (Or.inl rfl))) h).1; omega
    | 6, h => have := (zkp (Or.inr (Or.inr (Or.inr rfl))) h).1; omega
    | 7, h =>
      obtain ⟨so, sz, rs, g1, g2, g3, g4, g5⟩ := z_in7_ok (β := β) (k := 7) (l0 := c0.2) (l := c.2) (f := f) hs h (Or.inr ⟨rfl, so, sz, rs, e2, e5, e6⟩)
      exact Or.inr (Or.inr (Or.inr (Or.inr (Or.inl ⟨rfl, f, so, sz, rs, by rw [e1, hl], g1, g2, g3, g4, g5⟩))))
    | 8, h => exact (zk8 (by omega) (by omega) h).elim
    | n + 9, h => exact (zk9 h).elim
  · -- a row of bytes that was read
    simp only at hk e1 e2 e3
    subst hk
    have one : ∀ {a0 : AV}, z_inA V θ m a0 a = true → ∀ j, j < c0.1 → z_mt (z_nu ν θ) m β a0 (.int (f j)) := fun g j hj => z_inA_ok hs g (e3 j (by rw [← hl]; exact hj))
    match k0, h with
    | 0, h => have := (zk0 h).1; omega
    | 1, h => have := (zkp (Or.inl rfl) h).1; omega
    | 2, h =>
      have h : z_in82 V θ m c0.2 c.2 = true := h
      unfold z_in82 at h
      rw [e2] at h
      split at h
      · rename_i a0 h0
        exact Or.inr (Or.inl ⟨Or.inr (Or.inl rfl), f, by rw [e1, hl]; rfl, fun j hj => ⟨a0, by show z_at c0.2 j = some a0; rw [h0]; rfl, one h j hj⟩⟩)
      · cases h
    | 3, h => exact (zk3 (by omega) (by omega) h).elim
    | 4, h => have := (zkp (Or.inr (Or.inl rfl)) h).1; omega
    | 5, h => have := (zkp (Or.inr (Or.inr (Or.inl rfl))) h).1; omega
    | 6, h => have := (zkp (Or.inr (Or.inr (Or.inr rfl))) h).1; omega
    | 7, h => exact (zk7 (by omega) (by omega) h).elim
    | 8, h =>
      have h : z_in82 V θ m c0.2 c.2 = true := h
      unfold z_in82 at h
      rw [e2] at h
      split at h
      · rename_i a0 h0
        exact Or.inr (Or.inr (Or.inr (Or.inr (Or.inr ⟨rfl, f, a0, [], by rw [e1, hl], h0, one h, trivial⟩))))
      · cases h
    | n + 9, h => exact (zk9 h).elim
end IK
theorem z_inC_ok {ν : Nat → Int} {β : ZB} {K : Nat → ClassId} {σ0 : Nat → va_E} {V : VS} {θ : TH} {m n i : Nat} {c0 c : AC} {σ : Nat → va_E} (hs : z_sat ν V) (h : z_inC V θ m c0 c = true) (hc : (99 ≤ c.1 → σ i = σ0 i) ∧ (c.1 = 99 ∨ (i < n ∧ z_mc ν (z_len V.1) β K (c.1 % 100, c.2) (σ i)))) : (99 ≤ c0.1 → σ i = σ0 i) ∧ (c0.1 = 99 ∨ (i < n ∧ z_mc (z_nu ν θ) m β K (c0.1 % 100, c0.2) (σ i))) := by
  unfold z_inC at h
  cases h9 : Nat.beq c0.1 99 with
  | true =>
    rw [h9] at h
    have := Nat.eq_of_beq_eq_true h9
    exact ⟨fun _ => hc.1 (Nat.le_of_ble_eq_true h), Or.inl this⟩
  | false =>
    rw [h9] at h
    obtain ⟨h4, h2⟩ := z_andI h
    obtain ⟨h2, h5⟩ := z_andI h2
    have h2 := Nat.eq_of_beq_eq_true h2
    have hne : c0.1 ≠ 99 := fun e => by rw [e] at h9; cases h9
    refine ⟨fun g => ?_, Or.inr ?_⟩
    · have g : 100 ≤ c0.1 := by omega
      cases hb : Nat.ble 100 c0.1 with
      | false => have := Nat.ble_eq_true_of_le g; rw [hb] at this; cases this
      | true =>
        rw [hb] at h4
        exact hc.1 (Nat.le_trans (by omega) (Nat.le_of_ble_eq_true h4))
    · rcases hc.2 with e | ⟨hi, hm⟩
      · exfalso
        have h5 : z_inK V θ m (c0.1 % 100) (c.1 % 100) c0.2 c.2 = true := h5
        rw [e] at h5
        generalize c0.1 % 100 = k0 at h5
        match k0, h5 with
        | 0, h => have := (zk0 h).1; omega
        | 1, h => have := (zkp (Or.inl rfl) h).1; omega
        | 2, h => exact zk2 (by omega) (by omega) h
        | 3, h => exact zk3 (by omega) (by omega) h
        | 4, h => have := (zkp (Or.inr (Or.inl rfl)) h).1; omega
        | 5, h => have := (zkp (Or.inr (Or.inr (Or.inl rfl))) h).1; omega
        | 6, h => have := (zkp (Or.inr (Or.inr (Or.inr rfl))) h).1; omega
        | 7, h => exact zk7 (by omega) (by omega) h
        | 8, h => exact zk8 (by omega) (by omega) h
        | n + 9, h => exact zk9 h
      · exact ⟨hi, z_inK_ok hs h2 h5 hm⟩
def z_inR1 (V : VS) (θ : TH) (m : Nat) : List AC → List AC → Bool
  | [], [] => true
  | a :: l, b :: k => z_and (z_inC V θ m a b) (z_inR1 V θ m l k)
  | [], _ :: _ => false
  | _ :: _, [] => false
def z_inH (V : VS) (θ : TH) (m : Nat) : T2 AC → T2 AC → Bool
  | [], [] => true
  | a :: l, b :: k => z_and (z_inR1 V θ m a b) (z_inH V θ m l k)
  | [], _ :: _ => false
  | _ :: _, [] => false
theorem z_inR1_nth {V : VS} {θ : TH} {m : Nat} {l0 l : List AC} (h : z_inR1 V θ m l0 l = true) {j : Nat} {c0 : AC} (hc : z_nth l0 j = some c0) : ∃ c, z_nth l j = some c ∧ z_inC V θ m c0 c = true := by
  induction l0 generalizing l j with
  | nil => cases hc
  | cons a l0 ih => cases l with
    | nil => cases h
    | cons b l =>
      obtain ⟨h1, h2⟩ := z_andI h
      cases j with
      | zero => cases hc; exact ⟨b, rfl, h1⟩
      | succ j => exact ih h2 hc
theorem z_inH_nth {V : VS} {θ : TH} {m : Nat} {l0 l : T2 AC} (h : z_inH V θ m l0 l = true) {j : Nat} {r0 : List AC} (hc : z_nth l0 j = some r0) : ∃ r, z_nth l j = some r ∧ z_inR1 V θ m r0 r = true := by
  induction l0 generalizing l j with
  | nil => cases hc
  | cons a l0 ih => cases l with
    | nil => cases h
    | cons b l =>
      obtain ⟨h1, h2⟩ := z_andI h
      cases j with
      | zero => cases hc; exact ⟨b, rfl, h1⟩
      | succ j => exact ih h2 hc
theorem z_inH_ok {ν : Nat → Int} {β : ZB} {K : Nat → ClassId} {σ0 : Nat → va_E} {V : VS} {θ : TH} {m n : Nat} {h0 h : T2 AC} {σ : Nat → va_E} (hs : z_sat ν V) (hi : z_inH V θ m h0 h = true) (q : z_hm ν (z_len V.1) β K σ0 h n σ) : z_hm (z_nu ν θ) m β K σ0 h0 n σ := by
  intro i c0 hc0
  unfold z_g2 at hc0
  cases hr : z_nth h0 (Nat.div i 16) with
  | none => rw [hr] at hc0; cases hc0
  | some r0 =>
    rw [hr] at hc0
    obtain ⟨r, h1, h2⟩ := z_inH_nth hi hr
    obtain ⟨c, h3, h4⟩ := z_inR1_nth h2 hc0
    have : z_g2 h i = some c := by unfold z_g2; rw [h1]; exact h3
    exact z_inC_ok hs h4 (q i c this)
def z_inLo (V : VS) (θ : TH) (m : Nat) (loc : List (Nat × AV)) : List (Nat × AV) → Bool
  | [] => true
  | q :: l => z_and (match z_lkp loc q.1 with
    | some a => z_inA V θ m q.2 a
    | none => false) (z_inLo V θ m loc l)
theorem z_inLo_ok {ν : Nat → Int} {β : ZB} {V : VS} {θ : TH} {m : Nat} {loc0 loc : List (Nat × AV)} {ls : Array Slot} {nL : Nat} (hs : z_sat ν V) (h : z_inLo V θ m loc loc0 = true) (q : z_lm ν (z_len V.1) β loc ls nL) : z_lm (z_nu ν θ) m β loc0 ls nL := by
  obtain ⟨lv, h1, h2⟩ := q
  suffices hh : ∃ lv0 : List (Nat × Value), (∀ q ∈ lv0, q ∈ lv) ∧ z_fm (fun (a : Nat × AV) (q : Nat × Value) => a.1 = q.1 ∧ z_mt (z_nu ν θ) m β a.2 q.2) loc0 lv0 by
    obtain ⟨lv0, g1, g2⟩ := hh
    exact ⟨lv0, ⟨h1.1, h1.2.1, fun q hq => h1.2.2 q (g1 q hq)⟩, g2⟩
  induction loc0 with
  | nil => exact ⟨[], (fun _ h => by cases h), trivial⟩
  | cons r l ih =>
    obtain ⟨g1, g2⟩ := z_andI h
    obtain ⟨lv0, i1, i2⟩ := ih g2
    cases ha : z_lkp loc r.1 with
    | none => rw [ha] at g1; cases g1
    | some a =>
      rw [ha] at g1
      obtain ⟨v, v1, v2⟩ := z_lkp_ok h2 ha
      exact ⟨(r.1, v) :: lv0, fun q hq => (List.mem_cons.mp hq).elim (fun e => e ▸ v1) (i1 q), ⟨rfl, z_inA_ok hs g1 v2⟩, i2⟩
def z_inV1 (V : VS) (θ : TH) : Nat → List (Int × Int) → Bool
  | _, [] => true
  | x, b :: l => z_and (match z_thl θ x with
    | some g => z_inR V g b.1 b.2
    | none => false) (z_inV1 V θ (Nat.succ x) l)
def z_eqi (a b : Int) : Bool := match a with
  | .ofNat m => match b with
    | .ofNat n => Nat.beq m n
    | .negSucc _ => false
  | .negSucc m => match b with
    | .ofNat _ => false
    | .negSucc n => Nat.beq m n
theorem z_eqiI {a b : Int} (h : z_eqi a b = true) : a = b := by
  unfold z_eqi at h
  cases a <;> cases b
  · exact congrArg Int.ofNat (Nat.eq_of_beq_eq_true h)
  · cases h
  · cases h
  · exact congrArg Int.negSucc (Nat.eq_of_beq_eq_true h)
def fl_eqb : FL → FL → Bool
  | [], [] => true
  | q :: l, r :: k => z_and (z_and (Nat.beq q.2 r.2) (z_eqi q.1 r.1)) (fl_eqb l k)
  | [], _ :: _ => false
  | _ :: _, [] => false
theorem fl_eqbI {l k : FL} (h : fl_eqb l k = true) : l = k := by
  induction l generalizing k with
  | nil => cases k with
    | nil => rfl
    | cons => cases h
  | cons q l ih => cases k with
    | nil => cases h
    | cons r k =>
      obtain ⟨h1, h2⟩ := z_andI h
      obtain ⟨h1, h3⟩ := z_andI h1
      rw [ih h2, show q = r from Prod.ext (z_eqiI h3) (Nat.eq_of_beq_eq_true h1)]
def f_eqb (f g : FM) : Bool := z_and (fl_eqb f.2 g.2) (z_eqi f.1 g.1)
theorem f_eqbI {f g : FM} (h : f_eqb f g = true) : f = g := Prod.ext (z_eqiI (z_andI h).2) (fl_eqbI (z_andI h).1)
def z_sfx {α : Type} : Nat → List α → List α
  | 0, l => l
  | _ + 1, [] => []
  | n + 1, _ :: l => z_sfx n l
theorem z_sfx_mem {α : Type} {n : Nat} {l : List α} {a : α} (h : a ∈ z_sfx n l) : a ∈ l := by
  induction n generalizing l with
  | zero => exact h
  | succ n ih => cases l with
    | nil => cases h
    | cons b l => exact List.mem_cons_of_mem _ (ih h)
/-- inequalities of a template; those that stand in the same place as they are need no search -/
def z_inV2 (V : VS) (θ : TH) (m : Nat) : List FM → List FM → Bool
  | [], _ => true
  | g :: l, [] => z_and (z_and (z_wfL m g.2) (match f_sbs θ g with
    | some k => f_le V k 0
    | none => false)) (z_inV2 V θ m l [])
  | g :: l, g' :: l' => z_and (z_and (z_wfL m g.2) (match f_sbs θ g with
    | some k => match f_eqb k g' with
      | true => true
      | false => f_le V k 0
    | none => false)) (z_inV2 V θ m l l')
def z_inV (V : VS) (θ : TH) (V0 : VS) : Bool := z_and (z_inV1 V θ 0 V0.1) (z_and (z_inV2 V θ (z_len V0.1) V0.2.1 (z_sfx (Nat.sub (z_len V.2.1) (z_len V0.2.1)) V.2.1)) (match V0.2.2 with
  | [] => true
  | _ :: _ => false))
theorem z_inV2_ok {ν : Nat → Int} {V : VS} {θ : TH} {m : Nat} (hs : z_sat ν V) {l l' : List FM} (h : z_inV2 V θ m l l' = true) (hl : ∀ g ∈ l', f_evm ν g ≤ 0) : ∀ g ∈ l, f_wf m g.2 ∧ f_evm (z_nu ν θ) g ≤ 0 := by
  induction l generalizing l' with
  | nil => intro g hg; cases hg
  | cons a l ih =>
    intro g hg
    cases l' with
    | nil =>
      obtain ⟨g1, g2⟩ := z_andI h
      rcases List.mem_cons.mp hg with rfl | hg
      · obtain ⟨g3, g4⟩ := z_andI g1
        refine ⟨z_wfLI g3, ?_⟩
        cases hk : f_sbs θ g with
        | none => rw [hk] at g4; cases g4
        | some k => rw [hk] at g4; rw [f_sbs_ok hk]; exact f_le_ok hs g4
      · exact ih g2 hl g hg
    | cons b l' =>
      obtain ⟨g1, g2⟩ := z_andI h
      rcases List.mem_cons.mp hg with rfl | hg
      · obtain ⟨g3, g4⟩ := z_andI g1
        refine ⟨z_wfLI g3, ?_⟩
        cases hk : f_sbs θ g with
        | none => rw [hk] at g4; cases g4
        | some k =>
          rw [hk] at g4
          rw [f_sbs_ok hk]
          simp only at g4
          cases he : f_eqb k b with
          | true => rw [f_eqbI he]; exact hl b List.mem_cons_self
          | false => rw [he] at g4; exact f_le_ok hs g4
      · exact ih g2 (fun x hx => hl x (List.mem_cons_of_mem _ hx)) g hg
theorem z_inV1_ok {ν : Nat → Int} {V : VS} {θ : TH} {x : Nat} {l : List (Int × Int)} (hs : z_sat ν V) (h : z_inV1 V θ x l = true) {i : Nat} {q : Int × Int} (hq : z_nth l i = some q) : q.1 ≤ z_nu ν θ (x + i) ∧ z_nu ν θ (x + i) ≤ q.2 := by
  induction l generalizing x i with
  | nil => cases hq
  | cons b l ih =>
    obtain ⟨h1, h2⟩ := z_andI h
    cases i with
    | zero =>
      cases hq
      cases ht : z_thl θ x with
      | none => rw [ht] at h1; cases h1
      | some g =>
        rw [ht] at h1
        have := z_inRI hs h1
        show q.1 ≤ z_nu ν θ x ∧ z_nu ν θ x ≤ q.2
        unfold z_nu
        rw [ht]
        exact this
    | succ i =>
      have := ih (x := Nat.succ x) h2 hq
      rwa [show Nat.succ x + i = x + (i + 1) by omega] at this
theorem z_inV_ok {ν : Nat → Int} {V V0 : VS} {θ : TH} (hs : z_sat ν V) (h : z_inV V θ V0 = true) : z_sat (z_nu ν θ) V0 := by
  obtain ⟨h1, h2⟩ := z_andI h
  obtain ⟨h2, h3⟩ := z_andI h2
  refine ⟨fun i q hq => by have := z_inV1_ok hs h1 hq; rwa [Nat.zero_add] at this, ?_, ?_⟩
  · exact z_inV2_ok hs h2 (fun g hg => (hs.2.1 g (z_sfx_mem hg)).2)
  · intro x hx
    cases hl : V0.2.2 with
    | nil => rw [hl] at hx; cases hx
    | cons a l => rw [hl] at h3; cases h3
/-- a template: names with bounds, locals, cells -/
abbrev ZK : Type := VS × List (Nat × AV) × T2 AC
def z_incl (V : VS) (loc : List (Nat × AV)) (h : T2 AC) (θ : TH) (T : ZK) : Bool := z_and (z_inLo V θ (z_len T.1.1) loc T.2.1) (z_and (z_inV V θ T.1) (z_inH V θ (z_len T.1.1) T.2.2 h))
section CP
variable {S : List ZT} {ms : List ZM} {D : va_G} {K : Nat → ClassId} {β : ZB} {p : Program} {l : Launch} {e : Env} {R : Room} {s : State} {m : MethodId} {args : Array Value} {below : List Frame} {meth : Method} {c : Code} {Q : State → Prop} {σ0 : Nat → va_E} {ν0 : Nat → Int} {nv0 k0 nL : Nat} {E : ZE} {own mn : String} {cc : ByteArray} {loc : List (Nat × AV)} {stk : List AV} {V : VS} {h : T2 AC} {n sl : Nat} {ν : Nat → Int} {σ : Nat → va_E} {H : Heap} {locs : List Loc} {ls : Array Slot} {vs : List Value}
theorem z_incl_ok {θ : TH} {T : ZK} (hi : z_incl V loc h θ T = true) (P : z_P D K β s σ0 ν0 nv0 k0 nL loc [] V h n ν σ H locs ls vs) : vs = [] ∧ z_P D K β s σ0 (z_nu ν θ) (z_len T.1.1) k0 nL T.2.1 [] T.1 T.2.2 n (z_nu ν θ) σ H locs ls [] := by
  obtain ⟨p1, p2, p3, p4, p5, p6, p7, p8⟩ := P
  obtain ⟨h2, h1⟩ := z_andI hi
  obtain ⟨h1, h3⟩ := z_andI h1
  exact ⟨z_fm_nil p7, fun _ _ => rfl, Nat.le_refl _, p3, z_inV_ok p4 h1, z_inH_ok p4 h3 p5, z_inLo_ok p4 h2 p6, trivial, p8⟩
end CP
/-! ranks: lists of forms, compared from the first on -/
def z_lex (V : VS) : List FM → List FM → Bool
  | s :: ss, a :: as => match f_le V (f_sub a s) (-1) with
    | true => true
    | false => z_and (f_le V (f_sub a s) 0) (z_lex V ss as)
  | _, _ => false
def z_sbl (θ : TH) : List FM → Option (List FM)
  | [] => some []
  | f :: l => z_bd (f_sbs θ f) fun g => z_bd (z_sbl θ l) fun r => some (g :: r)
def r_enc (b : Nat) : List Nat → Nat
  | [] => 0
  | x :: l => x * (b + 1) ^ l.length + r_enc b l
theorem r_enc_lt {b : Nat} {l : List Nat} (h : ∀ x ∈ l, x ≤ b) : r_enc b l < (b + 1) ^ l.length := by
  induction l with
  | nil => exact Nat.one_pos
  | cons x l ih =>
    have h1 := ih (fun y hy => h y (List.mem_cons_of_mem _ hy))
    have h2 : x ≤ b := h x List.mem_cons_self
    show x * (b + 1) ^ l.length + r_enc b l < (b + 1) ^ (l.length + 1)
    rw [Nat.pow_succ]
    have h3 : x * (b + 1) ^ l.length + (b + 1) ^ l.length ≤ (b + 1) ^ l.length * (b + 1) := by
      rw [Nat.mul_comm ((b + 1) ^ l.length) (b + 1), Nat.succ_mul b]
      exact Nat.add_le_add_right (Nat.mul_le_mul_right _ h2) _
    omega
def z_evl (ν : Nat → Int) (l : List FM) : List Nat := l.map (fun f => (f_evm ν f).toNat)
/-- the forms are numbers from 0 to b -/
def z_rkb (ν : Nat → Int) (b : Nat) (l : List FM) : Prop := ∀ f ∈ l, 0 ≤ f_evm ν f ∧ f_evm ν f ≤ b
def z_rkc (V : VS) (b : Nat) : List FM → Bool
  | [] => true
  | f :: l => z_and (z_inR V f 0 (Int.ofNat b)) (z_rkc V b l)
theorem z_rkc_ok {ν : Nat → Int} {V : VS} {b : Nat} {l : List FM} (hs : z_sat ν V) (h : z_rkc V b l = true) : z_rkb ν b l := by
  induction l with
  | nil => intro f hf; cases hf
  | cons g l ih =>
    obtain ⟨h1, h2⟩ := z_andI h
    intro f hf
    rcases List.mem_cons.mp hf with rfl | hf
    · exact z_inRI hs h1
    · exact ih h2 f hf
theorem z_evl_le {ν : Nat → Int} {b : Nat} {l : List FM} (h : z_rkb ν b l) : ∀ x ∈ z_evl ν l, x ≤ b := by
  intro x hx
  obtain ⟨f, hf, rfl⟩ := List.mem_map.mp hx
  have := h f hf
  omega
theorem z_lex_ok {ν : Nat → Int} {V : VS} {b : Nat} {ss as : List FM} (hs : z_sat ν V) (h : z_lex V ss as = true) (h1 : z_rkb ν b ss) (h2 : z_rkb ν b as) (hl : ss.length = as.length) : r_enc b (z_evl ν as) < r_enc b (z_evl ν ss) := by
  induction ss generalizing as with
  | nil => cases h
  | cons s ss ih => cases as with
    | nil => cases h
    | cons a as =>
      have hl : ss.length = as.length := by simpa using hl
      have hs1 : z_rkb ν b ss := fun f hf => h1 f (List.mem_cons_of_mem _ hf)
      have ha1 : z_rkb ν b as := fun f hf => h2 f (List.mem_cons_of_mem _ hf)
      have e1 := h1 s List.mem_cons_self
      have e2 := h2 a List.mem_cons_self
      have la : (z_evl ν as).length = as.length := List.length_map _
      have ls' : (z_evl ν ss).length = ss.length := List.length_map _
      have b1 := r_enc_lt (z_evl_le ha1)
      show (f_evm ν a).toNat * (b + 1) ^ (z_evl ν as).length + r_enc b (z_evl ν as) < (f_evm ν s).toNat * (b + 1) ^ (z_evl ν ss).length + r_enc b (z_evl ν ss)
      rw [la] at b1 ⊢
      rw [ls', hl]
      unfold z_lex at h
      cases hc : f_le V (f_sub a s) (-1) with
      | true =>
        have g := f_le_ok hs hc
        rw [f_sub_ev] at g
        have g2 : (f_evm ν a).toNat + 1 ≤ (f_evm ν s).toNat := by omega
        have g3 := Nat.mul_le_mul_right ((b + 1) ^ as.length) g2
        rw [Nat.succ_mul] at g3
        omega
      | false =>
        rw [hc] at h
        obtain ⟨k1, k2⟩ := z_andI h
        have g := f_le_ok hs k1
        rw [f_sub_ev] at g
        have g2 : (f_evm ν a).toNat ≤ (f_evm ν s).toNat := by omega
        have g3 := Nat.mul_le_mul_right ((b + 1) ^ as.length) g2
        have := ih k2 hs1 ha1 hl
        omega
theorem z_sbl_ok {ν : Nat → Int} {θ : TH} {l r : List FM} (h : z_sbl θ l = some r) : z_evl (z_nu ν θ) l = z_evl ν r ∧ r.length = l.length ∧ ∀ b, z_rkb (z_nu ν θ) b l → z_rkb ν b r := by
  induction l generalizing r with
  | nil => cases h; exact ⟨rfl, rfl, fun _ _ f hf => by cases hf⟩
  | cons f l ih =>
    obtain ⟨g, hg, h⟩ := z_bdI h
    obtain ⟨k, hk, h⟩ := z_bdI h
    cases h
    obtain ⟨i1, i2, i3⟩ := ih hk
    have e := f_sbs_ok (ν := ν) hg
    refine ⟨?_, by simp [i2], fun b hb q hq => ?_⟩
    · show (f_evm (z_nu ν θ) f).toNat :: z_evl (z_nu ν θ) l = (f_evm ν g).toNat :: z_evl ν k
      rw [e, i1]
    · rcases List.mem_cons.mp hq with rfl | hq
      · have := hb f List.mem_cons_self
        rwa [e] at this
      · exact i3 b (fun f hf => hb f (List.mem_cons_of_mem _ hf)) q hq
