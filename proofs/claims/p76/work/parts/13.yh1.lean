/-! numbers as forms -/
theorem z_len_nth {α : Type} {l : List α} {i : Nat} (h : i < z_len l) : ∃ a, z_nth l i = some a := by
  induction l generalizing i with
  | nil => cases h
  | cons b l ih => cases i with
    | zero => exact ⟨b, rfl⟩
    | succ i => exact ih (Nat.lt_of_succ_lt_succ h)
def z_mn : Int := .negSucc 2147483647
def z_mx : Int := .ofNat 2147483647
def z_mnL : Int := .negSucc 9223372036854775807
def z_mxL : Int := .ofNat 9223372036854775807
theorem z_mn_le (x : Int32) : z_mn ≤ x.toInt := x.le_toInt
theorem z_mx_le (x : Int32) : x.toInt ≤ z_mx := by have := x.toInt_lt; show x.toInt ≤ (2147483647 : Int); omega
theorem z_mnL_le (x : Int64) : z_mnL ≤ x.toInt := x.le_toInt
theorem z_mxL_le (x : Int64) : x.toInt ≤ z_mxL := by have := x.toInt_lt; show x.toInt ≤ (9223372036854775807 : Int); omega
def z_isI (a : AV) : Bool := Nat.beq a.1 0
def z_isL (a : AV) : Bool := Nat.beq a.1 2
def z_lg (a : AV) : Bool := match Nat.beq a.1 2 with
  | true => true
  | false => Nat.beq a.1 3
theorem z_lg_iff {a : AV} : z_lg a = true ↔ (a.1 = 2 ∨ a.1 = 3) := by
  unfold z_lg
  cases h : Nat.beq a.1 2
  · have : a.1 ≠ 2 := fun e => by rw [e] at h; cases h
    simp [this]
  · simp [Nat.eq_of_beq_eq_true h]
section Y1
variable {ν : Nat → Int} {nv : Nat} {β : ZB} {a : AV} {v : Value}
theorem z_mt_i (q : z_mt ν nv β a v) (h : z_isI a = true) : f_wf nv a.2.2.2.2 ∧ ∃ x : Int32, v = .int x ∧ x.toInt = f_evm ν (z_fm2 a) := by
  have h := Nat.eq_of_beq_eq_true h
  rcases q with ⟨_, q⟩ | ⟨h1, _⟩ | ⟨h1, _⟩ | ⟨h1, _⟩ | ⟨h1, _⟩ | ⟨h1, _⟩ | ⟨h1, _⟩ | ⟨h1, _⟩ | ⟨h1, _⟩ | ⟨h1, _⟩
  · exact q
  all_goals omega
theorem z_mt_l (q : z_mt ν nv β a v) (h : z_isL a = true) : f_wf nv a.2.2.2.2 ∧ ∃ x : Int64, v = .long x ∧ x.toInt = f_evm ν (z_fm2 a) := by
  have h := Nat.eq_of_beq_eq_true h
  rcases q with ⟨h1, _⟩ | ⟨h1, _⟩ | ⟨_, q⟩ | ⟨h1, _⟩ | ⟨h1, _⟩ | ⟨h1, _⟩ | ⟨h1, _⟩ | ⟨h1, _⟩ | ⟨h1, _⟩ | ⟨h1, _⟩
  · omega
  · omega
  · exact q
  all_goals omega
theorem z_mt_r (q : z_mt ν nv β a v) (h : Nat.beq a.1 4 = true) : v = .ref (β.1 + a.2.1) := by
  have h := Nat.eq_of_beq_eq_true h
  rcases q with ⟨h1, _⟩ | ⟨h1, _⟩ | ⟨h1, _⟩ | ⟨h1, _⟩ | ⟨_, q⟩ | ⟨h1, _⟩ | ⟨h1, _⟩ | ⟨h1, _⟩ | ⟨h1, _⟩ | ⟨h1, _⟩
  all_goals first | exact q | omega
theorem z_mt_t (q : z_mt ν nv β a v) (h : Nat.beq a.1 8 = true) : v = .ref (β.2.2.1 a.2.1) := by
  have h := Nat.eq_of_beq_eq_true h
  rcases q with ⟨h1, _⟩ | ⟨h1, _⟩ | ⟨h1, _⟩ | ⟨h1, _⟩ | ⟨h1, _⟩ | ⟨h1, _⟩ | ⟨h1, _⟩ | ⟨h1, _⟩ | ⟨_, q⟩ | ⟨h1, _⟩
  all_goals first | exact q | omega
theorem z_mt_u (q : z_mt ν nv β a v) (h : Nat.beq a.1 9 = true) : v = .ref (β.2.2.2 a.2.1) := by
  have h := Nat.eq_of_beq_eq_true h
  rcases q with ⟨h1, _⟩ | ⟨h1, _⟩ | ⟨h1, _⟩ | ⟨h1, _⟩ | ⟨h1, _⟩ | ⟨h1, _⟩ | ⟨h1, _⟩ | ⟨h1, _⟩ | ⟨h1, _⟩ | ⟨_, q⟩
  all_goals first | exact q | omega
theorem z_mt_cat (q : z_mt ν nv β a v) : v.category = (match z_lg a with | true => 2 | false => 1) := by
  have no : a.1 ≠ 2 → a.1 ≠ 3 → z_lg a = false := fun h2 h3 => by cases h : z_lg a with | false => rfl | true => have := z_lg_iff.mp h; omega
  rcases q with ⟨h1, _, x, rfl, _⟩ | ⟨h1, x, rfl, _⟩ | ⟨h1, _, x, rfl, _⟩ | ⟨h1, x, rfl, _⟩ | ⟨h1, rfl⟩ | ⟨h1, rfl | ⟨r, rfl⟩⟩ | ⟨h1, r, rfl⟩ | ⟨h1, rfl, -⟩ | ⟨h1, rfl⟩ | ⟨h1, rfl⟩
  · rw [no (by omega) (by omega)]; rfl
  · rw [no (by omega) (by omega)]; rfl
  · rw [z_lg_iff.mpr (Or.inl h1)]; rfl
  · rw [z_lg_iff.mpr (Or.inr h1)]; rfl
  all_goals (rw [no (by omega) (by omega)]; rfl)
end Y1
theorem z_mkI {ν : Nat → Int} {nv : Nat} {β : ZB} {f : FM} {x : Int32} (hw : f_wf nv f.2) (h : x.toInt = f_evm ν f) : z_mt ν nv β (0, 0, f.1, 0, f.2) (.int x) := Or.inl ⟨rfl, hw, x, rfl, h⟩
theorem z_mkL {ν : Nat → Int} {nv : Nat} {β : ZB} {f : FM} {x : Int64} (hw : f_wf nv f.2) (h : x.toInt = f_evm ν f) : z_mt ν nv β (2, 0, f.1, 0, f.2) (.long x) := Or.inr (Or.inr (Or.inl ⟨rfl, hw, x, rfl, h⟩))
theorem f_wf0 {n : Nat} : f_wf n [] := fun _ h => by cases h
/-- a number of which only bounds are known gets a name -/
def z_fr (t : Nat) (V : VS) (w : Int × Int) : AV × VS := match z_le w.2 w.1 with
  | true => ((t, 0, w.1, 0, []), V)
  | false => (z_var t (z_len V.1), z_addv V w.1 w.2)
theorem z_frI {ν : Nat → Int} {β : ZB} {V : VS} {w : Int × Int} {x : Int32} (hs : z_sat ν V) (h1 : w.1 ≤ x.toInt) (h2 : x.toInt ≤ w.2) : ∃ ν' : Nat → Int, (∀ i, i < z_len V.1 → ν' i = ν i) ∧ z_len V.1 ≤ z_len (z_fr 0 V w).2.1 ∧ z_sat ν' (z_fr 0 V w).2 ∧ z_mt ν' (z_len (z_fr 0 V w).2.1) β (z_fr 0 V w).1 (.int x) := by
  unfold z_fr
  cases h : z_le w.2 w.1 with
  | true =>
    have := z_le_iff.mp h
    exact ⟨ν, fun _ _ => rfl, Nat.le_refl _, hs, z_mkI (f := (w.1, [])) f_wf0 (by show x.toInt = w.1 + 0; omega)⟩
  | false =>
    obtain ⟨ν', e1, e2, e3⟩ := z_addv_ok hs h1 h2
    refine ⟨ν', e1, by simp only [z_addv_len]; omega, e3, Or.inl ⟨rfl, z_var_wf (by simp only [z_addv_len]; omega), x, rfl, ?_⟩⟩
    rw [z_var_ev, e2]
theorem z_frL {ν : Nat → Int} {β : ZB} {V : VS} {w : Int × Int} {x : Int64} (hs : z_sat ν V) (h1 : w.1 ≤ x.toInt) (h2 : x.toInt ≤ w.2) : ∃ ν' : Nat → Int, (∀ i, i < z_len V.1 → ν' i = ν i) ∧ z_len V.1 ≤ z_len (z_fr 2 V w).2.1 ∧ z_sat ν' (z_fr 2 V w).2 ∧ z_mt ν' (z_len (z_fr 2 V w).2.1) β (z_fr 2 V w).1 (.long x) := by
  unfold z_fr
  cases h : z_le w.2 w.1 with
  | true =>
    have := z_le_iff.mp h
    exact ⟨ν, fun _ _ => rfl, Nat.le_refl _, hs, z_mkL (f := (w.1, [])) f_wf0 (by show x.toInt = w.1 + 0; omega)⟩
  | false =>
    obtain ⟨ν', e1, e2, e3⟩ := z_addv_ok hs h1 h2
    refine ⟨ν', e1, by simp only [z_addv_len]; omega, e3, Or.inr (Or.inr (Or.inl ⟨rfl, z_var_wf (by simp only [z_addv_len]; omega), x, rfl, ?_⟩))⟩
    rw [z_var_ev, e2]
/-- bounds of a form -/
def f_bd (V : VS) (f : FM) : Option (Int × Int) := z_bd (f_iv V.1 f.2) fun r => some (Int.add f.1 r.1, Int.add f.1 r.2)
theorem f_bd_ok {ν : Nat → Int} {V : VS} {f : FM} {r : Int × Int} (hs : z_sat ν V) (h : f_bd V f = some r) : r.1 ≤ f_evm ν f ∧ f_evm ν f ≤ r.2 := by
  obtain ⟨q, hq, h⟩ := z_bdI h
  cases h
  have := f_iv_ok hs.1 hq
  exact ⟨by show f.1 + q.1 ≤ f.1 + f_ev ν f.2; omega, by show f.1 + f_ev ν f.2 ≤ f.1 + q.2; omega⟩
/-- what is taken to hold: a form is at most 0 -/
def z_nn (c : Int) : Nat := match c with
  | .ofNat n => match Nat.beq n 1 with
    | true => 1
    | false => 0
  | .negSucc n => match Nat.beq n 0 with
    | true => 2
    | false => 0
def z_rfn (V : VS) (x : Nat) (lo hi : Int) : Option VS := match z_nth V.1 x with
  | none => some V
  | some q => match z_and (z_le lo q.1) (z_le q.2 hi) with
    | true => some V
    | false => match z_le (z_max q.1 lo) (z_min q.2 hi) with
      | true => some (z_put V.1 x (z_max q.1 lo, z_min q.2 hi), V.2)
      | false => none
theorem z_rfn_ok {ν : Nat → Int} {V : VS} {x : Nat} {lo hi : Int} (hs : z_sat ν V) (h1 : lo ≤ ν x) (h2 : ν x ≤ hi) : ∃ V', z_rfn V x lo hi = some V' ∧ z_sat ν V' ∧ z_len V'.1 = z_len V.1 := by
  unfold z_rfn
  cases hq : z_nth V.1 x with
  | none => exact ⟨V, rfl, hs, rfl⟩
  | some q =>
    have hb := hs.1 _ _ hq
    have : z_le (z_max q.1 lo) (z_min q.2 hi) = true := z_le_iff.mpr (Int.le_trans (z_max_le.2.2 _ hb.1 h1) (z_min_le.2.2 _ hb.2 h2))
    simp only [this]
    cases hst : z_and (z_le lo q.1) (z_le q.2 hi) with
    | true => exact ⟨V, rfl, hs, rfl⟩
    | false =>
    simp only
    refine ⟨_, rfl, ⟨fun i s hi' => ?_, fun g hg => ?_, fun y hy => ?_⟩, z_len_put _ _ _⟩
    · by_cases e : x = i
      · subst e
        have hi' : z_nth (z_put V.1 x (z_max q.1 lo, z_min q.2 hi)) x = some s := hi'
        rw [z_nth_self hq] at hi'
        cases hi'
        exact ⟨z_max_le.2.2 _ hb.1 h1, z_min_le.2.2 _ hb.2 h2⟩
      · have hi' : z_nth (z_put V.1 x (z_max q.1 lo, z_min q.2 hi)) i = some s := hi'
        rw [z_nth_ne _ _ e] at hi'
        exact hs.1 _ _ hi'
    · show f_wf (z_len (z_put V.1 x _)) g.2 ∧ _
      rw [z_len_put]; exact hs.2.1 g hg
    · show y < z_len (z_put V.1 x _) ∧ _
      rw [z_len_put]; exact hs.2.2 y hy
/-- one term of a form: the others are at least so much -/
def z_tmn (q : Int × Nat) (b : Int × Int) : Int := match z_le 0 q.1 with
  | true => Int.mul q.1 b.1
  | false => Int.mul q.1 b.2
theorem z_tmn_le {q : Int × Nat} {b : Int × Int} {x : Int} (h1 : b.1 ≤ x) (h2 : x ≤ b.2) : z_tmn q b ≤ q.1 * x := by
  unfold z_tmn
  cases h : z_le 0 q.1 with
  | true => exact Int.mul_le_mul_of_nonneg_left h1 (z_le_iff.mp h)
  | false => exact Int.mul_le_mul_of_nonpos_left (a := q.1) (by have := z_le_f.mp h; omega) h2
theorem f_iv_rest {ν : Nat → Int} {V : List (Int × Int)} (hs : ∀ (i : Nat) (q : Int × Int), z_nth V i = some q → q.1 ≤ ν i ∧ ν i ≤ q.2) {l : FL} {r : Int × Int} (h : f_iv V l = some r) {q : Int × Nat} (hq : q ∈ l) {b : Int × Int} (hb : z_nth V q.2 = some b) : q.1 * ν q.2 + (r.1 - z_tmn q b) ≤ f_ev ν l := by
  induction l generalizing r with
  | nil => cases hq
  | cons p l ih =>
    unfold f_iv at h
    cases hp : z_nth V p.2 with
    | none => rw [hp] at h; cases h
    | some b' =>
      rw [hp] at h
      simp only at h
      cases hr : f_iv V l with
      | none => rw [hr] at h; cases h
      | some r' =>
        rw [hr] at h
        simp only at h
        have i2 := hs _ _ hp
        have hm : r.1 = z_tmn p b' + r'.1 := by
          unfold z_tmn
          cases hc : z_le 0 p.1 with
          | true => rw [hc] at h; cases h; rfl
          | false => rw [hc] at h; cases h; rfl
        show q.1 * ν q.2 + (r.1 - z_tmn q b) ≤ p.1 * ν p.2 + f_ev ν l
        rcases List.mem_cons.mp hq with rfl | hq
        · rw [hp] at hb
          cases hb
          have := (f_iv_ok hs hr).1
          omega
        · have a1 := ih hr hq
          have a2 := z_tmn_le (q := p) i2.1 i2.2
          omega
def z_prp (g : FM) : FL → VS → Option VS
  | [], V => some V
  | q :: l, V => match f_iv V.1 g.2 with
    | none => some V
    | some r => match z_nth V.1 q.2 with
      | none => some V
      | some b => match z_le 1 q.1 with
        | true => z_bd (z_rfn V q.2 b.1 (Int.ediv (Int.mul (-1) (Int.add g.1 (Int.add r.1 (Int.mul (-1) (z_tmn q b))))) q.1)) fun V1 => z_prp g l V1
        | false => match z_le q.1 (-1) with
          | true => z_bd (z_rfn V q.2 (Int.mul (-1) (Int.ediv (Int.mul (-1) (Int.add g.1 (Int.add r.1 (Int.mul (-1) (z_tmn q b))))) (Int.mul (-1) q.1))) b.2) fun V1 => z_prp g l V1
          | false => z_prp g l V
theorem z_prp_ok {ν : Nat → Int} {g : FM} {l : FL} (hl : ∀ q ∈ l, q ∈ g.2) {V : VS} (hs : z_sat ν V) (h : f_evm ν g ≤ 0) : ∃ V', z_prp g l V = some V' ∧ z_sat ν V' ∧ z_len V'.1 = z_len V.1 := by
  induction l generalizing V with
  | nil => exact ⟨V, rfl, hs, rfl⟩
  | cons q l ih =>
    have ih := fun {V : VS} (hs : z_sat ν V) => ih (fun p hp => hl p (List.mem_cons_of_mem _ hp)) (V := V) hs
    unfold z_prp
    cases hr : f_iv V.1 g.2 with
    | none => exact ⟨V, rfl, hs, rfl⟩
    | some r =>
      simp only
      cases hb : z_nth V.1 q.2 with
      | none => exact ⟨V, rfl, hs, rfl⟩
      | some b =>
        simp only
        have hbb := hs.1 _ _ hb
        have h0 : g.1 + f_ev ν g.2 ≤ 0 := h
        have hk := f_iv_rest hs.1 hr (hl q List.mem_cons_self) hb
        cases h1 : z_le 1 q.1 with
        | true =>
          simp only
          have c1 := z_le_iff.mp h1
          obtain ⟨V1, e1, s1, l1⟩ := z_rfn_ok (x := q.2) (lo := b.1) (hi := Int.ediv (Int.mul (-1) (Int.add g.1 (Int.add r.1 (Int.mul (-1) (z_tmn q b))))) q.1) hs hbb.1 (by
            show ν q.2 ≤ (-1 * (g.1 + (r.1 + -1 * z_tmn q b))) / q.1
            refine Int.le_ediv_of_mul_le (by omega) ?_
            rw [Int.mul_comm]
            omega)
          obtain ⟨V2, e2, s2, l2⟩ := ih s1
          exact ⟨V2, by rw [e1]; exact e2, s2, l2.trans l1⟩
        | false =>
          simp only
          cases h2 : z_le q.1 (-1) with
          | true =>
            simp only
            have c1 := z_le_iff.mp h2
            obtain ⟨V1, e1, s1, l1⟩ := z_rfn_ok (x := q.2) (lo := Int.mul (-1) (Int.ediv (Int.mul (-1) (Int.add g.1 (Int.add r.1 (Int.mul (-1) (z_tmn q b))))) (Int.mul (-1) q.1))) (hi := b.2) hs (by
              show -1 * ((-1 * (g.1 + (r.1 + -1 * z_tmn q b))) / (-1 * q.1)) ≤ ν q.2
              have : -ν q.2 ≤ (-1 * (g.1 + (r.1 + -1 * z_tmn q b))) / (-1 * q.1) := by
                refine Int.le_ediv_of_mul_le (by omega) ?_
                have : -ν q.2 * (-1 * q.1) = q.1 * ν q.2 := by rw [Int.neg_mul, Int.mul_comm (ν q.2), Int.mul_assoc, ← Int.neg_mul, Int.neg_neg, Int.one_mul]
                rw [this]
                omega
              omega) hbb.2
            obtain ⟨V2, e2, s2, l2⟩ := ih s1
            exact ⟨V2, by rw [e1]; exact e2, s2, l2.trans l1⟩
          | false => exact ih hs
def z_add2 (V : VS) (g : FM) : Option VS := match f_ub V g 0 with
  | true => some V
  | false => match f_ge V g 1 with
    | true => none
    | false => z_prp g g.2 (V.1, g :: V.2.1, V.2.2)
def z_asm (V : VS) (g : FM) : Option VS := match g.2 with
  | [] => match z_le g.1 0 with
    | true => some V
    | false => none
  | [q] => match z_nth V.1 q.2 with
    | none => none
    | some b => match z_nn q.1 with
      | 1 => z_rfn V q.2 b.1 (Int.mul (-1) g.1)
      | 2 => z_rfn V q.2 g.1 b.2
      | _ => z_add2 V g
  | _ :: _ :: _ => z_add2 V g
theorem z_add2_ok {ν : Nat → Int} {V : VS} {g : FM} (hs : z_sat ν V) (hw : f_wf (z_len V.1) g.2) (h : f_evm ν g ≤ 0) : ∃ V', z_add2 V g = some V' ∧ z_sat ν V' ∧ z_len V'.1 = z_len V.1 := by
  unfold z_add2
  cases f_ub V g 0 with
  | true => exact ⟨V, rfl, hs, rfl⟩
  | false =>
    simp only
    cases h2 : f_ge V g 1 with
    | true => have := f_ge_ok hs h2; omega
    | false =>
      have s1 : z_sat ν (V.1, g :: V.2.1, V.2.2) := ⟨hs.1, fun k hk => (List.mem_cons.mp hk).elim (fun e => by subst e; exact ⟨hw, h⟩) (hs.2.1 k), hs.2.2⟩
      exact z_prp_ok (fun q hq => hq) s1 h
theorem z_asm_ok {ν : Nat → Int} {V : VS} {g : FM} (hs : z_sat ν V) (hw : f_wf (z_len V.1) g.2) (h : f_evm ν g ≤ 0) : ∃ V', z_asm V g = some V' ∧ z_sat ν V' ∧ z_len V'.1 = z_len V.1 := by
  obtain ⟨k, l⟩ := g
  match l, hw, h with
  | [], hw, h =>
    have h : k + 0 ≤ 0 := h
    have : z_le k 0 = true := z_le_iff.mpr (by omega)
    unfold z_asm
    simp only [this]
    exact ⟨V, rfl, hs, rfl⟩
  | [q], hw, h =>
    have hq := hw q List.mem_cons_self
    obtain ⟨b, hb⟩ := z_len_nth hq
    have hbb := hs.1 _ _ hb
    have h0 : k + (q.1 * ν q.2 + 0) ≤ 0 := h
    unfold z_asm
    simp only [hb]
    have two := z_add2_ok hs hw h
    match hn : z_nn q.1 with
    | 0 => simp only; exact two
    | 1 =>
      simp only
      have e : q.1 = 1 := by
        unfold z_nn at hn
        cases hc : q.1 with
        | ofNat n =>
          rw [hc] at hn
          simp only at hn
          cases hn1 : Nat.beq n 1 with
          | true => rw [Nat.eq_of_beq_eq_true hn1]; rfl
          | false => rw [hn1] at hn; cases hn
        | negSucc n =>
          rw [hc] at hn
          simp only at hn
          cases hn1 : Nat.beq n 0 with
          | true => rw [hn1] at hn; cases hn
          | false => rw [hn1] at hn; cases hn
      exact z_rfn_ok hs hbb.1 (by show ν q.2 ≤ -1 * k; rw [e] at h0; omega)
    | 2 =>
      simp only
      have e : q.1 = -1 := by
        unfold z_nn at hn
        cases hc : q.1 with
        | ofNat n =>
          rw [hc] at hn
          simp only at hn
          cases hn1 : Nat.beq n 1 with
          | true => rw [hn1] at hn; cases hn
          | false => rw [hn1] at hn; cases hn
        | negSucc n =>
          rw [hc] at hn
          simp only at hn
          cases hn1 : Nat.beq n 0 with
          | true => rw [Nat.eq_of_beq_eq_true hn1]; rfl
          | false => rw [hn1] at hn; cases hn
      exact z_rfn_ok hs (by show k ≤ ν q.2; rw [e] at h0; omega) hbb.2
    | n + 3 => simp only; exact two
  | _ :: _ :: _, hw, h =>
    unfold z_asm
    exact z_add2_ok hs hw h
/-- comparisons -/
def z_lt (V : VS) (x y : FM) : Option VS := z_asm V (f_add (1, []) (f_sub x y))
def z_ge (V : VS) (x y : FM) : Option VS := z_asm V (f_sub y x)
def z_eq (V : VS) (x y : FM) : Option VS := z_bd (z_asm V (f_sub x y)) fun V1 => z_asm V1 (f_sub y x)
def z_ol (o : Option VS) (r : List VS) : List VS := match o with
  | some V => V :: r
  | none => r
def z_br (c : Nat) (V : VS) (x y : FM) : Option (List VS × List VS) := match c with
  | 0 => some (z_ol (z_eq V x y) [], z_ol (z_lt V x y) (z_ol (z_lt V y x) []))
  | 1 => some (z_ol (z_lt V x y) (z_ol (z_lt V y x) []), z_ol (z_eq V x y) [])
  | 2 => some (z_ol (z_lt V x y) [], z_ol (z_ge V x y) [])
  | 3 => some (z_ol (z_ge V x y) [], z_ol (z_lt V x y) [])
  | 4 => some (z_ol (z_lt V y x) [], z_ol (z_ge V y x) [])
  | 5 => some (z_ol (z_ge V y x) [], z_ol (z_lt V y x) [])
  | _ => none
def z_cmp (c : Nat) (X Y : Int) : Prop := match c with
  | 0 => X = Y
  | 1 => ¬ X = Y
  | 2 => X < Y
  | 3 => Y ≤ X
  | 4 => Y < X
  | _ => X ≤ Y
theorem z_ol_mem {o : Option VS} {r : List VS} {V : VS} : V ∈ z_ol o r ↔ o = some V ∨ V ∈ r := by
  cases o <;> simp [z_ol, eq_comm]
theorem z_lt_ok {ν : Nat → Int} {V : VS} {x y : FM} (hs : z_sat ν V) (hx : f_wf (z_len V.1) x.2) (hy : f_wf (z_len V.1) y.2) (h : f_evm ν x < f_evm ν y) : ∃ V', z_lt V x y = some V' ∧ z_sat ν V' ∧ z_len V'.1 = z_len V.1 :=
  z_asm_ok hs (f_wf_add f_wf0 (f_wf_sub hx hy)) (by rw [f_add_ev, f_sub_ev]; show (1 : Int) + 0 + _ ≤ 0; omega)
theorem z_ge_ok {ν : Nat → Int} {V : VS} {x y : FM} (hs : z_sat ν V) (hx : f_wf (z_len V.1) x.2) (hy : f_wf (z_len V.1) y.2) (h : f_evm ν y ≤ f_evm ν x) : ∃ V', z_ge V x y = some V' ∧ z_sat ν V' ∧ z_len V'.1 = z_len V.1 :=
  z_asm_ok hs (f_wf_sub hy hx) (by rw [f_sub_ev]; omega)
theorem z_eq_ok {ν : Nat → Int} {V : VS} {x y : FM} (hs : z_sat ν V) (hx : f_wf (z_len V.1) x.2) (hy : f_wf (z_len V.1) y.2) (h : f_evm ν x = f_evm ν y) : ∃ V', z_eq V x y = some V' ∧ z_sat ν V' ∧ z_len V'.1 = z_len V.1 := by
  obtain ⟨V1, e1, s1, l1⟩ := z_asm_ok hs (f_wf_sub hx hy) (by rw [f_sub_ev]; omega)
  obtain ⟨V2, e2, s2, l2⟩ := z_asm_ok s1 (by rw [l1]; exact f_wf_sub hy hx) (by rw [f_sub_ev]; omega)
  exact ⟨V2, by unfold z_eq; rw [e1]; exact e2, s2, l2.trans l1⟩
theorem z_br_ok {ν : Nat → Int} {c : Nat} {V : VS} {x y : FM} {t f : List VS} (hs : z_sat ν V) (hx : f_wf (z_len V.1) x.2) (hy : f_wf (z_len V.1) y.2) (h : z_br c V x y = some (t, f)) : (z_cmp c (f_evm ν x) (f_evm ν y) → ∃ V' ∈ t, z_sat ν V' ∧ z_len V'.1 = z_len V.1) ∧ (¬ z_cmp c (f_evm ν x) (f_evm ν y) → ∃ V' ∈ f, z_sat ν V' ∧ z_len V'.1 = z_len V.1) := by
  have one : ∀ {o : Option VS}, (∃ V', o = some V' ∧ z_sat ν V' ∧ z_len V'.1 = z_len V.1) → ∀ r, ∃ V' ∈ z_ol o r, z_sat ν V' ∧ z_len V'.1 = z_len V.1 := fun ⟨V', e, g⟩ r => ⟨V', z_ol_mem.mpr (Or.inl e), g⟩
  have two : ∀ {o : Option VS} {r : List VS}, (∃ V' ∈ r, z_sat ν V' ∧ z_len V'.1 = z_len V.1) → ∃ V' ∈ z_ol o r, z_sat ν V' ∧ z_len V'.1 = z_len V.1 := fun ⟨V', e, g⟩ => ⟨V', z_ol_mem.mpr (Or.inr e), g⟩
  have LT := fun g => z_lt_ok hs hx hy g
  have GT := fun g => z_lt_ok hs hy hx g
  have GE := fun g => z_ge_ok hs hx hy g
  have LE := fun g => z_ge_ok hs hy hx g
  have EQ := fun g => z_eq_ok hs hx hy g
  have NE : ¬ f_evm ν x = f_evm ν y → ∃ V' ∈ z_ol (z_lt V x y) (z_ol (z_lt V y x) []), z_sat ν V' ∧ z_len V'.1 = z_len V.1 := fun g => by
    rcases Int.lt_or_gt_of_ne g with g | g
    · exact one (LT g) _
    · exact two (one (GT g) _)
  match c, h with
  | 0, h => cases h; exact ⟨fun g => one (EQ g) _, fun g => NE g⟩
  | 1, h => cases h; exact ⟨fun g => NE g, fun g => one (EQ (Classical.not_not.mp g)) _⟩
  | 2, h => cases h; exact ⟨fun g => one (LT g) _, fun g => one (GE (Int.not_lt.mp g)) _⟩
  | 3, h => cases h; exact ⟨fun g => one (GE g) _, fun g => one (LT (Int.not_le.mp g)) _⟩
  | 4, h => cases h; exact ⟨fun g => one (GT g) _, fun g => one (LE (Int.not_lt.mp g)) _⟩
  | 5, h => cases h; exact ⟨fun g => one (LE g) _, fun g => one (GT (Int.not_le.mp g)) _⟩
  | n + 6, h => cases h
