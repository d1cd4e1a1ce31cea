/-! rules for quotients, remainders, shifts to the left, or -/
theorem q_div {x y : Int32} (hx : 0 ≤ x.toInt) (hy : 1 ≤ y.toInt) : (x / y).toInt = x.toInt / y.toInt := by
  rw [Int32.toInt_div, Int.tdiv_eq_ediv_of_nonneg hx]
  have h1 : 0 ≤ x.toInt / y.toInt := Int.ediv_nonneg hx (by omega)
  have h2 : x.toInt / y.toInt ≤ x.toInt := Int.ediv_le_self _ hx
  have h3 := x.toInt_lt
  exact bmod_id (by omega) (by omega)
theorem q_rem {x y : Int32} (hx : 0 ≤ x.toInt) (hy : 1 ≤ y.toInt) : (x - x / y * y).toInt = x.toInt % y.toInt := by
  have h3 := x.toInt_lt
  have e := Int.mul_ediv_add_emod x.toInt y.toInt
  have e1 := Int.emod_nonneg x.toInt (b := y.toInt) (by omega)
  have h1 : 0 ≤ x.toInt / y.toInt := Int.ediv_nonneg hx (by omega)
  have h0 : 0 ≤ y.toInt * (x.toInt / y.toInt) := Int.mul_nonneg (by omega) h1
  have em : (x / y * y).toInt = y.toInt * (x.toInt / y.toInt) := by
    rw [Int32.toInt_mul, q_div hx hy, Int.mul_comm]
    exact bmod_id (by omega) (by omega)
  rw [Int32.toInt_sub, em]
  rw [show x.toInt - y.toInt * (x.toInt / y.toInt) = x.toInt % y.toInt by omega]
  exact bmod_id (by omega) (by omega)
def g_quo0 (i j : Int × Int) : Option (Int × Int) := match z_and (z_le 0 i.1) (z_le 1 j.1) with
  | true => some (match z_one j with
    | true => (Int.ediv i.1 j.1, Int.ediv i.2 j.1)
    | false => (0, i.2))
  | false => some (z_mn, z_mx)
theorem g_quo0_ok : z_gs g_quo0 (fun x y => x / y) := by
  intro x y i j w h1 h2 h3 h4 h
  unfold g_quo0 at h
  cases e : z_and (z_le 0 i.1) (z_le 1 j.1) with
  | false => rw [e] at h; cases h; exact ⟨z_mn_le _, z_mx_le _⟩
  | true =>
    rw [e] at h
    obtain ⟨a1, a2⟩ := z_andI e
    have a1 := z_le_iff.mp a1
    have a2 := z_le_iff.mp a2
    have q := q_div (x := x) (y := y) (by omega) (by omega)
    cases ho : z_one j with
    | true =>
      rw [ho] at h
      cases h
      have ho := z_le_iff.mp ho
      have ey : y.toInt = j.1 := by omega
      show i.1 / j.1 ≤ (x / y).toInt ∧ (x / y).toInt ≤ i.2 / j.1
      rw [q, ey]
      exact ⟨Int.ediv_le_ediv (by omega) h1, Int.ediv_le_ediv (by omega) h2⟩
    | false =>
      rw [ho] at h
      cases h
      show 0 ≤ (x / y).toInt ∧ (x / y).toInt ≤ i.2
      rw [q]
      have h5 : 0 ≤ x.toInt / y.toInt := Int.ediv_nonneg (by omega) (by omega)
      have h6 : x.toInt / y.toInt ≤ x.toInt := Int.ediv_le_self _ (by omega)
      omega
def g_rem0 (i j : Int × Int) : Option (Int × Int) := match z_and (z_le 0 i.1) (z_le 1 j.1) with
  | true => some (0, z_min i.2 (Int.add j.2 (-1)))
  | false => some (z_mn, z_mx)
theorem g_rem0_ok : z_gs g_rem0 (fun x y => x - x / y * y) := by
  intro x y i j w h1 h2 h3 h4 h
  unfold g_rem0 at h
  cases e : z_and (z_le 0 i.1) (z_le 1 j.1) with
  | false => rw [e] at h; cases h; exact ⟨z_mn_le _, z_mx_le _⟩
  | true =>
    rw [e] at h
    obtain ⟨a1, a2⟩ := z_andI e
    have a1 := z_le_iff.mp a1
    have a2 := z_le_iff.mp a2
    cases h
    show 0 ≤ (x - x / y * y).toInt ∧ (x - x / y * y).toInt ≤ z_min i.2 (Int.add j.2 (-1))
    rw [q_rem (by omega) (by omega)]
    have e1 := Int.emod_nonneg x.toInt (b := y.toInt) (by omega)
    have e2 := Int.emod_lt_of_pos x.toInt (b := y.toInt) (by omega)
    have e3 : x.toInt % y.toInt ≤ x.toInt := by
      have e := Int.mul_ediv_add_emod x.toInt y.toInt
      have h1 : 0 ≤ x.toInt / y.toInt := Int.ediv_nonneg (by omega) (by omega)
      have h0 : 0 ≤ y.toInt * (x.toInt / y.toInt) := Int.mul_nonneg (by omega) h1
      omega
    exact ⟨e1, z_min_le.2.2 _ (by omega) (by show x.toInt % y.toInt ≤ j.2 + (-1); omega)⟩
def g_quo : Int × Int → Int × Int → Option (Int × Int) := g_ex (fun x y => x / y) g_quo0
theorem g_quo_ok : z_gs g_quo (fun x y => x / y) := g_ex_ok g_quo0_ok
def g_rem : Int × Int → Int × Int → Option (Int × Int) := g_ex (fun x y => x - x / y * y) g_rem0
theorem g_rem_ok : z_gs g_rem (fun x y => x - x / y * y) := g_ex_ok g_rem0_ok
/-- the same for longs -/
theorem q_divL {x y : Int64} (hx : 0 ≤ x.toInt) (hy : 1 ≤ y.toInt) : (x / y).toInt = x.toInt / y.toInt := by
  rw [Int64.toInt_div, Int.tdiv_eq_ediv_of_nonneg hx]
  have h1 : 0 ≤ x.toInt / y.toInt := Int.ediv_nonneg hx (by omega)
  have h2 : x.toInt / y.toInt ≤ x.toInt := Int.ediv_le_self _ hx
  have h3 := x.toInt_lt
  exact bmodL_id (by omega) (by omega)
theorem q_remL {x y : Int64} (hx : 0 ≤ x.toInt) (hy : 1 ≤ y.toInt) : (x - x / y * y).toInt = x.toInt % y.toInt := by
  have h3 := x.toInt_lt
  have e := Int.mul_ediv_add_emod x.toInt y.toInt
  have e1 := Int.emod_nonneg x.toInt (b := y.toInt) (by omega)
  have h1 : 0 ≤ x.toInt / y.toInt := Int.ediv_nonneg hx (by omega)
  have h0 : 0 ≤ y.toInt * (x.toInt / y.toInt) := Int.mul_nonneg (by omega) h1
  have em : (x / y * y).toInt = y.toInt * (x.toInt / y.toInt) := by
    rw [Int64.toInt_mul, q_divL hx hy, Int.mul_comm]
    exact bmodL_id (by omega) (by omega)
  rw [Int64.toInt_sub, em]
  rw [show x.toInt - y.toInt * (x.toInt / y.toInt) = x.toInt % y.toInt by omega]
  exact bmodL_id (by omega) (by omega)
def gL_quo (i j : Int × Int) : Option (Int × Int) := match z_and (z_le 0 i.1) (z_le 1 j.1) with
  | true => some (match z_one j with
    | true => (Int.ediv i.1 j.1, Int.ediv i.2 j.1)
    | false => (0, i.2))
  | false => some (z_mnL, z_mxL)
theorem gL_quo_ok : z_gsL gL_quo (fun x y => x / y) := by
  intro x y i j w h1 h2 h3 h4 h
  unfold gL_quo at h
  cases e : z_and (z_le 0 i.1) (z_le 1 j.1) with
  | false => rw [e] at h; cases h; exact ⟨z_mnL_le _, z_mxL_le _⟩
  | true =>
    rw [e] at h
    obtain ⟨a1, a2⟩ := z_andI e
    have a1 := z_le_iff.mp a1
    have a2 := z_le_iff.mp a2
    have q := q_divL (x := x) (y := y) (by omega) (by omega)
    cases ho : z_one j with
    | true =>
      rw [ho] at h
      cases h
      have ho := z_le_iff.mp ho
      have ey : y.toInt = j.1 := by omega
      show i.1 / j.1 ≤ (x / y).toInt ∧ (x / y).toInt ≤ i.2 / j.1
      rw [q, ey]
      exact ⟨Int.ediv_le_ediv (by omega) h1, Int.ediv_le_ediv (by omega) h2⟩
    | false =>
      rw [ho] at h
      cases h
      show 0 ≤ (x / y).toInt ∧ (x / y).toInt ≤ i.2
      rw [q]
      have h5 : 0 ≤ x.toInt / y.toInt := Int.ediv_nonneg (by omega) (by omega)
      have h6 : x.toInt / y.toInt ≤ x.toInt := Int.ediv_le_self _ (by omega)
      omega
def gL_rem (i j : Int × Int) : Option (Int × Int) := match z_and (z_le 0 i.1) (z_le 1 j.1) with
  | true => some (0, z_min i.2 (Int.add j.2 (-1)))
  | false => some (z_mnL, z_mxL)
theorem gL_rem_ok : z_gsL gL_rem (fun x y => x - x / y * y) := by
  intro x y i j w h1 h2 h3 h4 h
  unfold gL_rem at h
  cases e : z_and (z_le 0 i.1) (z_le 1 j.1) with
  | false => rw [e] at h; cases h; exact ⟨z_mnL_le _, z_mxL_le _⟩
  | true =>
    rw [e] at h
    obtain ⟨a1, a2⟩ := z_andI e
    have a1 := z_le_iff.mp a1
    have a2 := z_le_iff.mp a2
    cases h
    show 0 ≤ (x - x / y * y).toInt ∧ (x - x / y * y).toInt ≤ z_min i.2 (Int.add j.2 (-1))
    rw [q_remL (by omega) (by omega)]
    have e1 := Int.emod_nonneg x.toInt (b := y.toInt) (by omega)
    have e2 := Int.emod_lt_of_pos x.toInt (b := y.toInt) (by omega)
    have e3 : x.toInt % y.toInt ≤ x.toInt := by
      have e := Int.mul_ediv_add_emod x.toInt y.toInt
      have h1 : 0 ≤ x.toInt / y.toInt := Int.ediv_nonneg (by omega) (by omega)
      have h0 : 0 ≤ y.toInt * (x.toInt / y.toInt) := Int.mul_nonneg (by omega) h1
      omega
    exact ⟨e1, z_min_le.2.2 _ (by omega) (by show x.toInt % y.toInt ≤ j.2 + (-1); omega)⟩
