section L3
variable {ms : List ZM} {D : va_G} {K : Nat → ClassId} {B b : Nat} {p : Program} {l : Launch} {e : Env} {R : Room} {s : State} {m : MethodId} {args : Array Value} {below : List Frame} {meth : Method} {c : Code} {Q : State → Prop} {ν0 : Nat → Int} {nv0 k0 nL : Nat} {E : ZE} {own mn : String} {cc : ByteArray} {loc : List (Nat × AV)} {stk : List AV} {V : VS} {h : T2 AC} {n sl : Nat} {res : List ZS × List ZO} {ν : Nat → Int} {σ : Nat → va_E} {H : Heap} {locs : List Loc} {ls : Array Slot} {vs : List Value} {pc np : Nat}
theorem z_store {i k : Nat} (hr : h_store i k nL np E loc stk V h n sl = some res) (hS : ∀ st ∈ res.1, z_W D K B b p l e R s m args below meth c Q ν0 nv0 k0 nL st) (P : z_P D K B b s ν0 nv0 k0 nL loc stk V h n ν σ H locs ls vs) : ∃ (a : AV) (v : Value) (rest : List Value) (lv : List (Nat × Value)), vs = v :: rest ∧ z_kd k a = true ∧ z_mt ν (z_len V) B b a v ∧ i < nL ∧ lv_has ls nL lv ∧ ∀ ls' : Array Slot, lv_has ls' nL ((i, v) :: lv.filter (fun q => !(q.1 == i) && !(q.1 + 1 == i && q.2.category == 2))) → W p l e R s m args below meth c H locs (n - k0) sl Q (F0 m np ls' rest) := by
  obtain ⟨q, hq, hr⟩ := z_bdI hr
  obtain ⟨hk, hr⟩ := z_ifI hr
  obtain ⟨hk, hi⟩ := z_andI hk
  cases hr
  obtain ⟨p1, p2, p3, p4, p5, p6, p7, p8⟩ := P
  rw [z_p1I hq] at p7
  obtain ⟨v, rest, rfl, q1, q2⟩ := z_fm_cons p7
  obtain ⟨lv, h1, h2⟩ := p6
  obtain ⟨ν', e1, e2, e3, e4⟩ := z_name_ok p4 q1
  refine ⟨q.1, v, rest, lv, rfl, hk, q1, Nat.le_of_ble_eq_true hi, h1, fun ls' hl => hS _ List.mem_cons_self ν' σ H locs ls' rest ⟨fun i hi => (e1 i (Nat.lt_of_lt_of_le hi p2)).trans (p1 i hi), Nat.le_trans p2 e2, p3, e3, z_hm_ext e1 e2 p5, ⟨_, hl, ⟨rfl, e4⟩, ?_⟩, z_fm_mono (fun _ _ => z_mt_ext e1 e2) q2, p8⟩⟩
  exact z_rm_ok (z_fm_mono (fun _ _ z => ⟨z.1, z_mt_ext e1 e2 z.2⟩) h2)
theorem z_store2 {i : Nat} (hr : h_store2 i nL np E loc stk V h n sl = some res) (hS : ∀ st ∈ res.1, z_W D K B b p l e R s m args below meth c Q ν0 nv0 k0 nL st) (P : z_P D K B b s ν0 nv0 k0 nL loc stk V h n ν σ H locs ls vs) : ∃ (a : AV) (v : Value) (rest : List Value) (lv : List (Nat × Value)), vs = v :: rest ∧ z_isL a = true ∧ z_mt ν (z_len V) B b a v ∧ i + 1 < nL ∧ lv_has ls nL lv ∧ ∀ ls' : Array Slot, lv_has ls' nL ((i, v) :: lv.filter (fun q => !(q.1 == i) && (!(q.1 == i + 1) && !(q.1 + 1 == i && q.2.category == 2)))) → W p l e R s m args below meth c H locs (n - k0) sl Q (F0 m np ls' rest) := by
  obtain ⟨q, hq, hr⟩ := z_bdI hr
  obtain ⟨hk, hr⟩ := z_ifI hr
  obtain ⟨hk, hi⟩ := z_andI hk
  cases hr
  obtain ⟨p1, p2, p3, p4, p5, p6, p7, p8⟩ := P
  rw [z_p1I hq] at p7
  obtain ⟨v, rest, rfl, q1, q2⟩ := z_fm_cons p7
  obtain ⟨lv, h1, h2⟩ := p6
  obtain ⟨ν', e1, e2, e3, e4⟩ := z_name_ok p4 q1
  refine ⟨q.1, v, rest, lv, rfl, hk, q1, Nat.le_of_ble_eq_true hi, h1, fun ls' hl => hS _ List.mem_cons_self ν' σ H locs ls' rest ⟨fun i hi => (e1 i (Nat.lt_of_lt_of_le hi p2)).trans (p1 i hi), Nat.le_trans p2 e2, p3, e3, z_hm_ext e1 e2 p5, ⟨_, hl, ⟨rfl, e4⟩, ?_⟩, z_fm_mono (fun _ _ => z_mt_ext e1 e2) q2, p8⟩⟩
  exact z_rm2_ok (z_fm_mono (fun _ _ z => ⟨z.1, z_mt_ext e1 e2 z.2⟩) h2)
end L3
section L4
variable {ms : List ZM} {own mn : String} {cc : ByteArray} {nL pc np i : Nat}
theorem s_istore_n {k : Fin 4} (d : decode cc pc = .ok (.istore_n k, 1)) (hi : (k : Nat) = i) (hn : pc + 1 = np) : z_sound ms own mn cc nL pc (h_store i 0 nL np) := by
  subst hn
  intro D K B b p l e R s m args below meth c Q ν0 nv0 k0 E X loc stk V h n sl res hr hS hO ν σ H locs ls vs P
  obtain ⟨a, v, rest, lv, rfl, hk, hm, hlt, hl, kk⟩ := z_store hr hS P
  obtain ⟨x, rfl, -⟩ := z_mt_i hm hk
  exact lv_istore_n X.1.1 X.1.2.1 d hi hl hlt rfl kk
theorem s_istore (d : decode cc pc = .ok (.istore i, 2)) (hn : pc + 2 = np) : z_sound ms own mn cc nL pc (h_store i 0 nL np) := by
  subst hn
  intro D K B b p l e R s m args below meth c Q ν0 nv0 k0 E X loc stk V h n sl res hr hS hO ν σ H locs ls vs P
  obtain ⟨a, v, rest, lv, rfl, hk, hm, hlt, hl, kk⟩ := z_store hr hS P
  obtain ⟨x, rfl, -⟩ := z_mt_i hm hk
  exact lv_istore X.1.1 X.1.2.1 d hl hlt rfl kk
theorem s_astore_n {k : Fin 4} (d : decode cc pc = .ok (.astore_n k, 1)) (hi : (k : Nat) = i) (hn : pc + 1 = np) : z_sound ms own mn cc nL pc (h_store i 2 nL np) := by
  subst hn
  intro D K B b p l e R s m args below meth c Q ν0 nv0 k0 E X loc stk V h n sl res hr hS hO ν σ H locs ls vs P
  obtain ⟨a, v, rest, lv, rfl, hk, hm, hlt, hl, kk⟩ := z_store hr hS P
  obtain ⟨x, rfl⟩ := z_mt_ref hm hk
  exact lv_astore_n X.1.1 X.1.2.1 d hi hl hlt rfl kk
theorem s_astore (d : decode cc pc = .ok (.astore i, 2)) (hn : pc + 2 = np) : z_sound ms own mn cc nL pc (h_store i 2 nL np) := by
  subst hn
  intro D K B b p l e R s m args below meth c Q ν0 nv0 k0 E X loc stk V h n sl res hr hS hO ν σ H locs ls vs P
  obtain ⟨a, v, rest, lv, rfl, hk, hm, hlt, hl, kk⟩ := z_store hr hS P
  obtain ⟨x, rfl⟩ := z_mt_ref hm hk
  exact lv_astore X.1.1 X.1.2.1 d hl hlt rfl kk
theorem s_lstore_n {k : Fin 4} (d : decode cc pc = .ok (.lstore_n k, 1)) (hi : (k : Nat) = i) (hn : pc + 1 = np) : z_sound ms own mn cc nL pc (h_store2 i nL np) := by
  subst hn
  intro D K B b p l e R s m args below meth c Q ν0 nv0 k0 E X loc stk V h n sl res hr hS hO ν σ H locs ls vs P
  obtain ⟨a, v, rest, lv, rfl, hk, hm, hlt, hl, kk⟩ := z_store2 hr hS P
  obtain ⟨x, rfl, -⟩ := z_mt_l hm hk
  exact lv_lstore_n X.1.1 X.1.2.1 d hi hl hlt rfl kk
theorem s_lstore (d : decode cc pc = .ok (.lstore i, 2)) (hn : pc + 2 = np) : z_sound ms own mn cc nL pc (h_store2 i nL np) := by
  subst hn
  intro D K B b p l e R s m args below meth c Q ν0 nv0 k0 E X loc stk V h n sl res hr hS hO ν σ H locs ls vs P
  obtain ⟨a, v, rest, lv, rfl, hk, hm, hlt, hl, kk⟩ := z_store2 hr hS P
  obtain ⟨x, rfl, -⟩ := z_mt_l hm hk
  exact lv_lstore X.1.1 X.1.2.1 d hl hlt rfl kk
end L4
/-! numbers -/
def z_mn : Int := .negSucc 2147483647
def z_mx : Int := .ofNat 2147483647
def z_mnL : Int := .negSucc 9223372036854775807
def z_mxL : Int := .ofNat 9223372036854775807
theorem z_mn_le (x : Int32) : z_mn ≤ x.toInt := x.le_toInt
theorem z_mx_le (x : Int32) : x.toInt ≤ z_mx := by have := x.toInt_lt; show x.toInt ≤ (2147483647 : Int); omega
theorem z_mnL_le (x : Int64) : z_mnL ≤ x.toInt := x.le_toInt
theorem z_mxL_le (x : Int64) : x.toInt ≤ z_mxL := by have := x.toInt_lt; show x.toInt ≤ (9223372036854775807 : Int); omega
def z_fit (r : Int × Int) : Int × Int := match z_le z_mn r.1 with
  | true => match z_le r.2 z_mx with
    | true => r
    | false => (z_mn, z_mx)
  | false => (z_mn, z_mx)
theorem z_fit_ok {r : Int × Int} {z : Int32} {X : Int} (h : X.bmod (2 ^ 32) = z.toInt) (h1 : r.1 ≤ X) (h2 : X ≤ r.2) : (z_fit r).1 ≤ z.toInt ∧ z.toInt ≤ (z_fit r).2 := by
  unfold z_fit
  cases e1 : z_le z_mn r.1 with
  | false => exact ⟨z_mn_le _, z_mx_le _⟩
  | true => cases e2 : z_le r.2 z_mx with
    | false => exact ⟨z_mn_le _, z_mx_le _⟩
    | true =>
      have a1 : (-2147483648 : Int) ≤ r.1 := z_le_iff.mp e1
      have a2 : r.2 ≤ (2147483647 : Int) := z_le_iff.mp e2
      rw [bmod_id (by omega) (by omega)] at h
      rw [← h]
      exact ⟨h1, h2⟩
def z_fitL (r : Int × Int) : Int × Int := match z_le z_mnL r.1 with
  | true => match z_le r.2 z_mxL with
    | true => r
    | false => (z_mnL, z_mxL)
  | false => (z_mnL, z_mxL)
theorem z_fitL_ok {r : Int × Int} {z : Int64} {X : Int} (h : X.bmod (2 ^ 64) = z.toInt) (h1 : r.1 ≤ X) (h2 : X ≤ r.2) : (z_fitL r).1 ≤ z.toInt ∧ z.toInt ≤ (z_fitL r).2 := by
  unfold z_fitL
  cases e1 : z_le z_mnL r.1 with
  | false => exact ⟨z_mnL_le _, z_mxL_le _⟩
  | true => cases e2 : z_le r.2 z_mxL with
    | false => exact ⟨z_mnL_le _, z_mxL_le _⟩
    | true =>
      have a1 : (-9223372036854775808 : Int) ≤ r.1 := z_le_iff.mp e1
      have a2 : r.2 ≤ (9223372036854775807 : Int) := z_le_iff.mp e2
      rw [Int.bmod_eq_of_le (by omega) (by omega)] at h
      rw [← h]
      exact ⟨h1, h2⟩
def z_gs (g : Int × Int → Int × Int → Option (Int × Int)) (F : Int32 → Int32 → Int32) : Prop := ∀ (x y : Int32) (i j w : Int × Int), i.1 ≤ x.toInt → x.toInt ≤ i.2 → j.1 ≤ y.toInt → y.toInt ≤ j.2 → g i j = some w → w.1 ≤ (F x y).toInt ∧ (F x y).toInt ≤ w.2
def z_gsL (g : Int × Int → Int × Int → Option (Int × Int)) (F : Int64 → Int64 → Int64) : Prop := ∀ (x y : Int64) (i j w : Int × Int), i.1 ≤ x.toInt → x.toInt ≤ i.2 → j.1 ≤ y.toInt → y.toInt ≤ j.2 → g i j = some w → w.1 ≤ (F x y).toInt ∧ (F x y).toInt ≤ w.2
def g_add (i j : Int × Int) : Option (Int × Int) := some (z_fit (Int.add i.1 j.1, Int.add i.2 j.2))
theorem g_add_ok : z_gs g_add (fun x y => x + y) := by
  intro x y i j w h1 h2 h3 h4 h
  cases h
  exact z_fit_ok (Int32.toInt_add x y).symm (Int.add_le_add h1 h3) (Int.add_le_add h2 h4)
def g_sub (i j : Int × Int) : Option (Int × Int) := some (z_fit (Int.sub i.1 j.2, Int.sub i.2 j.1))
theorem g_sub_ok : z_gs g_sub (fun x y => x - y) := by
  intro x y i j w h1 h2 h3 h4 h
  cases h
  exact z_fit_ok (Int32.toInt_sub x y).symm (Int.sub_le_sub h1 h4) (Int.sub_le_sub h2 h3)
/-- both are one number: as it comes out; else by another rule -/
def z_one (i : Int × Int) : Bool := z_le i.2 i.1
def g_ex (F : Int32 → Int32 → Int32) (g : Int × Int → Int × Int → Option (Int × Int)) (i j : Int × Int) : Option (Int × Int) := match z_and (z_one i) (z_one j) with
  | true => some ((F (Int32.ofInt i.1) (Int32.ofInt j.1)).toInt, (F (Int32.ofInt i.1) (Int32.ofInt j.1)).toInt)
  | false => g i j
theorem z_oneI {i : Int × Int} {x : Int32} (h : z_one i = true) (h1 : i.1 ≤ x.toInt) (h2 : x.toInt ≤ i.2) : Int32.ofInt i.1 = x := by
  have := z_le_iff.mp h
  rw [show i.1 = x.toInt by omega, Int32.ofInt_toInt]
theorem g_ex_ok {F : Int32 → Int32 → Int32} {g : Int × Int → Int × Int → Option (Int × Int)} (hg : z_gs g F) : z_gs (g_ex F g) F := by
  intro x y i j w h1 h2 h3 h4 h
  unfold g_ex at h
  cases e : z_and (z_one i) (z_one j) with
  | false => rw [e] at h; exact hg x y i j w h1 h2 h3 h4 h
  | true =>
    rw [e] at h
    obtain ⟨a1, a2⟩ := z_andI e
    cases h
    rw [z_oneI a1 h1 h2, z_oneI a2 h3 h4]
    exact ⟨Int.le_refl _, Int.le_refl _⟩
def g_any (_ _ : Int × Int) : Option (Int × Int) := some (z_mn, z_mx)
theorem g_any_ok {F : Int32 → Int32 → Int32} : z_gs g_any F := by
  intro x y i j w _ _ _ _ h
  cases h
  exact ⟨z_mn_le _, z_mx_le _⟩
def g_no (_ _ : Int × Int) : Option (Int × Int) := none
theorem g_no_ok {F : Int32 → Int32 → Int32} : z_gs g_no F := by
  intro x y i j w _ _ _ _ h
  cases h
def g_mul (i j : Int × Int) : Option (Int × Int) := match z_and (z_le 0 i.1) (z_le 0 j.1) with
  | true => some (z_fit (Int.mul i.1 j.1, Int.mul i.2 j.2))
  | false => match z_and (z_one i) (z_one j) with
    | true => some (z_fit (Int.mul i.1 j.1, Int.mul i.1 j.1))
    | false => some (z_mn, z_mx)
theorem g_mul_ok : z_gs g_mul (fun x y => x * y) := by
  intro x y i j w h1 h2 h3 h4 h
  unfold g_mul at h
  cases e : z_and (z_le 0 i.1) (z_le 0 j.1) with
  | true =>
    rw [e] at h
    obtain ⟨a1, a2⟩ := z_andI e
    have a1 := z_le_iff.mp a1
    have a2 := z_le_iff.mp a2
    cases h
    exact z_fit_ok (Int32.toInt_mul x y).symm (Int.mul_le_mul h1 h3 a2 (by omega)) (Int.mul_le_mul h2 h4 (by omega) (by omega))
  | false =>
    rw [e] at h
    simp only at h
    cases e2 : z_and (z_one i) (z_one j) with
    | true =>
      rw [e2] at h
      obtain ⟨a1, a2⟩ := z_andI e2
      have a1 := z_le_iff.mp a1
      have a2 := z_le_iff.mp a2
      cases h
      have e3 : i.1 = x.toInt := by omega
      have e4 : j.1 = y.toInt := by omega
      exact z_fit_ok (Int32.toInt_mul x y).symm (by rw [e3, e4]; exact Int.le_refl _) (by rw [e3, e4]; exact Int.le_refl _)
    | false =>
      rw [e2] at h
      cases h
      exact ⟨z_mn_le _, z_mx_le _⟩
/-- and with a number that isn't below 0 -/
def g_and0 (i j : Int × Int) : Option (Int × Int) := match z_le 0 j.1 with
  | true => some (0, j.2)
  | false => match z_le 0 i.1 with
    | true => some (0, i.2)
    | false => some (z_mn, z_mx)
theorem and_nn {x y : Int32} (h : 0 ≤ y.toInt) : 0 ≤ (x &&& y).toInt ∧ (x &&& y).toInt ≤ y.toInt := by
  have hy : y.toBitVec.msb = false := by
    rw [← Int32.toInt_toBitVec] at h
    exact (BitVec.msb_eq_false_iff_two_mul_lt).mpr (by
      by_cases g : 2 * y.toBitVec.toNat < 2 ^ 32
      · exact g
      · rw [BitVec.toInt_eq_toNat_cond, if_neg g] at h
        have := y.toBitVec.isLt
        omega)
  have hz : (x &&& y).toBitVec.msb = false := by
    rw [Int32.toBitVec_and, BitVec.msb_and, hy, Bool.and_false]
  rw [← Int32.toInt_toBitVec, ← Int32.toInt_toBitVec, BitVec.toInt_eq_toNat_of_msb hz, BitVec.toInt_eq_toNat_of_msb hy]
  refine ⟨Int.natCast_nonneg _, ?_⟩
  rw [Int32.toBitVec_and, BitVec.toNat_and]
  exact Int.ofNat_le.mpr Nat.and_le_right
theorem g_and0_ok : z_gs g_and0 (fun x y => x &&& y) := by
  intro x y i j w h1 h2 h3 h4 h
  unfold g_and0 at h
  cases e : z_le 0 j.1 with
  | true =>
    rw [e] at h
    have e := z_le_iff.mp e
    cases h
    have := and_nn (x := x) (y := y) (by omega)
    exact ⟨this.1, by have := this.2; show (x &&& y).toInt ≤ j.2; omega⟩
  | false =>
    rw [e] at h
    simp only at h
    cases e2 : z_le 0 i.1 with
    | true =>
      rw [e2] at h
      have e2 := z_le_iff.mp e2
      cases h
      have := and_nn (x := y) (y := x) (by omega)
      rw [Int32.and_comm] at this
      exact ⟨this.1, by have := this.2; show (x &&& y).toInt ≤ i.2; omega⟩
    | false =>
      rw [e2] at h
      cases h
      exact ⟨z_mn_le _, z_mx_le _⟩
def z_n0 (j : Int × Int) : Bool := match z_le 1 j.1 with
  | true => true
  | false => z_le j.2 (-1)
theorem z_n0I {j : Int × Int} {y : Int} (h : z_n0 j = true) (h1 : j.1 ≤ y) (h2 : y ≤ j.2) : y ≠ 0 := by
  unfold z_n0 at h
  cases e : z_le 1 j.1 with
  | true => have := z_le_iff.mp e; omega
  | false => rw [e] at h; have := z_le_iff.mp h; omega
def g_div (F : Int32 → Int32 → Int32) (g : Int × Int → Int × Int → Option (Int × Int)) (i j : Int × Int) : Option (Int × Int) := match z_n0 j with
  | true => g_ex F g i j
  | false => none
theorem g_div_ok {F : Int32 → Int32 → Int32} {g : Int × Int → Int × Int → Option (Int × Int)} (hg : z_gs g F) : z_gs (g_div F g) F := by
  intro x y i j w h1 h2 h3 h4 h
  unfold g_div at h
  cases e : z_n0 j with
  | false => rw [e] at h; cases h
  | true => rw [e] at h; exact g_ex_ok hg x y i j w h1 h2 h3 h4 h
def h_bin (g : Int × Int → Int × Int → Option (Int × Int)) (np : Nat) : ZH := fun _ loc stk V h n sl => z_bd (z_p1 stk) fun a => z_bd (z_p1 a.2) fun d => z_if (z_and (z_isI a.1) (z_isI d.1)) (z_bd (z_bnd V d.1 a.1) fun q => z_bd (g q.1 q.2) fun w => some ([(np, loc, (0, 0, w) :: d.2, V, h, n, sl)], []))
def h_binL (g : Int × Int → Int × Int → Option (Int × Int)) (np : Nat) : ZH := fun _ loc stk V h n sl => z_bd (z_p1 stk) fun a => z_bd (z_p1 a.2) fun d => z_if (z_and (z_isL a.1) (z_isL d.1)) (z_bd (z_bnd V d.1 a.1) fun q => z_bd (g q.1 q.2) fun w => some ([(np, loc, (2, 0, w) :: d.2, V, h, n, sl)], []))
theorem z_bndI {V : VS} {x y : AV} {q : (Int × Int) × (Int × Int)} (h : z_bnd V x y = some q) : z_iv V x = some q.1 ∧ z_iv V y = some q.2 := by
  unfold z_bnd at h
  cases hi : z_iv V x with
  | none => rw [hi] at h; cases h
  | some i => cases hj : z_iv V y with
    | none => rw [hi] at h; simp only [hj] at h; cases h
    | some j => rw [hi] at h; simp only [hj] at h; cases h; exact ⟨rfl, rfl⟩
