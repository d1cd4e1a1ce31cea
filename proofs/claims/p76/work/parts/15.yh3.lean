def z_gs (g : Int × Int → Int × Int → Option (Int × Int)) (F : Int32 → Int32 → Int32) : Prop := ∀ (x y : Int32) (i j w : Int × Int), i.1 ≤ x.toInt → x.toInt ≤ i.2 → j.1 ≤ y.toInt → y.toInt ≤ j.2 → g i j = some w → w.1 ≤ (F x y).toInt ∧ (F x y).toInt ≤ w.2
def z_gsL (g : Int × Int → Int × Int → Option (Int × Int)) (F : Int64 → Int64 → Int64) : Prop := ∀ (x y : Int64) (i j w : Int × Int), i.1 ≤ x.toInt → x.toInt ≤ i.2 → j.1 ≤ y.toInt → y.toInt ≤ j.2 → g i j = some w → w.1 ≤ (F x y).toInt ∧ (F x y).toInt ≤ w.2
/-- both are one number: as it comes out; else by another rule -/
def z_one (i : Int × Int) : Bool := z_le i.2 i.1
def g_ex (F : Int32 → Int32 → Int32) (g : Int × Int → Int × Int → Option (Int × Int)) (i j : Int × Int) : Option (Int × Int) := match z_and (z_one i) (z_one j) with
  | true => some ((F (Int32.ofInt i.1) (Int32.ofInt j.1)).toInt, (F (Int32.ofInt i.1) (Int32.ofInt j.1)).toInt)
  | false => g i j
theorem z_oneI {i : Int × Int} {x : Int32} (h : z_one i = true) (h1 : i.1 ≤ x.toInt) (h2 : x.toInt ≤ i.2) : Int32.ofInt i.1 = x := by
  have := z_le_iff.mp h
  rw [show i.1 = x.toInt by omega, Int32.ofInt_toInt]
theorem g_ex_ok {F : Int32 → Int32 → Int32} {g : Int × Int → Int × Int → Option (Int × Int)} (hg : z_gs g F) : z_gs (g_ex F g) F := by
  intro x y i j w h1 h2 h3 h4 h
  unfold g_ex at h
  cases e : z_and (z_one i) (z_one j) with
  | false => rw [e] at h; exact hg x y i j w h1 h2 h3 h4 h
  | true =>
    rw [e] at h
    obtain ⟨a1, a2⟩ := z_andI e
    cases h
    rw [z_oneI a1 h1 h2, z_oneI a2 h3 h4]
    exact ⟨Int.le_refl _, Int.le_refl _⟩
def g_any (_ _ : Int × Int) : Option (Int × Int) := some (z_mn, z_mx)
theorem g_any_ok {F : Int32 → Int32 → Int32} : z_gs g_any F := by
  intro x y i j w _ _ _ _ h
  cases h
  exact ⟨z_mn_le _, z_mx_le _⟩
def g_no (_ _ : Int × Int) : Option (Int × Int) := none
theorem g_no_ok {F : Int32 → Int32 → Int32} : z_gs g_no F := by
  intro x y i j w _ _ _ _ h
  cases h
/-- and with a number that isn't below 0 -/
def g_and0 (i j : Int × Int) : Option (Int × Int) := match z_le 0 j.1 with
  | true => some (0, j.2)
  | false => match z_le 0 i.1 with
    | true => some (0, i.2)
    | false => some (z_mn, z_mx)
theorem and_nn {x y : Int32} (h : 0 ≤ y.toInt) : 0 ≤ (x &&& y).toInt ∧ (x &&& y).toInt ≤ y.toInt := by
  have hy : y.toBitVec.msb = false := by
    rw [← Int32.toInt_toBitVec] at h
    exact (BitVec.msb_eq_false_iff_two_mul_lt).mpr (by
      by_cases g : 2 * y.toBitVec.toNat < 2 ^ 32
      · exact g
      · rw [BitVec.toInt_eq_toNat_cond, if_neg g] at h
        have := y.toBitVec.isLt
        omega)
  have hz : (x &&& y).toBitVec.msb = false := by
    rw [Int32.toBitVec_and, BitVec.msb_and, hy, Bool.and_false]
  rw [← Int32.toInt_toBitVec, ← Int32.toInt_toBitVec, BitVec.toInt_eq_toNat_of_msb hz, BitVec.toInt_eq_toNat_of_msb hy]
  refine ⟨Int.natCast_nonneg _, ?_⟩
  rw [Int32.toBitVec_and, BitVec.toNat_and]
  exact Int.ofNat_le.mpr Nat.and_le_right
theorem g_and0_ok : z_gs g_and0 (fun x y => x &&& y) := by
  intro x y i j w h1 h2 h3 h4 h
  unfold g_and0 at h
  cases e : z_le 0 j.1 with
  | true =>
    rw [e] at h
    have e := z_le_iff.mp e
    cases h
    have := and_nn (x := x) (y := y) (by omega)
    exact ⟨this.1, by have := this.2; show (x &&& y).toInt ≤ j.2; omega⟩
  | false =>
    rw [e] at h
    simp only at h
    cases e2 : z_le 0 i.1 with
    | true =>
      rw [e2] at h
      have e2 := z_le_iff.mp e2
      cases h
      have := and_nn (x := y) (y := x) (by omega)
      rw [Int32.and_comm] at this
      exact ⟨this.1, by have := this.2; show (x &&& y).toInt ≤ i.2; omega⟩
    | false =>
      rw [e2] at h
      cases h
      exact ⟨z_mn_le _, z_mx_le _⟩
def z_n0 (j : Int × Int) : Bool := match z_le 1 j.1 with
  | true => true
  | false => z_le j.2 (-1)
theorem z_n0I {j : Int × Int} {y : Int} (h : z_n0 j = true) (h1 : j.1 ≤ y) (h2 : y ≤ j.2) : y ≠ 0 := by
  unfold z_n0 at h
  cases e : z_le 1 j.1 with
  | true => have := z_le_iff.mp e; omega
  | false => rw [e] at h; have := z_le_iff.mp h; omega
def g_div (F : Int32 → Int32 → Int32) (g : Int × Int → Int × Int → Option (Int × Int)) (i j : Int × Int) : Option (Int × Int) := match z_n0 j with
  | true => g_ex F g i j
  | false => none
theorem g_div_ok {F : Int32 → Int32 → Int32} {g : Int × Int → Int × Int → Option (Int × Int)} (hg : z_gs g F) : z_gs (g_div F g) F := by
  intro x y i j w h1 h2 h3 h4 h
  unfold g_div at h
  cases e : z_n0 j with
  | false => rw [e] at h; cases h
  | true => rw [e] at h; exact g_ex_ok hg x y i j w h1 h2 h3 h4 h
/-! the rules of numbers, by name -/
def g_and : Int × Int → Int × Int → Option (Int × Int) := g_ex (fun x y => x &&& y) g_and0
theorem g_and_ok : z_gs g_and (fun x y => x &&& y) := g_ex_ok g_and0_ok
def g_or : Int × Int → Int × Int → Option (Int × Int) := g_ex (fun x y => x ||| y) g_any
theorem g_or_ok : z_gs g_or (fun x y => x ||| y) := g_ex_ok g_any_ok
def g_xor : Int × Int → Int × Int → Option (Int × Int) := g_ex (fun x y => x ^^^ y) g_any
theorem g_xor_ok : z_gs g_xor (fun x y => x ^^^ y) := g_ex_ok g_any_ok
def g_shl : Int × Int → Int × Int → Option (Int × Int) := g_ex (fun x y => x <<< (y &&& 31)) g_any
theorem g_shl_ok : z_gs g_shl (fun x y => x <<< (y &&& 31)) := g_ex_ok g_any_ok
def g_shr0 (i _ : Int × Int) : Option (Int × Int) := some (z_min i.1 0, z_max i.2 0)
theorem shr_bd (x y : Int32) : (x.toInt ≤ (x >>> y).toInt ∨ 0 ≤ (x >>> y).toInt) ∧ ((x >>> y).toInt ≤ x.toInt ∨ (x >>> y).toInt ≤ 0) ∧ (0 ≤ x.toInt → 0 ≤ (x >>> y).toInt) ∧ (x.toInt < 0 → (x >>> y).toInt < 0) := by
  rw [← Int32.toInt_toBitVec (x >>> y), Int32.toBitVec_shiftRight, BitVec.sshiftRight_eq', BitVec.toInt_sshiftRight, Int32.toInt_toBitVec, Int.shiftRight_eq_div_pow]
  generalize (y.toBitVec.smod 32#32).toNat = k
  generalize x.toInt = z
  have hp : (0 : Int) < ((2 ^ k : Nat) : Int) := by exact_mod_cast Nat.two_pow_pos k
  generalize ((2 ^ k : Nat) : Int) = d at hp
  have e := Int.mul_ediv_add_emod z d
  have e1 := Int.emod_nonneg z (Int.ne_of_gt hp)
  have e2 := Int.emod_lt_of_pos z hp
  by_cases hz : 0 ≤ z
  · have h1 : 0 ≤ z / d := Int.ediv_nonneg hz (Int.le_of_lt hp)
    have h2 : z / d ≤ z := Int.ediv_le_self d hz
    omega
  · have h1 : z / d < 0 := Int.ediv_neg_of_neg_of_pos (by omega) hp
    have h2 : z ≤ z / d := by
      have : z / d ≥ z := Int.le_ediv_of_mul_le hp (by
        have : z * d ≤ z * 1 := Int.mul_le_mul_of_nonpos_left (by omega) (by omega)
        omega)
      exact this
    omega
theorem g_shr0_ok : z_gs g_shr0 (fun x y => x >>> (y &&& 31)) := by
  intro x y i j w h1 h2 h3 h4 h
  cases h
  obtain ⟨a1, a2, a3, a4⟩ := shr_bd x (y &&& 31)
  refine ⟨?_, ?_⟩
  · show z_min i.1 0 ≤ (x >>> (y &&& 31)).toInt
    have g1 := (z_min_le (a := i.1) (b := 0)).1
    have g2 := (z_min_le (a := i.1) (b := 0)).2.1
    omega
  · show (x >>> (y &&& 31)).toInt ≤ z_max i.2 0
    have g1 := (z_max_le (a := i.2) (b := 0)).1
    have g2 := (z_max_le (a := i.2) (b := 0)).2.1
    omega
def g_shr : Int × Int → Int × Int → Option (Int × Int) := g_ex (fun x y => x >>> (y &&& 31)) g_shr0
theorem g_shr_ok : z_gs g_shr (fun x y => x >>> (y &&& 31)) := g_ex_ok g_shr0_ok
def g_ushr : Int × Int → Int × Int → Option (Int × Int) := g_ex (fun x y => (x.toUInt32 >>> (y.toUInt32 &&& Int32.toUInt32 31)).toInt32) g_any
theorem g_ushr_ok : z_gs g_ushr (fun x y => (x.toUInt32 >>> (y.toUInt32 &&& Int32.toUInt32 31)).toInt32) := g_ex_ok g_any_ok
def gL_any (_ _ : Int × Int) : Option (Int × Int) := some (z_mnL, z_mxL)
theorem gL_any_ok {F : Int64 → Int64 → Int64} : z_gsL gL_any F := by
  intro x y i j w _ _ _ _ h
  cases h
  exact ⟨z_mnL_le _, z_mxL_le _⟩
def gL_n0 (g : Int × Int → Int × Int → Option (Int × Int)) (i j : Int × Int) : Option (Int × Int) := match z_n0 j with
  | true => g i j
  | false => none
theorem gL_n0_ok {F : Int64 → Int64 → Int64} {g : Int × Int → Int × Int → Option (Int × Int)} (hg : z_gsL g F) : z_gsL (gL_n0 g) F := by
  intro x y i j w h1 h2 h3 h4 h
  unfold gL_n0 at h
  cases e : z_n0 j with
  | false => rw [e] at h; cases h
  | true => rw [e] at h; exact hg x y i j w h1 h2 h3 h4 h
/-! arithmetic -/
theorem bmodL_id {z : Int} (h1 : -9223372036854775808 ≤ z) (h2 : z ≤ 9223372036854775807) : z.bmod (2 ^ 64) = z := by
  apply Int.bmod_eq_of_le <;> omega
def z_inR (V : VS) (f : FM) (lo hi : Int) : Bool := z_and (f_ge V f lo) (f_le V f hi)
theorem z_inRI {ν : Nat → Int} {V : VS} {f : FM} {lo hi : Int} (hs : z_sat ν V) (h : z_inR V f lo hi = true) : lo ≤ f_evm ν f ∧ f_evm ν f ≤ hi := ⟨f_ge_ok hs (z_andI h).1, f_le_ok hs (z_andI h).2⟩
def z_push (t : Nat) (np : Nat) (loc : List (Nat × AV)) (stk : List AV) (q : AV × VS) (h : T2 AC) (n sl : Nat) : ZR := some ([(np, loc, q.1 :: stk, q.2, h, n, sl)], [])
def z_res (t : Nat) (lo hi : Int) (V : VS) (r : FM) : AV × VS := match z_inR V r lo hi with
  | true => ((t, 0, r.1, 0, r.2), V)
  | false => z_fr t V (lo, hi)
def z_lin (op : Nat) (x y : FM) : FM := match op with
  | 0 => f_add x y
  | _ => f_sub x y
def h_lin (op np : Nat) : ZH := fun _ loc stk V h n sl => z_bd (z_p1 stk) fun a => z_bd (z_p1 a.2) fun d => z_if (z_and (z_isI a.1) (z_isI d.1)) (z_push 0 np loc d.2 (z_res 0 z_mn z_mx V (z_lin op (z_fm2 d.1) (z_fm2 a.1))) h n sl)
def h_linL (op np : Nat) : ZH := fun _ loc stk V h n sl => z_bd (z_p1 stk) fun a => z_bd (z_p1 a.2) fun d => z_if (z_and (z_isL a.1) (z_isL d.1)) (z_push 0 np loc d.2 (z_res 2 z_mnL z_mxL V (z_lin op (z_fm2 d.1) (z_fm2 a.1))) h n sl)
/-- products: by a number that is one, else by bounds -/
def z_mulF (t : Nat) (lo hi : Int) (V : VS) (x y : FM) : Option (AV × VS) := z_bd (f_bd V x) fun i => z_bd (f_bd V y) fun j => match z_one j with
  | true => some (z_res t lo hi V (f_sc j.1 x))
  | false => match z_one i with
    | true => some (z_res t lo hi V (f_sc i.1 y))
    | false => match z_and (z_and (z_le 0 i.1) (z_le 0 j.1)) (z_le (Int.mul i.2 j.2) hi) with
      | true => some (z_fr t V (Int.mul i.1 j.1, Int.mul i.2 j.2))
      | false => some (z_fr t V (lo, hi))
def h_mul (np : Nat) : ZH := fun _ loc stk V h n sl => z_bd (z_p1 stk) fun a => z_bd (z_p1 a.2) fun d => z_if (z_and (z_isI a.1) (z_isI d.1)) (z_bd (z_mulF 0 z_mn z_mx V (z_fm2 d.1) (z_fm2 a.1)) fun q => z_push 0 np loc d.2 q h n sl)
def h_mulL (np : Nat) : ZH := fun _ loc stk V h n sl => z_bd (z_p1 stk) fun a => z_bd (z_p1 a.2) fun d => z_if (z_and (z_isL a.1) (z_isL d.1)) (z_bd (z_mulF 2 z_mnL z_mxL V (z_fm2 d.1) (z_fm2 a.1)) fun q => z_push 0 np loc d.2 q h n sl)
def h_bin (g : Int × Int → Int × Int → Option (Int × Int)) (np : Nat) : ZH := fun _ loc stk V h n sl => z_bd (z_p1 stk) fun a => z_bd (z_p1 a.2) fun d => z_if (z_and (z_isI a.1) (z_isI d.1)) (z_bd (f_bd V (z_fm2 d.1)) fun i => z_bd (f_bd V (z_fm2 a.1)) fun j => z_bd (g i j) fun w => z_push 0 np loc d.2 (z_fr 0 V w) h n sl)
def h_binL (g : Int × Int → Int × Int → Option (Int × Int)) (np : Nat) : ZH := fun _ loc stk V h n sl => z_bd (z_p1 stk) fun a => z_bd (z_p1 a.2) fun d => z_if (z_and (z_isL a.1) (z_isL d.1)) (z_bd (f_bd V (z_fm2 d.1)) fun i => z_bd (f_bd V (z_fm2 a.1)) fun j => z_bd (g i j) fun w => z_push 0 np loc d.2 (z_fr 2 V w) h n sl)
section Y3
variable {S : List ZT} {ms : List ZM} {D : va_G} {K : Nat → ClassId} {β : ZB} {p : Program} {l : Launch} {e : Env} {R : Room} {s : State} {m : MethodId} {args : Array Value} {below : List Frame} {meth : Method} {c : Code} {Q : State → Prop} {σ0 : Nat → va_E} {ν0 : Nat → Int} {nv0 k0 nL : Nat} {E : ZE} {own mn : String} {cc : ByteArray} {loc : List (Nat × AV)} {stk : List AV} {V : VS} {h : T2 AC} {n sl : Nat} {res : List ZS × List ZO} {ν : Nat → Int} {σ : Nat → va_E} {H : Heap} {locs : List Loc} {ls : Array Slot} {vs : List Value} {pc np : Nat}
/-- names added, a value pushed -/
theorem z_Pn {ν' : Nat → Int} {V' : VS} {stk' : List AV} {vs' : List Value} (P : z_P D K β s σ0 ν0 nv0 k0 nL loc stk V h n ν σ H locs ls vs) (e1 : ∀ i, i < z_len V.1 → ν' i = ν i) (e2 : z_len V.1 ≤ z_len V'.1) (e3 : z_sat ν' V') (q : z_fm (z_mt ν' (z_len V'.1) β) stk' vs') : z_P D K β s σ0 ν0 nv0 k0 nL loc stk' V' h n ν' σ H locs ls vs' :=
  ⟨fun i hi => (e1 i (Nat.lt_of_lt_of_le hi P.2.1)).trans (P.1 i hi), Nat.le_trans P.2.1 e2, P.2.2.1, e3, z_hm_ext e1 e2 P.2.2.2.2.1, z_lm_ext e1 e2 P.2.2.2.2.2.1, q, P.2.2.2.2.2.2.2⟩
/-- what a handler's new value is, an int -/
def z_gv (ν : Nat → Int) (β : ZB) (V : VS) (q : AV × VS) (v : Value) : Prop := ∃ ν' : Nat → Int, (∀ i, i < z_len V.1 → ν' i = ν i) ∧ z_len V.1 ≤ z_len q.2.1 ∧ z_sat ν' q.2 ∧ z_mt ν' (z_len q.2.1) β q.1 v
theorem z_resI {lo hi : Int} {r : FM} {x : Int32} (hs : z_sat ν V) (hw : f_wf (z_len V.1) r.2) (hl : lo ≤ x.toInt) (hh : x.toInt ≤ hi) (h : lo ≤ f_evm ν r → f_evm ν r ≤ hi → x.toInt = f_evm ν r) : z_gv ν β V (z_res 0 lo hi V r) (.int x) := by
  unfold z_res
  cases hr : z_inR V r lo hi with
  | true =>
    have := z_inRI hs hr
    exact ⟨ν, fun _ _ => rfl, Nat.le_refl _, hs, z_mkI hw (h this.1 this.2)⟩
  | false => exact z_frI hs hl hh
theorem z_resL {lo hi : Int} {r : FM} {x : Int64} (hs : z_sat ν V) (hw : f_wf (z_len V.1) r.2) (hl : lo ≤ x.toInt) (hh : x.toInt ≤ hi) (h : lo ≤ f_evm ν r → f_evm ν r ≤ hi → x.toInt = f_evm ν r) : z_gv ν β V (z_res 2 lo hi V r) (.long x) := by
  unfold z_res
  cases hr : z_inR V r lo hi with
  | true =>
    have := z_inRI hs hr
    exact ⟨ν, fun _ _ => rfl, Nat.le_refl _, hs, z_mkL hw (h this.1 this.2)⟩
  | false => exact z_frL hs hl hh
theorem z_pushI {t : Nat} {q : AV × VS} {stk' : List AV} {v : Value} {rest : List Value} (hr : z_push t np loc stk' q h n sl = some res) (hS : ∀ st ∈ res.1, z_W D K β p l e R s m args below meth c Q σ0 ν0 nv0 k0 nL st) (P : z_P D K β s σ0 ν0 nv0 k0 nL loc stk V h n ν σ H locs ls vs) (hrest : z_fm (z_mt ν (z_len V.1) β) stk' rest) (hv : z_gv ν β V q v) : W p l e R s m args below meth c H locs (n - k0) sl Q (F0 m np ls (v :: rest)) := by
  cases hr
  obtain ⟨ν', e1, e2, e3, e4⟩ := hv
  exact hS _ List.mem_cons_self ν' σ H locs ls (v :: rest) (z_Pn P e1 e2 e3 ⟨e4, z_fm_mono (fun _ _ => z_mt_ext e1 e2) hrest⟩)
/-- two ints on the stack -/
theorem z_two {a d : AV × List AV} (P : z_P D K β s σ0 ν0 nv0 k0 nL loc stk V h n ν σ H locs ls vs) (ha : z_p1 stk = some a) (hd : z_p1 a.2 = some d) (hk : z_and (z_isI a.1) (z_isI d.1) = true) : ∃ (x y : Int32) (rest : List Value), vs = .int y :: .int x :: rest ∧ f_wf (z_len V.1) (z_fm2 d.1).2 ∧ f_wf (z_len V.1) (z_fm2 a.1).2 ∧ x.toInt = f_evm ν (z_fm2 d.1) ∧ y.toInt = f_evm ν (z_fm2 a.1) ∧ z_fm (z_mt ν (z_len V.1) β) d.2 rest := by
  obtain ⟨hka, hkd⟩ := z_andI hk
  have p7 := P.2.2.2.2.2.2.1
  rw [z_p1I ha, z_p1I hd] at p7
  obtain ⟨vy, r1, rfl, q1, q2⟩ := z_fm_cons p7
  obtain ⟨vx, rest, rfl, q3, q4⟩ := z_fm_cons q2
  obtain ⟨wy, y, rfl, hy⟩ := z_mt_i q1 hka
  obtain ⟨wx, x, rfl, hx⟩ := z_mt_i q3 hkd
  exact ⟨x, y, rest, rfl, wx, wy, hx, hy, q4⟩
theorem z_twoL {a d : AV × List AV} (P : z_P D K β s σ0 ν0 nv0 k0 nL loc stk V h n ν σ H locs ls vs) (ha : z_p1 stk = some a) (hd : z_p1 a.2 = some d) (hk : z_and (z_isL a.1) (z_isL d.1) = true) : ∃ (x y : Int64) (rest : List Value), vs = .long y :: .long x :: rest ∧ f_wf (z_len V.1) (z_fm2 d.1).2 ∧ f_wf (z_len V.1) (z_fm2 a.1).2 ∧ x.toInt = f_evm ν (z_fm2 d.1) ∧ y.toInt = f_evm ν (z_fm2 a.1) ∧ z_fm (z_mt ν (z_len V.1) β) d.2 rest := by
  obtain ⟨hka, hkd⟩ := z_andI hk
  have p7 := P.2.2.2.2.2.2.1
  rw [z_p1I ha, z_p1I hd] at p7
  obtain ⟨vy, r1, rfl, q1, q2⟩ := z_fm_cons p7
  obtain ⟨vx, rest, rfl, q3, q4⟩ := z_fm_cons q2
  obtain ⟨wy, y, rfl, hy⟩ := z_mt_l q1 hka
  obtain ⟨wx, x, rfl, hx⟩ := z_mt_l q3 hkd
  exact ⟨x, y, rest, rfl, wx, wy, hx, hy, q4⟩
theorem z_linI {op : Nat} {F : Int32 → Int32 → Int32} (hF : ∀ x y : Int32, (F x y).toInt = (match op with | 0 => x.toInt + y.toInt | _ => x.toInt - y.toInt).bmod (2 ^ 32)) (hr : h_lin op np E loc stk V h n sl = some res) (hS : ∀ st ∈ res.1, z_W D K β p l e R s m args below meth c Q σ0 ν0 nv0 k0 nL st) (P : z_P D K β s σ0 ν0 nv0 k0 nL loc stk V h n ν σ H locs ls vs) : ∃ (x y : Int32) (rest : List Value), vs = .int y :: .int x :: rest ∧ W p l e R s m args below meth c H locs (n - k0) sl Q (F0 m np ls (.int (F x y) :: rest)) := by
  obtain ⟨a, ha, hr⟩ := z_bdI hr
  obtain ⟨d, hd, hr⟩ := z_bdI hr
  obtain ⟨hk, hr⟩ := z_ifI hr
  obtain ⟨x, y, rest, rfl, wx, wy, hx, hy, q4⟩ := z_two P ha hd hk
  refine ⟨x, y, rest, rfl, z_pushI hr hS P q4 (z_resI P.2.2.2.1 ?_ (z_mn_le _) (z_mx_le _) (fun h1 h2 => ?_))⟩
  · match op with
    | 0 => exact f_wf_add wx wy
    | _ + 1 => exact f_wf_sub wx wy
  · rw [hF]
    have h1 : (-2147483648 : Int) ≤ _ := h1
    have h2 : _ ≤ (2147483647 : Int) := h2
    match op, h1, h2 with
    | 0, h1, h2 =>
      have e : f_evm ν (z_lin 0 (z_fm2 d.1) (z_fm2 a.1)) = x.toInt + y.toInt := by rw [hx, hy]; exact f_add_ev
      rw [e] at h1 h2 ⊢
      exact bmod_id h1 h2
    | k + 1, h1, h2 =>
      have e : f_evm ν (z_lin (k + 1) (z_fm2 d.1) (z_fm2 a.1)) = x.toInt - y.toInt := by rw [hx, hy]; exact f_sub_ev
      rw [e] at h1 h2 ⊢
      exact bmod_id h1 h2
theorem z_linLI {op : Nat} {F : Int64 → Int64 → Int64} (hF : ∀ x y : Int64, (F x y).toInt = (match op with | 0 => x.toInt + y.toInt | _ => x.toInt - y.toInt).bmod (2 ^ 64)) (hr : h_linL op np E loc stk V h n sl = some res) (hS : ∀ st ∈ res.1, z_W D K β p l e R s m args below meth c Q σ0 ν0 nv0 k0 nL st) (P : z_P D K β s σ0 ν0 nv0 k0 nL loc stk V h n ν σ H locs ls vs) : ∃ (x y : Int64) (rest : List Value), vs = .long y :: .long x :: rest ∧ W p l e R s m args below meth c H locs (n - k0) sl Q (F0 m np ls (.long (F x y) :: rest)) := by
  obtain ⟨a, ha, hr⟩ := z_bdI hr
  obtain ⟨d, hd, hr⟩ := z_bdI hr
  obtain ⟨hk, hr⟩ := z_ifI hr
  obtain ⟨x, y, rest, rfl, wx, wy, hx, hy, q4⟩ := z_twoL P ha hd hk
  refine ⟨x, y, rest, rfl, z_pushI hr hS P q4 (z_resL P.2.2.2.1 ?_ (z_mnL_le _) (z_mxL_le _) (fun h1 h2 => ?_))⟩
  · match op with
    | 0 => exact f_wf_add wx wy
    | _ + 1 => exact f_wf_sub wx wy
  · rw [hF]
    have h1 : (-9223372036854775808 : Int) ≤ _ := h1
    have h2 : _ ≤ (9223372036854775807 : Int) := h2
    match op, h1, h2 with
    | 0, h1, h2 =>
      have e : f_evm ν (z_lin 0 (z_fm2 d.1) (z_fm2 a.1)) = x.toInt + y.toInt := by rw [hx, hy]; exact f_add_ev
      rw [e] at h1 h2 ⊢
      exact bmodL_id h1 h2
    | k + 1, h1, h2 =>
      have e : f_evm ν (z_lin (k + 1) (z_fm2 d.1) (z_fm2 a.1)) = x.toInt - y.toInt := by rw [hx, hy]; exact f_sub_ev
      rw [e] at h1 h2 ⊢
      exact bmodL_id h1 h2
theorem z_binI {g : Int × Int → Int × Int → Option (Int × Int)} {F : Int32 → Int32 → Int32} (hg : z_gs g F) (hr : h_bin g np E loc stk V h n sl = some res) (hS : ∀ st ∈ res.1, z_W D K β p l e R s m args below meth c Q σ0 ν0 nv0 k0 nL st) (P : z_P D K β s σ0 ν0 nv0 k0 nL loc stk V h n ν σ H locs ls vs) : ∃ (x y : Int32) (rest : List Value) (i j w : Int × Int), vs = .int y :: .int x :: rest ∧ j.1 ≤ y.toInt ∧ y.toInt ≤ j.2 ∧ g i j = some w ∧ W p l e R s m args below meth c H locs (n - k0) sl Q (F0 m np ls (.int (F x y) :: rest)) := by
  obtain ⟨a, ha, hr⟩ := z_bdI hr
  obtain ⟨d, hd, hr⟩ := z_bdI hr
  obtain ⟨hk, hr⟩ := z_ifI hr
  obtain ⟨i, hi, hr⟩ := z_bdI hr
  obtain ⟨j, hj, hr⟩ := z_bdI hr
  obtain ⟨w, hw', hr⟩ := z_bdI hr
  obtain ⟨x, y, rest, rfl, wx, wy, hx, hy, q4⟩ := z_two P ha hd hk
  have bx := f_bd_ok P.2.2.2.1 hi
  have by' := f_bd_ok P.2.2.2.1 hj
  rw [← hx] at bx
  rw [← hy] at by'
  have hz := hg x y i j w bx.1 bx.2 by'.1 by'.2 hw'
  exact ⟨x, y, rest, i, j, w, rfl, by'.1, by'.2, hw', z_pushI hr hS P q4 (z_frI P.2.2.2.1 hz.1 hz.2)⟩
theorem z_binLI {g : Int × Int → Int × Int → Option (Int × Int)} {F : Int64 → Int64 → Int64} (hg : z_gsL g F) (hr : h_binL g np E loc stk V h n sl = some res) (hS : ∀ st ∈ res.1, z_W D K β p l e R s m args below meth c Q σ0 ν0 nv0 k0 nL st) (P : z_P D K β s σ0 ν0 nv0 k0 nL loc stk V h n ν σ H locs ls vs) : ∃ (x y : Int64) (rest : List Value) (i j w : Int × Int), vs = .long y :: .long x :: rest ∧ j.1 ≤ y.toInt ∧ y.toInt ≤ j.2 ∧ g i j = some w ∧ W p l e R s m args below meth c H locs (n - k0) sl Q (F0 m np ls (.long (F x y) :: rest)) := by
  obtain ⟨a, ha, hr⟩ := z_bdI hr
  obtain ⟨d, hd, hr⟩ := z_bdI hr
  obtain ⟨hk, hr⟩ := z_ifI hr
  obtain ⟨i, hi, hr⟩ := z_bdI hr
  obtain ⟨j, hj, hr⟩ := z_bdI hr
  obtain ⟨w, hw', hr⟩ := z_bdI hr
  obtain ⟨x, y, rest, rfl, wx, wy, hx, hy, q4⟩ := z_twoL P ha hd hk
  have bx := f_bd_ok P.2.2.2.1 hi
  have by' := f_bd_ok P.2.2.2.1 hj
  rw [← hx] at bx
  rw [← hy] at by'
  have hz := hg x y i j w bx.1 bx.2 by'.1 by'.2 hw'
  exact ⟨x, y, rest, i, j, w, rfl, by'.1, by'.2, hw', z_pushI hr hS P q4 (z_frL P.2.2.2.1 hz.1 hz.2)⟩
theorem z_mulI (hr : h_mul np E loc stk V h n sl = some res) (hS : ∀ st ∈ res.1, z_W D K β p l e R s m args below meth c Q σ0 ν0 nv0 k0 nL st) (P : z_P D K β s σ0 ν0 nv0 k0 nL loc stk V h n ν σ H locs ls vs) : ∃ (x y : Int32) (rest : List Value), vs = .int y :: .int x :: rest ∧ W p l e R s m args below meth c H locs (n - k0) sl Q (F0 m np ls (.int (x * y) :: rest)) := by
  obtain ⟨a, ha, hr⟩ := z_bdI hr
  obtain ⟨d, hd, hr⟩ := z_bdI hr
  obtain ⟨hk, hr⟩ := z_ifI hr
  obtain ⟨q, hq, hr⟩ := z_bdI hr
  obtain ⟨x, y, rest, rfl, wx, wy, hx, hy, q4⟩ := z_two P ha hd hk
  refine ⟨x, y, rest, rfl, z_pushI hr hS P q4 ?_⟩
  obtain ⟨i, hi, hq⟩ := z_bdI hq
  obtain ⟨j, hj, hq⟩ := z_bdI hq
  have bx := f_bd_ok P.2.2.2.1 hi
  have by' := f_bd_ok P.2.2.2.1 hj
  rw [← hx] at bx
  rw [← hy] at by'
  cases h1 : z_one j with
  | true =>
    rw [h1] at hq
    cases hq
    have := z_le_iff.mp h1
    have ey : j.1 = y.toInt := by omega
    refine z_resI P.2.2.2.1 (f_wf_sc wx) (z_mn_le _) (z_mx_le _) (fun g1 g2 => ?_)
    rw [f_sc_ev, ← hx, ey] at *
    rw [Int32.toInt_mul, Int.mul_comm]
    exact bmod_id g1 g2
  | false =>
    rw [h1] at hq
    simp only at hq
    cases h2 : z_one i with
    | true =>
      rw [h2] at hq
      cases hq
      have := z_le_iff.mp h2
      have ex : i.1 = x.toInt := by omega
      refine z_resI P.2.2.2.1 (f_wf_sc wy) (z_mn_le _) (z_mx_le _) (fun g1 g2 => ?_)
      rw [f_sc_ev, ← hy, ex] at *
      rw [Int32.toInt_mul]
      exact bmod_id g1 g2
    | false =>
      rw [h2] at hq
      simp only at hq
      cases h3 : z_and (z_and (z_le 0 i.1) (z_le 0 j.1)) (z_le (Int.mul i.2 j.2) z_mx) with
      | true =>
        rw [h3] at hq
        cases hq
        obtain ⟨g1, g2⟩ := z_andI h3
        obtain ⟨g0, g1⟩ := z_andI g1
        have g0 := z_le_iff.mp g0
        have g1 := z_le_iff.mp g1
        have g2 : i.2 * j.2 ≤ (2147483647 : Int) := z_le_iff.mp g2
        have m1 : i.1 * j.1 ≤ x.toInt * y.toInt := Int.mul_le_mul bx.1 by'.1 g1 (by omega)
        have m2 : x.toInt * y.toInt ≤ i.2 * j.2 := Int.mul_le_mul bx.2 by'.2 (by omega) (by omega)
        have m0 : 0 ≤ i.1 * j.1 := Int.mul_nonneg g0 g1
        have e : (x * y).toInt = x.toInt * y.toInt := by rw [Int32.toInt_mul]; exact bmod_id (by omega) (by omega)
        exact z_frI P.2.2.2.1 (by rw [e]; exact m1) (by rw [e]; exact m2)
      | false =>
        rw [h3] at hq
        cases hq
        exact z_frI P.2.2.2.1 (z_mn_le _) (z_mx_le _)
theorem z_mulLI (hr : h_mulL np E loc stk V h n sl = some res) (hS : ∀ st ∈ res.1, z_W D K β p l e R s m args below meth c Q σ0 ν0 nv0 k0 nL st) (P : z_P D K β s σ0 ν0 nv0 k0 nL loc stk V h n ν σ H locs ls vs) : ∃ (x y : Int64) (rest : List Value), vs = .long y :: .long x :: rest ∧ W p l e R s m args below meth c H locs (n - k0) sl Q (F0 m np ls (.long (x * y) :: rest)) := by
  obtain ⟨a, ha, hr⟩ := z_bdI hr
  obtain ⟨d, hd, hr⟩ := z_bdI hr
  obtain ⟨hk, hr⟩ := z_ifI hr
  obtain ⟨q, hq, hr⟩ := z_bdI hr
  obtain ⟨x, y, rest, rfl, wx, wy, hx, hy, q4⟩ := z_twoL P ha hd hk
  refine ⟨x, y, rest, rfl, z_pushI hr hS P q4 ?_⟩
  obtain ⟨i, hi, hq⟩ := z_bdI hq
  obtain ⟨j, hj, hq⟩ := z_bdI hq
  have bx := f_bd_ok P.2.2.2.1 hi
  have by' := f_bd_ok P.2.2.2.1 hj
  rw [← hx] at bx
  rw [← hy] at by'
  cases h1 : z_one j with
  | true =>
    rw [h1] at hq
    cases hq
    have := z_le_iff.mp h1
    have ey : j.1 = y.toInt := by omega
    refine z_resL P.2.2.2.1 (f_wf_sc wx) (z_mnL_le _) (z_mxL_le _) (fun g1 g2 => ?_)
    rw [f_sc_ev, ← hx, ey] at *
    rw [Int64.toInt_mul, Int.mul_comm]
    have g1 : (-9223372036854775808 : Int) ≤ _ := g1
    have g2 : _ ≤ (9223372036854775807 : Int) := g2
    exact Int.bmod_eq_of_le (by omega) (by omega)
  | false =>
    rw [h1] at hq
    simp only at hq
    cases h2 : z_one i with
    | true =>
      rw [h2] at hq
      cases hq
      have := z_le_iff.mp h2
      have ex : i.1 = x.toInt := by omega
      refine z_resL P.2.2.2.1 (f_wf_sc wy) (z_mnL_le _) (z_mxL_le _) (fun g1 g2 => ?_)
      rw [f_sc_ev, ← hy, ex] at *
      rw [Int64.toInt_mul]
      have g1 : (-9223372036854775808 : Int) ≤ _ := g1
      have g2 : _ ≤ (9223372036854775807 : Int) := g2
      exact Int.bmod_eq_of_le (by omega) (by omega)
    | false =>
      rw [h2] at hq
      simp only at hq
      cases h3 : z_and (z_and (z_le 0 i.1) (z_le 0 j.1)) (z_le (Int.mul i.2 j.2) z_mxL) with
      | true =>
        rw [h3] at hq
        cases hq
        obtain ⟨g1, g2⟩ := z_andI h3
        obtain ⟨g0, g1⟩ := z_andI g1
        have g0 := z_le_iff.mp g0
        have g1 := z_le_iff.mp g1
        have g2 : i.2 * j.2 ≤ (9223372036854775807 : Int) := z_le_iff.mp g2
        have m1 : i.1 * j.1 ≤ x.toInt * y.toInt := Int.mul_le_mul bx.1 by'.1 g1 (by omega)
        have m2 : x.toInt * y.toInt ≤ i.2 * j.2 := Int.mul_le_mul bx.2 by'.2 (by omega) (by omega)
        have m0 : 0 ≤ i.1 * j.1 := Int.mul_nonneg g0 g1
        have e : (x * y).toInt = x.toInt * y.toInt := by rw [Int64.toInt_mul]; exact Int.bmod_eq_of_le (by omega) (by omega)
        exact z_frL P.2.2.2.1 (by rw [e]; exact m1) (by rw [e]; exact m2)
      | false =>
        rw [h3] at hq
        cases hq
        exact z_frL P.2.2.2.1 (z_mnL_le _) (z_mxL_le _)
end Y3
