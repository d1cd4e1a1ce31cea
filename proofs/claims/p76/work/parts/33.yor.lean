/-! the table of methods; rules for or, and for a fixed number with one of few others -/
def z_gl (S : List ZT) (ms : List ZM) : Nat → List ZP → Prop
  | _, [] => True
  | q, M :: l => z_good S ms q M ∧ z_gl S ms (q + 1) l
def z_gl2 (S : List ZT) (ms : List ZM) : Nat → T2 ZP → Prop
  | _, [] => True
  | k, r :: l => z_gl S ms (16 * k) r ∧ z_gl2 S ms (k + 1) l
theorem z_glI {S : List ZT} {ms : List ZM} {q i : Nat} {l : List ZP} {M : ZP} (h : z_gl S ms q l) (hf : z_nth l i = some M) : z_good S ms (q + i) M := by
  induction l generalizing q i with
  | nil => cases hf
  | cons g l ih => cases i with
    | zero => cases hf; exact h.1
    | succ i => have := ih h.2 hf; rwa [show q + 1 + i = q + (i + 1) by omega] at this
theorem z_gl2I {S : List ZT} {ms : List ZM} {k i : Nat} {t : T2 ZP} {r : List ZP} (h : z_gl2 S ms k t) (hf : z_nth t i = some r) : z_gl S ms (16 * (k + i)) r := by
  induction t generalizing k i with
  | nil => cases hf
  | cons g l ih => cases i with
    | zero => cases hf; exact h.1
    | succ i => have := ih h.2 hf; rwa [show k + 1 + i = k + (i + 1) by omega] at this
theorem z_glG {S : List ZT} {ms : List ZM} {P : T2 ZP} (h : z_gl2 S ms 0 P) (q : Nat) (M : ZP) (hf : z_g2 P q = some M) : z_good S ms q M := by
  unfold z_g2 at hf
  cases hr : z_nth P (Nat.div q 16) with
  | none => rw [hr] at hf; cases hf
  | some r =>
    rw [hr] at hf
    have := z_glI (z_gl2I h hr) hf
    rwa [show 16 * (0 + Nat.div q 16) + Nat.mod q 16 = q by show 16 * (0 + q / 16) + q % 16 = q; omega] at this
theorem nn_msb {y : Int32} (h : 0 ≤ y.toInt) : y.toBitVec.msb = false := by
  rw [← Int32.toInt_toBitVec] at h
  exact (BitVec.msb_eq_false_iff_two_mul_lt).mpr (by
    by_cases g : 2 * y.toBitVec.toNat < 2 ^ 32
    · exact g
    · rw [BitVec.toInt_eq_toNat_cond, if_neg g] at h
      have := y.toBitVec.isLt
      omega)
theorem or_nn {x y : Int32} (hx : 0 ≤ x.toInt) (hy : 0 ≤ y.toInt) {n : Nat} (h1 : x.toInt < ((2 ^ n : Nat) : Int)) (h2 : y.toInt < ((2 ^ n : Nat) : Int)) : 0 ≤ (x ||| y).toInt ∧ (x ||| y).toInt < ((2 ^ n : Nat) : Int) := by
  have mx := nn_msb hx
  have my := nn_msb hy
  have hz : (x ||| y).toBitVec.msb = false := by rw [Int32.toBitVec_or, BitVec.msb_or, mx, my]; rfl
  rw [← Int32.toInt_toBitVec, BitVec.toInt_eq_toNat_of_msb mx] at h1
  rw [← Int32.toInt_toBitVec, BitVec.toInt_eq_toNat_of_msb my] at h2
  rw [← Int32.toInt_toBitVec, BitVec.toInt_eq_toNat_of_msb hz]
  refine ⟨Int.natCast_nonneg _, ?_⟩
  rw [Int32.toBitVec_or, BitVec.toNat_or]
  exact Int.ofNat_lt.mpr (Nat.or_lt_two_pow (Int.ofNat_lt.mp h1) (Int.ofNat_lt.mp h2))
/-- the smallest of some powers of 2 above both -/
def z_pow (b : Int) : List Nat → Option Nat
  | [] => none
  | n :: l => match z_le (Int.add b 1) (Int.ofNat (Nat.pow 2 n)) with
    | true => some n
    | false => z_pow b l
theorem z_powI {b : Int} {l : List Nat} {n : Nat} (h : z_pow b l = some n) : b < ((2 ^ n : Nat) : Int) := by
  induction l with
  | nil => cases h
  | cons m l ih =>
    unfold z_pow at h
    cases e : z_le (Int.add b 1) (Int.ofNat (Nat.pow 2 m)) with
    | true =>
      rw [e] at h
      cases h
      have e : b + 1 ≤ ((2 ^ n : Nat) : Int) := z_le_iff.mp e
      omega
    | false => rw [e] at h; exact ih h
def g_or0 (i j : Int × Int) : Option (Int × Int) := match z_and (z_le 0 i.1) (z_le 0 j.1) with
  | true => match z_pow (z_max i.2 j.2) [1, 2, 3, 4, 5, 6, 7, 8, 10, 12, 16, 20, 24, 31] with
    | some n => some (0, Int.add (Int.ofNat (Nat.pow 2 n)) (-1))
    | none => some (z_mn, z_mx)
  | false => some (z_mn, z_mx)
theorem g_or0_ok : z_gs g_or0 (fun x y => x ||| y) := by
  intro x y i j w h1 h2 h3 h4 h
  unfold g_or0 at h
  cases e : z_and (z_le 0 i.1) (z_le 0 j.1) with
  | false => rw [e] at h; cases h; exact ⟨z_mn_le _, z_mx_le _⟩
  | true =>
    rw [e] at h
    obtain ⟨a1, a2⟩ := z_andI e
    have a1 := z_le_iff.mp a1
    have a2 := z_le_iff.mp a2
    simp only at h
    cases hp : z_pow (z_max i.2 j.2) [1, 2, 3, 4, 5, 6, 7, 8, 10, 12, 16, 20, 24, 31] with
    | none => rw [hp] at h; cases h; exact ⟨z_mn_le _, z_mx_le _⟩
    | some n =>
      rw [hp] at h
      cases h
      have b := z_powI hp
      have b1 := z_max_le (a := i.2) (b := j.2)
      have r := or_nn (x := x) (y := y) (n := n) (by omega) (by omega) (by omega) (by omega)
      refine ⟨r.1, ?_⟩
      show (x ||| y).toInt ≤ ((2 ^ n : Nat) : Int) + (-1)
      have := r.2
      omega
def g_or2 : Int × Int → Int × Int → Option (Int × Int) := g_ex (fun x y => x ||| y) g_or0
theorem g_or2_ok : z_gs g_or2 (fun x y => x ||| y) := g_ex_ok g_or0_ok
/-- a fixed number on the left, one of few on the right: all are tried -/
def z_enu (F : Int32 → Int32 → Int32) (a : Int) : Int → Nat → Option (Int × Int)
  | _, 0 => none
  | k, c + 1 => match (F (Int32.ofInt a) (Int32.ofInt k)).toInt with
    | v => match c with
      | 0 => some (v, v)
      | _ + 1 => z_bd (z_enu F a (Int.add k 1) c) fun w => some (z_min v w.1, z_max v w.2)
theorem z_enu_ok {F : Int32 → Int32 → Int32} {a k : Int} {c : Nat} {w : Int × Int} (h : z_enu F a k c = some w) {z : Int} (h1 : k ≤ z) (h2 : z < k + c) : w.1 ≤ (F (Int32.ofInt a) (Int32.ofInt z)).toInt ∧ (F (Int32.ofInt a) (Int32.ofInt z)).toInt ≤ w.2 := by
  induction c generalizing k w with
  | zero => cases h
  | succ c ih =>
    cases c with
    | zero =>
      cases h
      have : z = k := by omega
      subst this
      exact ⟨Int.le_refl _, Int.le_refl _⟩
    | succ c =>
      obtain ⟨q, hq, h⟩ := z_bdI h
      cases h
      by_cases e : z = k
      · subst e
        exact ⟨z_min_le.1, z_max_le.1⟩
      · have := ih hq (by show k + 1 ≤ z; omega) (by show z < k + 1 + ((c + 1 : Nat) : Int); omega)
        exact ⟨Int.le_trans z_min_le.2.1 this.1, Int.le_trans this.2 z_max_le.2.1⟩
def g_enu (F : Int32 → Int32 → Int32) (g : Int × Int → Int × Int → Option (Int × Int)) (i j : Int × Int) : Option (Int × Int) := match z_and (z_one i) (z_le (Int.add j.2 (Int.mul (-1) j.1)) 40) with
  | true => z_enu F i.1 j.1 (Int.toNat (Int.add (Int.add j.2 (Int.mul (-1) j.1)) 1))
  | false => g i j
theorem g_enu_ok {F : Int32 → Int32 → Int32} {g : Int × Int → Int × Int → Option (Int × Int)} (hg : z_gs g F) : z_gs (g_enu F g) F := by
  intro x y i j w h1 h2 h3 h4 h
  unfold g_enu at h
  cases e : z_and (z_one i) (z_le (Int.add j.2 (Int.mul (-1) j.1)) 40) with
  | false => rw [e] at h; exact hg x y i j w h1 h2 h3 h4 h
  | true =>
    rw [e] at h
    obtain ⟨a1, -⟩ := z_andI e
    have := z_enu_ok h (z := y.toInt) h3 (by show y.toInt < j.1 + ((Int.toNat (j.2 + -1 * j.1 + 1) : Nat) : Int); omega)
    rw [z_oneI a1 h1 h2, Int32.ofInt_toInt] at this
    exact this
def g_shl2 : Int × Int → Int × Int → Option (Int × Int) := g_enu (fun x y => x <<< (y &&& 31)) g_any
theorem g_shl2_ok : z_gs g_shl2 (fun x y => x <<< (y &&& 31)) := g_enu_ok g_any_ok
