/-! numbers in bounds -/
def rg (x : Int32) (lo hi : Int) : Prop := lo ≤ x.toInt ∧ x.toInt ≤ hi
theorem rg_any (x : Int32) : rg x (-2147483648) 2147483647 := ⟨x.le_toInt, by have := x.toInt_lt; omega⟩
theorem rg_le {x : Int32} {a b c d : Int} (h : rg x a b) (g : c ≤ a ∧ b ≤ d) : rg x c d := ⟨Int.le_trans g.1 h.1, Int.le_trans h.2 g.2⟩
theorem bmod_id {z : Int} (h1 : -2147483648 ≤ z) (h2 : z ≤ 2147483647) : z.bmod (2 ^ 32) = z := by
  apply Int.bmod_eq_of_le <;> omega
theorem toInt_add {x y : Int32} (h1 : -2147483648 ≤ x.toInt + y.toInt) (h2 : x.toInt + y.toInt ≤ 2147483647) : (x + y).toInt = x.toInt + y.toInt := by rw [Int32.toInt_add]; exact bmod_id h1 h2
theorem toInt_sub {x y : Int32} (h1 : -2147483648 ≤ x.toInt - y.toInt) (h2 : x.toInt - y.toInt ≤ 2147483647) : (x - y).toInt = x.toInt - y.toInt := by rw [Int32.toInt_sub]; exact bmod_id h1 h2
theorem toInt_mul {x y : Int32} (h1 : -2147483648 ≤ x.toInt * y.toInt) (h2 : x.toInt * y.toInt ≤ 2147483647) : (x * y).toInt = x.toInt * y.toInt := by rw [Int32.toInt_mul]; exact bmod_id h1 h2
theorem rg_add {x y : Int32} {a b c d : Int} (h : rg x a b) (k : rg y c d) (lo hi : Int) (g : -2147483648 ≤ a + c ∧ b + d ≤ 2147483647 ∧ lo ≤ a + c ∧ b + d ≤ hi) : rg (x + y) lo hi := by
  obtain ⟨h1, h2⟩ := h
  obtain ⟨k1, k2⟩ := k
  unfold rg
  rw [toInt_add (by omega) (by omega)]
  omega
theorem rg_sub {x y : Int32} {a b c d : Int} (h : rg x a b) (k : rg y c d) (lo hi : Int) (g : -2147483648 ≤ a - d ∧ b - c ≤ 2147483647 ∧ lo ≤ a - d ∧ b - c ≤ hi) : rg (x - y) lo hi := by
  obtain ⟨h1, h2⟩ := h
  obtain ⟨k1, k2⟩ := k
  unfold rg
  rw [toInt_sub (by omega) (by omega)]
  omega
theorem rg_mul {x y : Int32} {a b c d : Int} (h : rg x a b) (k : rg y c d) (lo hi : Int) (g : 0 ≤ a ∧ 0 ≤ c ∧ b * d ≤ 2147483647 ∧ lo ≤ a * c ∧ b * d ≤ hi) : rg (x * y) lo hi := by
  obtain ⟨h1, h2⟩ := h
  obtain ⟨k1, k2⟩ := k
  obtain ⟨g1, g2, g3, g4, g5⟩ := g
  have e1 : a * c ≤ x.toInt * y.toInt := Int.mul_le_mul h1 k1 g2 (by omega)
  have e2 : x.toInt * y.toInt ≤ b * d := Int.mul_le_mul h2 k2 (by omega) (by omega)
  have e0 : 0 ≤ a * c := Int.mul_nonneg g1 g2
  unfold rg
  rw [toInt_mul (by omega) (by omega)]
  omega
theorem vp_rg {x : Int32} {a b : Int} {n : Nat} (h : rg x a b) (g : 0 ≤ a ∧ b < n) : vp_in x n := vp_in_iff.mpr ⟨Int.le_trans g.1 h.1, Int.lt_of_le_of_lt h.2 g.2⟩
theorem rg_clamp {x : Int32} {a b : Int} (h : rg x a b) (g : 0 ≤ a) : (x.toNatClampNeg : Int) = x.toInt := by
  have := h.1
  rw [show x.toNatClampNeg = x.toInt.toNat from rfl]
  omega
theorem i_lt {x y : Int32} : x < y ↔ x.toInt < y.toInt := Int32.lt_iff_toInt_lt
theorem i_le {x y : Int32} : x ≤ y ↔ x.toInt ≤ y.toInt := Int32.le_iff_toInt_le
theorem i_eq {x y : Int32} : x = y ↔ x.toInt = y.toInt := ⟨fun h => by rw [h], Int32.toInt_inj.mp⟩
theorem rg_one {x : Int32} {a : Int} (h : rg x a a) {v : Int32} (hv : v.toInt = a) : x = v := i_eq.mpr (by have := h.1; have := h.2; omega)
/-- what a comparison that came out tells -/
theorem rgl_lt {x y : Int32} {a b c d : Int} (q : x < y) (h : rg x a b) (k : rg y c d) (hi : Int) (g : d - 1 ≤ hi ∨ b ≤ hi) : rg x a hi := by
  have := i_lt.mp q; obtain ⟨h1, h2⟩ := h; obtain ⟨k1, k2⟩ := k; exact ⟨h1, by omega⟩
theorem rgr_lt {x y : Int32} {a b c d : Int} (q : x < y) (h : rg x a b) (k : rg y c d) (lo : Int) (g : lo ≤ a + 1 ∨ lo ≤ c) : rg y lo d := by
  have := i_lt.mp q; obtain ⟨h1, h2⟩ := h; obtain ⟨k1, k2⟩ := k; exact ⟨by omega, k2⟩
theorem rgl_le {x y : Int32} {a b c d : Int} (q : x ≤ y) (h : rg x a b) (k : rg y c d) (hi : Int) (g : d ≤ hi ∨ b ≤ hi) : rg x a hi := by
  have := i_le.mp q; obtain ⟨h1, h2⟩ := h; obtain ⟨k1, k2⟩ := k; exact ⟨h1, by omega⟩
theorem rgr_le {x y : Int32} {a b c d : Int} (q : x ≤ y) (h : rg x a b) (k : rg y c d) (lo : Int) (g : lo ≤ a ∨ lo ≤ c) : rg y lo d := by
  have := i_le.mp q; obtain ⟨h1, h2⟩ := h; obtain ⟨k1, k2⟩ := k; exact ⟨by omega, k2⟩
theorem n_lt {x y : Int32} (h : ¬ x < y) : y ≤ x := i_le.mpr (by have : ¬ x.toInt < y.toInt := fun q => h (i_lt.mpr q); omega)
theorem n_le {x y : Int32} (h : ¬ x ≤ y) : y < x := i_lt.mpr (by have : ¬ x.toInt ≤ y.toInt := fun q => h (i_le.mpr q); omega)
theorem x_lt {x y : Int32} {a b c d : Int} (q : x < y) (h : rg x a b) (k : rg y c d) (g : d ≤ a) : False := by
  have := i_lt.mp q; obtain ⟨h1, h2⟩ := h; obtain ⟨k1, k2⟩ := k; omega
theorem x_le {x y : Int32} {a b c d : Int} (q : x ≤ y) (h : rg x a b) (k : rg y c d) (g : d < a) : False := by
  have := i_le.mp q; obtain ⟨h1, h2⟩ := h; obtain ⟨k1, k2⟩ := k; omega
theorem x_eq {x y : Int32} {a b c d : Int} (q : x = y) (h : rg x a b) (k : rg y c d) (g : d < a ∨ b < c) : False := by
  have := i_eq.mp q; obtain ⟨h1, h2⟩ := h; obtain ⟨k1, k2⟩ := k; omega
theorem x_ne {x y : Int32} {a c : Int} (q : ¬ x = y) (h : rg x a a) (k : rg y c c) (g : a = c) : False := q (i_eq.mpr (by obtain ⟨h1, h2⟩ := h; obtain ⟨k1, k2⟩ := k; omega))
theorem rg_ne0 {x : Int32} {a b : Int} (q : ¬ x = 0) (h : rg x a b) (g : a = 0) : rg x 1 b := by
  have : ¬ x.toInt = 0 := fun e => q (i_eq.mpr (by simpa using e))
  obtain ⟨h1, h2⟩ := h
  exact ⟨by omega, h2⟩
