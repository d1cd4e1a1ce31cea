/-! numbers in bounds -/
def rg (x : Int32) (lo hi : Int) : Prop := lo ≤ x.toInt ∧ x.toInt ≤ hi
theorem rg_any (x : Int32) : rg x (-2147483648) 2147483647 := ⟨x.le_toInt, by have := x.toInt_lt; omega⟩
theorem rg_le {x : Int32} {a b c d : Int} (h : rg x a b) (g : c ≤ a ∧ b ≤ d) : rg x c d := ⟨Int.le_trans g.1 h.1, Int.le_trans h.2 g.2⟩
theorem bmod_id {z : Int} (h1 : -2147483648 ≤ z) (h2 : z ≤ 2147483647) : z.bmod (2 ^ 32) = z := by
  apply Int.bmod_eq_of_le <;> omega
theorem toInt_add {x y : Int32} (h1 : -2147483648 ≤ x.toInt + y.toInt) (h2 : x.toInt + y.toInt ≤ 2147483647) : (x + y).toInt = x.toInt + y.toInt := by rw [Int32.toInt_add]; exact bmod_id h1 h2
theorem toInt_sub {x y : Int32} (h1 : -2147483648 ≤ x.toInt - y.toInt) (h2 : x.toInt - y.toInt ≤ 2147483647) : (x - y).toInt = x.toInt - y.toInt := by rw [Int32.toInt_sub]; exact bmod_id h1 h2
theorem toInt_mul {x y : Int32} (h1 : -2147483648 ≤ x.toInt * y.toInt) (h2 : x.toInt * y.toInt ≤ 2147483647) : (x * y).toInt = x.toInt * y.toInt := by rw [Int32.toInt_mul]; exact bmod_id h1 h2
theorem rg_add {x y : Int32} {a b c d : Int} (h : rg x a b) (k : rg y c d) (lo hi : Int) (g : -2147483648 ≤ a + c ∧ b + d ≤ 2147483647 ∧ lo ≤ a + c ∧ b + d ≤ hi) : rg (x + y) lo hi := by
  obtain ⟨h1, h2⟩ := h
  obtain ⟨k1, k2⟩ := k
  unfold rg
  rw [toInt_add (by omega) (by omega)]
  omega
theorem rg_sub {x y : Int32} {a b c d : Int} (h : rg x a b) (k : rg y c d) (lo hi : Int) (g : -2147483648 ≤ a - d ∧ b - c ≤ 2147483647 ∧ lo ≤ a - d ∧ b - c ≤ hi) : rg (x - y) lo hi := by
  obtain ⟨h1, h2⟩ := h
  obtain ⟨k1, k2⟩ := k
  unfold rg
  rw [toInt_sub (by omega) (by omega)]
  omega
theorem rg_mul {x y : Int32} {a b c d : Int} (h : rg x a b) (k : rg y c d) (lo hi : Int) (g : 0 ≤ a ∧ 0 ≤ c ∧ b * d ≤ 2147483647 ∧ lo ≤ a * c ∧ b * d ≤ hi) : rg (x * y) lo hi := by
  obtain ⟨h1, h2⟩ := h
  obtain ⟨k1, k2⟩ := k
  obtain ⟨g1, g2, g3, g4, g5⟩ := g
  have e1 : a * c ≤ x.toInt * y.toInt := Int.mul_le_mul h1 k1 g2 (by omega)
  have e2 : x.toInt * y.toInt ≤ b * d := Int.mul_le_mul h2 k2 (by omega) (by omega)
  have e0 : 0 ≤ a * c := Int.mul_nonneg g1 g2
  unfold rg
  rw [toInt_mul (by omega) (by omega)]
  omega
theorem vp_rg {x : Int32} {a b : Int} {n : Nat} (h : rg x a b) (g : 0 ≤ a ∧ b < n) : vp_in x n := vp_in_iff.mpr ⟨Int.le_trans g.1 h.1, Int.lt_of_le_of_lt h.2 g.2⟩
theorem rg_clamp {x : Int32} {a b : Int} (h : rg x a b) (g : 0 ≤ a) : (x.toNatClampNeg : Int) = x.toInt := by
  have := h.1
  rw [show x.toNatClampNeg = x.toInt.toNat from rfl]
  omega
theorem i_lt {x y : Int32} : x < y ↔ x.toInt < y.toInt := Int32.lt_iff_toInt_lt
theorem i_le {x y : Int32} : x ≤ y ↔ x.toInt ≤ y.toInt := Int32.le_iff_toInt_le
theorem i_eq {x y : Int32} : x = y ↔ x.toInt = y.toInt := ⟨fun h => by rw [h], Int32.toInt_inj.mp⟩
theorem rg_one {x : Int32} {a : Int} (h : rg x a a) {v : Int32} (hv : v.toInt = a) : x = v := i_eq.mpr (by have := h.1; have := h.2; omega)
/-- what a comparison that came out tells -/
theorem rgl_lt {x y : Int32} {a b c d : Int} (q : x < y) (h : rg x a b) (k : rg y c d) (hi : Int) (g : d - 1 ≤ hi ∨ b ≤ hi) : rg x a hi := by
  have := i_lt.mp q; obtain ⟨h1, h2⟩ := h; obtain ⟨k1, k2⟩ := k; exact ⟨h1, by omega⟩
theorem rgr_lt {x y : Int32} {a b c d : Int} (q : x < y) (h : rg x a b) (k : rg y c d) (lo : Int) (g : lo ≤ a + 1 ∨ lo ≤ c) : rg y lo d := by
  have := i_lt.mp q; obtain ⟨h1, h2⟩ := h; obtain ⟨k1, k2⟩ := k; exact ⟨by omega, k2⟩
theorem rgl_le {x y : Int32} {a b c d : Int} (q : x ≤ y) (h : rg x a b) (k : rg y c d) (hi : Int) (g : d ≤ hi ∨ b ≤ hi) : rg x a hi := by
  have := i_le.mp q; obtain ⟨h1, h2⟩ := h; obtain ⟨k1, k2⟩ := k; exact ⟨h1, by omega⟩
theorem rgr_le {x y : Int32} {a b c d : Int} (q : x ≤ y) (h : rg x a b) (k : rg y c d) (lo : Int) (g : lo ≤ a ∨ lo ≤ c) : rg y lo d := by
  have := i_le.mp q; obtain ⟨h1, h2⟩ := h; obtain ⟨k1, k2⟩ := k; exact ⟨by omega, k2⟩
theorem n_lt {x y : Int32} (h : ¬ x < y) : y ≤ x := i_le.mpr (by have : ¬ x.toInt < y.toInt := fun q => h (i_lt.mpr q); omega)
theorem n_le {x y : Int32} (h : ¬ x ≤ y) : y < x := i_lt.mpr (by have : ¬ x.toInt ≤ y.toInt := fun q => h (i_le.mpr q); omega)
theorem x_lt {x y : Int32} {a b c d : Int} (q : x < y) (h : rg x a b) (k : rg y c d) (g : d ≤ a) : False := by
  have := i_lt.mp q; obtain ⟨h1, h2⟩ := h; obtain ⟨k1, k2⟩ := k; omega
theorem x_le {x y : Int32} {a b c d : Int} (q : x ≤ y) (h : rg x a b) (k : rg y c d) (g : d < a) : False := by
  have := i_le.mp q; obtain ⟨h1, h2⟩ := h; obtain ⟨k1, k2⟩ := k; omega
theorem x_eq {x y : Int32} {a b c d : Int} (q : x = y) (h : rg x a b) (k : rg y c d) (g : d < a ∨ b < c) : False := by
  have := i_eq.mp q; obtain ⟨h1, h2⟩ := h; obtain ⟨k1, k2⟩ := k; omega
theorem x_ne {x y : Int32} {a c : Int} (q : ¬ x = y) (h : rg x a a) (k : rg y c c) (g : a = c) : False := q (i_eq.mpr (by obtain ⟨h1, h2⟩ := h; obtain ⟨k1, k2⟩ := k; omega))
theorem rg_ne0 {x : Int32} {a b : Int} (q : ¬ x = 0) (h : rg x a b) (g : a = 0) : rg x 1 b := by
  have : ¬ x.toInt = 0 := fun e => q (i_eq.mpr (by simpa using e))
  obtain ⟨h1, h2⟩ := h
  exact ⟨by omega, h2⟩
theorem rl {v : Int32} {a : Int} (h : v.toInt = a) : rg v a a := ⟨by omega, by omega⟩
theorem inc_toInt {x y : Int32} {a b : Int} (e : y = x + 1) (h : rg x a b) (g : -2147483648 ≤ a ∧ b < 2147483647) : y.toInt = x.toInt + 1 := by
  have h1 := h.1
  have h2 := h.2
  rw [e, toInt_add] <;> simp <;> omega
theorem lv_nrm {p : Program} {l : Launch} {e : Env} {R : Room} {s : State} {m : MethodId} {args : Array Value} {below : List Frame} {meth : Method} {c : Code} {H : Heap} {locs : List Loc} {cells slots : Nat} {Q : State → Prop} {pc : Nat} {ls : Array Slot} {rest : List Value} {x : Int32} (y : Int32) (h : x = y) (kk : W p l e R s m args below meth c H locs cells slots Q (F0 m pc ls (.int y :: rest))) : W p l e R s m args below meth c H locs cells slots Q (F0 m pc ls (.int x :: rest)) := h ▸ kk
theorem lv_nrl {p : Program} {l : Launch} {e : Env} {R : Room} {s : State} {m : MethodId} {args : Array Value} {below : List Frame} {meth : Method} {c : Code} {H : Heap} {locs : List Loc} {cells slots : Nat} {Q : State → Prop} {pc : Nat} {ls : Array Slot} {rest : List Value} {x : Int64} (y : Int64) (h : x = y) (kk : W p l e R s m args below meth c H locs cells slots Q (F0 m pc ls (.long y :: rest))) : W p l e R s m args below meth c H locs cells slots Q (F0 m pc ls (.long x :: rest)) := h ▸ kk
theorem ne_toInt {x y : Int32} (h : ¬ x = y) : ¬ x.toInt = y.toInt := fun e => h (i_eq.mpr e)
theorem cmp_lt {x y : Int64} : lg_cmp x y < 0 ↔ x.toInt < y.toInt := by
  unfold lg_cmp
  by_cases h1 : y < x
  · have := Int64.lt_iff_toInt_lt.mp h1
    simp [h1]; omega
  · by_cases h2 : x = y
    · subst h2; simp
    · have h3 : ¬ y.toInt < x.toInt := fun q => h1 (Int64.lt_iff_toInt_lt.mpr q)
      have h4 : ¬ x.toInt = y.toInt := fun q => h2 (Int64.toInt_inj.mp q)
      simp [h1, h2]; omega
theorem cmp_gt {x y : Int64} : 0 < lg_cmp x y ↔ y.toInt < x.toInt := by
  unfold lg_cmp
  by_cases h1 : y < x
  · have := Int64.lt_iff_toInt_lt.mp h1
    simp [h1]; omega
  · have h3 : ¬ y.toInt < x.toInt := fun q => h1 (Int64.lt_iff_toInt_lt.mpr q)
    by_cases h2 : x = y
    · subst h2; simp
    · simp [h1, h2]; omega
theorem upd_z {k : Nat} {x : Int32} (h : x = 0) : upd (fun _ => 0) k x = fun _ => 0 := by
  funext j; subst h; simp [upd]
theorem updL_z {k : Nat} {x : Int64} (h : x = 0) : vp_updL (fun _ => 0) k x = fun _ => 0 := by
  funext j; subst h; simp [vp_updL]
theorem hw_same {D : va_G} {B n : Nat} {σ : Nat → va_E} {s : State} {H : Heap} {locs : List Loc} {i : Nat} {E : va_E} (h : σ i = E) (hH : hw D B n (va_up σ i E) s H locs) : hw D B n σ s H locs := by rw [up_same h] at hH; exact hH
theorem hw_sameA {D : va_G} {B n : Nat} {σ : Nat → va_E} {s : State} {H : Heap} {locs : List Loc} {i z k : Nat} {cA : ClassId} {x : Int32} (h : σ i = .inl (cA, z, .inl (fun _ => 0))) (hx : x = 0) (hH : hw D B n (va_up σ i (.inl (cA, z, .inl (upd (fun _ => 0) k x)))) s H locs) : hw D B n σ s H locs := by rw [upd_z hx, up_same h] at hH; exact hH
theorem hw_sameL {D : va_G} {B n : Nat} {σ : Nat → va_E} {s : State} {H : Heap} {locs : List Loc} {i z k : Nat} {cA : ClassId} {x : Int64} (h : σ i = .inl (cA, z, .inr (.inl (fun _ => 0)))) (hx : x = 0) (hH : hw D B n (va_up σ i (.inl (cA, z, .inr (.inl (vp_updL (fun _ => 0) k x))))) s H locs) : hw D B n σ s H locs := by rw [updL_z hx, up_same h] at hH; exact hH
theorem cpy_z {a b d : Nat} : va_cpy (fun _ => (0 : Int32)) (fun _ => 0) a b d = fun _ => 0 := by
  funext j; simp [va_cpy]
theorem hw_sameC {D : va_G} {B n : Nat} {σ : Nat → va_E} {s : State} {H : Heap} {locs : List Loc} {i z a b d : Nat} {cA : ClassId} (h : σ i = .inl (cA, z, .inl (fun _ => 0))) (hH : hw D B n (va_up σ i (.inl (cA, z, .inl (va_cpy (fun _ => 0) (fun _ => 0) a b d)))) s H locs) : hw D B n σ s H locs := by rw [cpy_z, up_same h] at hH; exact hH
section HX
variable {p : Program} {l : Launch} {e : Env} {R : Room} {s : State} {m : MethodId} {args : Array Value} {below : List Frame} {meth : Method} {c : Code} {H : Heap} {locs : List Loc} {cells slots : Nat} {Q : State → Prop} {cc : ByteArray} {pc : Nat} {ls : Array Slot} {rest st0 : List Value} {D : va_G} {K : Nat → ClassId} {B n : Nat} {σ : Nat → va_E} {own : String} {nL : Nat}
/-- behind a call that leaves the heap as it was -/
theorem hp_ip {P : Int32 → Prop} {a : Array Value} (hr : va_Run p l e R s m args below meth c H locs cells slots 0 0 (F0 m pc ls st0) rest (va_Qi (fun r σ' => σ' = σ ∧ P r) (Bv D B n) (fr B) a) (fr B)) (hH : hw D B n σ s H locs)
    (kk : ∀ (r : Int32) (H : Heap) (locs : List Loc), P r → hw D B n σ s H locs → W p l e R s m args below meth c H locs cells slots Q (F0 m (pc + 3) ls (.int r :: rest))) : W p l e R s m args below meth c H locs cells slots Q (F0 m pc ls st0) :=
  hp_i hr hH (fun r σ' H locs hp hH => kk r H locs hp.2 (hp.1 ▸ hH))
theorem hp_lp {P : Int64 → Prop} {a : Array Value} (hr : va_Run p l e R s m args below meth c H locs cells slots 0 0 (F0 m pc ls st0) rest (va_Ql (fun r σ' => σ' = σ ∧ P r) (Bv D B n) (fr B) a) (fr B)) (hH : hw D B n σ s H locs)
    (kk : ∀ (r : Int64) (H : Heap) (locs : List Loc), P r → hw D B n σ s H locs → W p l e R s m args below meth c H locs cells slots Q (F0 m (pc + 3) ls (.long r :: rest))) : W p l e R s m args below meth c H locs cells slots Q (F0 m pc ls st0) :=
  hp_l hr hH (fun r σ' H locs hp hH => kk r H locs hp.2 (hp.1 ▸ hH))
theorem hp_vp {a : Array Value} (hr : va_Run p l e R s m args below meth c H locs cells slots 0 0 (F0 m pc ls st0) rest (va_Qv (fun σ' => σ' = σ) (Bv D B n) (fr B) a) (fr B)) (hH : hw D B n σ s H locs)
    (kk : ∀ (H : Heap) (locs : List Loc), hw D B n σ s H locs → W p l e R s m args below meth c H locs cells slots Q (F0 m (pc + 3) ls rest)) : W p l e R s m args below meth c H locs cells slots Q (F0 m pc ls st0) :=
  hp_v hr hH (fun σ' H locs hp hH => kk H locs (hp ▸ hH))
theorem hp_copy (X : CX p s m args c cc nL own D K) (hls : ls.size = nL) (hH : hw D B n σ s H locs) {index : Nat} (hl : Cond.methodLink own index arraycopyName ∈ bw) (hnat : Cond.native arraycopyName ∈ bw) (hst : Cond.static arraycopyName ∈ bw) (hini : Cond.initialized "java/lang/System" ∈ bw) (i j : Nat) (hi : i < n) (hj : j < n) {z0 z1 : Nat} {f g : Nat → Int32} (he : σ i = .inl (K 0, z0, .inl f)) (hg : σ j = .inl (K 0, z1, .inl g))
    {sp dp len : Int32} (h1 : ¬ sp < 0) (h2 : ¬ dp < 0) (h3 : ¬ len < 0) (h4 : sp.toNatClampNeg + len.toNatClampNeg ≤ z0) (h5 : dp.toNatClampNeg + len.toNatClampNeg ≤ z1) (hfr : 1 ≤ R.frames) (hlo : (rest.map fun v => v.category).sum + (nativeFrameWords "java/lang/System" "arraycopy" 5 + 11) ≤ R.locals) (hd : decode cc pc = .ok (.invokestatic index, 3))
    (kk : ∀ (H : Heap) (locs : List Loc), hw D B n (va_up σ j (.inl (K 0, z1, .inl (va_cpy f g sp.toNatClampNeg dp.toNatClampNeg len.toNatClampNeg)))) s H locs → W p l e R s m args below meth c H locs cells slots Q (F0 m (pc + 3) ls rest)) : W p l e R s m args below meth c H locs cells slots Q (F0 m pc ls (.int len :: .int dp :: .ref (B + j) :: .int sp :: .ref (B + i) :: rest)) :=
  va_copyi X.1 X.2.1 (by rw [X.2.2.1, hls]) X.2.2.2.1 (X.w hl) (X.w hnat) (X.w hst) (X.w hini) X.vk hH.1 wl_D hH.2 i j 0 0 (ty := .int) (wl_get hi he) (wl_get hj hg) rfl rfl rfl h1 h2 h3 h4 h5 (fun _ _ => rfl) hfr hlo hd (fun H1 locs1 hP _ hS => kk H1 locs1 ⟨by rw [wl_set hj] at hP; exact hP, hS⟩)
end HX
