/-! a contract in versions: ghost names -/
def z_callG (XG : ZX) (CT : T2 (List ZX)) (d : Nat) : ZCall := fun q args V h n f lo => match z_bd (z_g2 z_PT q) (fun M => z_if (Nat.beq q XG.1) (z_conH (z_idn 51 []) M.2.2.1 XG args V h n f lo)) with
  | some r => some r
  | none => z_call z_PT CT d q args V h n f lo
theorem z_callC_ok {l : Launch} {D : va_G} {K : Nat → ClassId} {β : ZB} {CT : T2 (List ZX)} (hT : z_al (z_al (z_al (z_okX z_SS z_ms l D K β))) CT) (d : Nat) : ∀ (q : Nat) (a : List AV) (V : VS) (h : T2 AC) (n f lo : Nat) (outs : List ZO), z_call z_PT CT d q a V h n f lo = some outs → z_M z_SS z_ms l D K β q a V h n f lo outs := fun q a V h n f lo outs hr => z_call_ok (z_glG z_PTok) (fun q L hL => z_ctI hT q L hL) d q a V h n f lo outs hr
theorem z_callG_ok {l : Launch} {D : va_G} {K : Nat → ClassId} {β : ZB} {XG : ZX} {CT : T2 (List ZX)} (hG : z_okX z_SS z_ms l D K β XG) (hT : z_al (z_al (z_al (z_okX z_SS z_ms l D K β))) CT) (d : Nat) : ∀ (q : Nat) (a : List AV) (V : VS) (h : T2 AC) (n f lo : Nat) (outs : List ZO), z_callG XG CT d q a V h n f lo = some outs → z_M z_SS z_ms l D K β q a V h n f lo outs := by
  intro q a V h n f lo outs hr
  unfold z_callG at hr
  cases hc : z_bd (z_g2 z_PT q) (fun M => z_if (Nat.beq q XG.1) (z_conH (z_idn 51 []) M.2.2.1 XG a V h n f lo)) with
  | none => rw [hc] at hr; exact z_callC_ok hT d q a V h n f lo outs hr
  | some r =>
    rw [hc] at hr
    cases hr
    obtain ⟨M, hM, hc2⟩ := z_bdI hc
    obtain ⟨he, hc3⟩ := z_ifI hc2
    have he2 := Nat.eq_of_beq_eq_true he
    subst he2
    obtain ⟨y, bytes, ret, g1, -⟩ := z_glG z_PTok _ M hM
    exact z_conH_ok hG g1 hc3
/-- the check of a contract, piece by piece -/
def z_chkN (call : ZCall) (M : ZP) (X : ZX) (cuts : List ZCut) (k b nc : Nat) : Bool := z_and (Nat.ble (z_cat X.2.1) M.2.1) (match z_iter M.1 (call, X.2.2.2.2.2.1, X.2.2.2.2.2.2.1, Nat.add X.2.2.2.2.1 M.2.2.2.2.1, M.2.2.2.2.2, false) k ([(0, z_arg 0 X.2.1, [], X.2.2.1, X.2.2.2.1, X.2.2.2.2.1, 0)], []) with
    | none => false
    | some r => match r.1 with
      | [] => z_okO cuts (z_len X.2.2.1.1) b nc 0 none (z_okr M (z_len X.2.2.1.1) (Nat.add X.2.2.2.2.1 M.2.2.2.2.1) X.2.2.2.2.2.2.2) r.2
      | _ :: _ => false)
def z_chkG (call : ZCall) (M : ZP) (X : ZX) (cuts : List ZCut) (k' b nc L : Nat) (C : ZCut) : Bool := z_chkC M.1 (call, X.2.2.2.2.2.1, X.2.2.2.2.2.2.1, Nat.add X.2.2.2.2.1 M.2.2.2.2.1, M.2.2.2.2.2, false) cuts (z_len X.2.2.1.1) b nc 0 k' L (z_okr M (z_len X.2.2.1.1) (Nat.add X.2.2.2.2.1 M.2.2.2.2.1) X.2.2.2.2.2.2.2) C
theorem z_conU {l : Launch} {D : va_G} {K : Nat → ClassId} {β : ZB} {call : ZCall} {M : ZP} {X : ZX} {cuts : List ZCut} {k k' b nc L : Nat} {y : MethodName} {bytes : ByteArray} {ret : Option FieldType} (hcall : ∀ (q : Nat) (a : List AV) (V : VS) (h : T2 AC) (n f lo : Nat) (outs : List ZO), call q a V h n f lo = some outs → z_M z_SS z_ms l D K β q a V h n f lo outs) (hM : z_g2 z_PT X.1 = some M) (hq : z_nth z_ms X.1 = some (y, bytes, M.2.1, ret, M.2.2.1, M.2.2.2.2.1, M.2.2.2.2.2)) (hcs : z_cs z_SS z_ms y.cls y.name bytes M.2.1 cuts) (hN : z_chkN call M X cuts k b nc = true) (hC : z_al (fun C => z_chkG call M X cuts k' b nc L C = true) cuts) : z_okX z_SS z_ms l D K β X := by
  intro f lo hf hlo
  obtain ⟨h1, h2⟩ := z_andI hN
  cases hit : z_iter M.1 (call, X.2.2.2.2.2.1, X.2.2.2.2.2.2.1, Nat.add X.2.2.2.2.1 M.2.2.2.2.1, M.2.2.2.2.2, false) k ([(0, z_arg 0 X.2.1, [], X.2.2.1, X.2.2.2.1, X.2.2.2.2.1, 0)], []) with
  | none => rw [hit] at h2; cases h2
  | some r =>
    rw [hit] at h2
    obtain ⟨todo, os⟩ := r
    cases todo with
    | cons st r => cases h2
    | nil =>
      refine z_met_ok (good := fun o => z_okr M (z_len X.2.2.1.1) (Nat.add X.2.2.2.2.1 M.2.2.2.2.1) X.2.2.2.2.2.2.2 o = true) hcall (z_glG z_PTok X.1 M hM) h1 hit (fun o ho => z_okOI h2 ho) ?_ (fun j C hj => z_alI hC hj) (fun o _ h => h) (fun o _ ho => ?_) f lo hf hlo
      · intro j C hj y' bytes' ret' hq'
        rw [hq] at hq'
        cases hq'
        exact z_csI hcs hj
      · obtain ⟨a1, a2⟩ := z_andI ho
        exact ⟨a1, fun σ0 ν ν' u v g1 g2 g3 g4 g5 => z_anyP_ok a2 g1 g3 g4 g5⟩
/-! the ghosts: for each of eight places, does it count, is it below, above, behind the last -/
def zgk (r n Y : Int) (j : Nat) (a y : Int) : Nat → Int
  | 0 => a
  | 1 => y
  | 2 => if (j : Int) < n ∧ a = r ∧ y < Y then 1 else 0
  | 3 => if a < r then 1 else 0
  | 4 => if r < a then 1 else 0
  | _ => if n ≤ j then 1 else 0
def zgn (r : Int) (f : Nat → Int32) : Nat → Int
  | 0 => r
  | 1 => (f 7).toInt
  | 2 => (f 0).toInt
  | k + 3 => zgk r (f 7).toInt (f 0).toInt (k / 6) (f (58 + 3 * (k / 6))).toInt (f (60 + 3 * (k / 6))).toInt (k % 6)
theorem zgn_k {r : Int} {f : Nat → Int32} (j : Nat) {k : Nat} (hk : k < 6) : zgn r f (3 + 6 * j + k) = zgk r (f 7).toInt (f 0).toInt j (f (58 + 3 * j)).toInt (f (60 + 3 * j)).toInt k := by
  rw [show 3 + 6 * j + k = (6 * j + k) + 3 by omega]
  show zgk r (f 7).toInt (f 0).toInt ((6 * j + k) / 6) (f (58 + 3 * ((6 * j + k) / 6))).toInt (f (60 + 3 * ((6 * j + k) / 6))).toInt ((6 * j + k) % 6) = _
  rw [show (6 * j + k) / 6 = j by omega, show (6 * j + k) % 6 = k by omega]
def zg_j9 (r : Int) (j : Nat) : List FM := [(-r - 5, [(1, 3 + 6 * j), (5, 3 + 6 * j + 2)]), (r - 5, [(-1, 3 + 6 * j), (5, 3 + 6 * j + 2)]), (-15, [(-1, 2), (1, 3 + 6 * j + 1), (16, 3 + 6 * j + 2)]), ((j : Int) - 7, [(-1, 1), (8, 3 + 6 * j + 2)]),
  (-r - 5, [(1, 3 + 6 * j), (6, 3 + 6 * j + 3)]), (r - 5, [(-1, 3 + 6 * j), (6, 3 + 6 * j + 4)]), (0, [(1, 2), (-1, 3 + 6 * j + 1), (-16, 3 + 6 * j + 2), (-16, 3 + 6 * j + 3), (-16, 3 + 6 * j + 4), (-16, 3 + 6 * j + 5)]), (-1, [(1, 3 + 6 * j + 2), (1, 3 + 6 * j + 3), (1, 3 + 6 * j + 4)]), (-(j : Int) - 8, [(1, 1), (8, 3 + 6 * j + 5)])]
def zg_js (r : Int) : List Nat → List FM
  | [] => []
  | j :: l => z_app (zg_j9 r j) (zg_js r l)
def zg_b6 : List Nat → List (Int × Int)
  | [] => []
  | _ :: l => (0, 5) :: (0, 15) :: (0, 1) :: (0, 1) :: (0, 1) :: (0, 1) :: zg_b6 l
def zgE8 : List Nat := [0, 1, 2, 3, 4, 5, 6, 7]
def zgV (r : Int) : VS := ((r, r) :: (0, 8) :: (0, 16) :: zg_b6 zgE8, zg_js r zgE8, [])
theorem zg9 {r n Y a y : Int} {j : Nat} {ν : Nat → Int} (h1 : ν 1 = n) (h2 : ν 2 = Y) (hk : ∀ k, k < 6 → ν (3 + 6 * j + k) = zgk r n Y j a y k) (hr : 0 ≤ r ∧ r ≤ 5) (hn : 0 ≤ n ∧ n ≤ 8) (hY : 0 ≤ Y ∧ Y ≤ 16) (ha : 0 ≤ a ∧ a ≤ 5) (hy : 0 ≤ y ∧ y ≤ 15) (hj : j < 8) : z_al (fun g => f_evm ν g ≤ 0) (zg_j9 r j) := by
  have k0 : ν (3 + 6 * j) = a := hk 0 (by omega)
  have k1 : ν (3 + 6 * j + 1) = y := hk 1 (by omega)
  have k2 : ν (3 + 6 * j + 2) = if (j : Int) < n ∧ a = r ∧ y < Y then 1 else 0 := hk 2 (by omega)
  have k3 : ν (3 + 6 * j + 3) = if a < r then 1 else 0 := hk 3 (by omega)
  have k4 : ν (3 + 6 * j + 4) = if r < a then 1 else 0 := hk 4 (by omega)
  have k5 : ν (3 + 6 * j + 5) = if n ≤ j then 1 else 0 := hk 5 (by omega)
  have x2 : (ν (3 + 6 * j + 2) = 1 ∧ (j : Int) < n ∧ a = r ∧ y < Y) ∨ (ν (3 + 6 * j + 2) = 0 ∧ (n ≤ j ∨ a < r ∨ r < a ∨ Y ≤ y)) := by
    rw [k2]
    split
    · rename_i g; exact Or.inl ⟨rfl, g⟩
    · rename_i g; exact Or.inr ⟨rfl, by omega⟩
  have x3 : (ν (3 + 6 * j + 3) = 1 ∧ a < r) ∨ (ν (3 + 6 * j + 3) = 0 ∧ r ≤ a) := by
    rw [k3]
    split
    · rename_i g; exact Or.inl ⟨rfl, g⟩
    · rename_i g; exact Or.inr ⟨rfl, by omega⟩
  have x4 : (ν (3 + 6 * j + 4) = 1 ∧ r < a) ∨ (ν (3 + 6 * j + 4) = 0 ∧ a ≤ r) := by
    rw [k4]
    split
    · rename_i g; exact Or.inl ⟨rfl, g⟩
    · rename_i g; exact Or.inr ⟨rfl, by omega⟩
  have x5 : (ν (3 + 6 * j + 5) = 1 ∧ n ≤ j) ∨ (ν (3 + 6 * j + 5) = 0 ∧ (j : Int) < n) := by
    rw [k5]
    split
    · rename_i g; exact Or.inl ⟨rfl, g⟩
    · rename_i g; exact Or.inr ⟨rfl, by omega⟩
  clear k2 k3 k4 k5 hk
  refine ⟨?_, ?_, ?_, ?_, ?_, ?_, ?_, ?_, ?_, trivial⟩ <;> simp only [f_evm, f_ev] <;> omega
theorem z_al_app {α : Type} {P : α → Prop} {l k : List α} (h1 : z_al P l) (h2 : z_al P k) : z_al P (z_app l k) := by
  induction l with
  | nil => exact h2
  | cons a l ih => exact ⟨h1.1, ih h1.2⟩
/-- the bounds, one behind the other -/
def z_inB (ν : Nat → Int) : Nat → List (Int × Int) → Prop
  | _, [] => True
  | x, b :: l => (b.1 ≤ ν x ∧ ν x ≤ b.2) ∧ z_inB ν (x + 1) l
theorem z_inBI {ν : Nat → Int} {x : Nat} {l : List (Int × Int)} (h : z_inB ν x l) {i : Nat} {q : Int × Int} (hq : z_nth l i = some q) : q.1 ≤ ν (x + i) ∧ ν (x + i) ≤ q.2 := by
  induction l generalizing x i with
  | nil => cases hq
  | cons b l ih => cases i with
    | zero => cases hq; exact h.1
    | succ i =>
      have := ih (x := x + 1) h.2 hq
      rwa [show x + 1 + i = x + (i + 1) by omega] at this
theorem zg_01 (p : Prop) [Decidable p] : (0 : Int) ≤ (if p then 1 else 0) ∧ (if p then (1 : Int) else 0) ≤ 1 := by
  by_cases h : p
  · rw [if_pos h]; decide
  · rw [if_neg h]; decide
theorem zgk_b {r n Y a y : Int} {j : Nat} {k : Nat} (h : 2 ≤ k) : 0 ≤ zgk r n Y j a y k ∧ zgk r n Y j a y k ≤ 1 := by
  match k, h with
  | 2, _ => exact zg_01 _
  | 3, _ => exact zg_01 _
  | 4, _ => exact zg_01 _
  | k + 5, _ => exact zg_01 _
theorem zg_b6_ok {r : Int} {f : Nat → Int32} : ∀ (l : List Nat) (j : Nat), (∀ i, i < z_len l → (0 ≤ (f (58 + 3 * (j + i))).toInt ∧ (f (58 + 3 * (j + i))).toInt ≤ 5) ∧ 0 ≤ (f (60 + 3 * (j + i))).toInt ∧ (f (60 + 3 * (j + i))).toInt ≤ 15) → z_inB (zgn r f) (3 + 6 * j) (zg_b6 l)
  | [], _, _ => trivial
  | _ :: l, j, h => by
    have h0 := h 0 (Nat.succ_pos _)
    have e0 : zgn r f (3 + 6 * j) = (f (58 + 3 * j)).toInt := zgn_k j (k := 0) (by omega)
    have e1 : zgn r f (3 + 6 * j + 1) = (f (60 + 3 * j)).toInt := zgn_k j (k := 1) (by omega)
    have e2 := zgn_k (r := r) (f := f) j (k := 2) (by omega)
    have e3 := zgn_k (r := r) (f := f) j (k := 3) (by omega)
    have e4 := zgn_k (r := r) (f := f) j (k := 4) (by omega)
    have e5 := zgn_k (r := r) (f := f) j (k := 5) (by omega)
    refine ⟨by rw [e0]; exact h0.1, by rw [e1]; exact h0.2, by show 0 ≤ zgn r f (3 + 6 * j + 2) ∧ zgn r f (3 + 6 * j + 2) ≤ 1; rw [e2]; exact zgk_b (by omega), by show 0 ≤ zgn r f (3 + 6 * j + 3) ∧ zgn r f (3 + 6 * j + 3) ≤ 1; rw [e3]; exact zgk_b (by omega), by show 0 ≤ zgn r f (3 + 6 * j + 4) ∧ zgn r f (3 + 6 * j + 4) ≤ 1; rw [e4]; exact zgk_b (by omega), by show 0 ≤ zgn r f (3 + 6 * j + 5) ∧ zgn r f (3 + 6 * j + 5) ≤ 1; rw [e5]; exact zgk_b (by omega), ?_⟩
    have := zg_b6_ok (r := r) (f := f) l (j + 1) (fun i hi => by
      have := h (i + 1) (Nat.succ_lt_succ hi)
      rwa [show j + (i + 1) = j + 1 + i by omega] at this)
    rwa [show 3 + 6 * (j + 1) = 3 + 6 * j + 1 + 1 + 1 + 1 + 1 + 1 by omega] at this
theorem zg_js_ok {r : Int} {f : Nat → Int32} (hr : 0 ≤ r ∧ r ≤ 5) (hn : 0 ≤ (f 7).toInt ∧ (f 7).toInt ≤ 8) (hY : 0 ≤ (f 0).toInt ∧ (f 0).toInt ≤ 16) : ∀ (l : List Nat), (∀ j ∈ l, j < 8 ∧ (0 ≤ (f (58 + 3 * j)).toInt ∧ (f (58 + 3 * j)).toInt ≤ 5) ∧ 0 ≤ (f (60 + 3 * j)).toInt ∧ (f (60 + 3 * j)).toInt ≤ 15) → z_al (fun g => f_evm (zgn r f) g ≤ 0) (zg_js r l)
  | [], _ => trivial
  | j :: l, h => by
    obtain ⟨h1, h2, h3⟩ := h j List.mem_cons_self
    exact z_al_app (zg9 (ν := zgn r f) (n := (f 7).toInt) (Y := (f 0).toInt) rfl rfl (fun k hk => zgn_k j hk) hr hn hY h2 h3 h1) (zg_js_ok hr hn hY l (fun i hi => h i (List.mem_cons_of_mem _ hi)))
theorem zgV_ok {r : Int} {f : Nat → Int32} (hr : 0 ≤ r ∧ r ≤ 5) (hn : 0 ≤ (f 7).toInt ∧ (f 7).toInt ≤ 8) (hY : 0 ≤ (f 0).toInt ∧ (f 0).toInt ≤ 16) (h : ∀ j, j < 8 → (0 ≤ (f (58 + 3 * j)).toInt ∧ (f (58 + 3 * j)).toInt ≤ 5) ∧ 0 ≤ (f (60 + 3 * j)).toInt ∧ (f (60 + 3 * j)).toInt ≤ 15) (hw : z_wfR 51 (zg_js r zgE8) = true) : z_sat (zgn r f) (zgV r) := by
  refine ⟨fun i q hq => ?_, fun g hg => ⟨?_, ?_⟩, fun x hx => by cases hx⟩
  · have hB : z_inB (zgn r f) 0 (zgV r).1 := ⟨⟨Int.le_refl r, Int.le_refl r⟩, hn, hY, zg_b6_ok zgE8 0 (fun i hi => by rw [Nat.zero_add]; exact h i hi)⟩
    have := z_inBI hB hq
    rwa [Nat.zero_add] at this
  · exact z_wfRI hw g hg
  · exact z_alM (zg_js_ok hr hn hY zgE8 (fun j hj => by
      have : j < 8 := by
        unfold zgE8 at hj
        simp only [List.mem_cons, List.not_mem_nil, or_false] at hj
        omega
      exact ⟨this, h j this⟩)) g hg
/-- single elements get names -/
def zg_put (l : List AV) : List (Nat × Nat) → List AV
  | [] => l
  | q :: ps => z_put (zg_put l ps) q.1 (0, 0, 0, 0, [(1, q.2)])
theorem zg_put_len {l : List AV} {ps : List (Nat × Nat)} : z_len (zg_put l ps) = z_len l := by
  induction ps with
  | nil => rfl
  | cons q ps ih => show z_len (z_put _ _ _) = _; rw [z_len_put, ih]
theorem zg_put_ok {ν : Nat → Int} {m N : Nat} {β : ZB} {f : Nat → Int32} {l : List AV} {ps : List (Nat × Nat)} (h : ∀ j, j < N → ∃ a, z_nth l j = some a ∧ z_mt ν m β a (.int (f j))) (hps : z_al (fun q => q.2 < m ∧ q.1 < N ∧ ν q.2 = (f q.1).toInt) ps) : ∀ j, j < N → ∃ a, z_nth (zg_put l ps) j = some a ∧ z_mt ν m β a (.int (f j)) := by
  induction ps with
  | nil => exact h
  | cons q ps ih =>
    obtain ⟨⟨h1, h2, h3⟩, h4⟩ := hps
    have ih := ih h4
    intro j hj
    by_cases e : q.1 = j
    · subst e
      obtain ⟨a, g1, -⟩ := ih _ hj
      refine ⟨_, z_nth_self g1 _, ?_⟩
      refine z_mkI (f := (0, [(1, q.2)])) (fun p hp => ?_) ?_
      · rw [List.mem_singleton.mp hp]
        exact h1
      · show (f q.1).toInt = 0 + (1 * ν q.2 + 0)
        omega
    · obtain ⟨a, g1, g2⟩ := ih j hj
      exact ⟨a, by show z_nth (z_put _ _ _) j = _; rw [z_nth_ne _ _ e]; exact g1, g2⟩
def zg_b1 (l : List AV) (p : Nat) (hi : Int) : Bool := match z_nth l p with
  | some a => z_and (Nat.beq a.1 1) (z_and (z_le 0 a.2.2.1) (z_le a.2.2.2.1 hi))
  | none => false
theorem zg_b1_ok {ν : Nat → Int} {m : Nat} {β : ZB} {l : List AV} {p : Nat} {hi : Int} {x : Int32} (h : zg_b1 l p hi = true) (hq : ∃ a, z_nth l p = some a ∧ z_mt ν m β a (.int x)) : 0 ≤ x.toInt ∧ x.toInt ≤ hi := by
  obtain ⟨a, h1, h2⟩ := hq
  unfold zg_b1 at h
  rw [h1] at h
  obtain ⟨g1, g2⟩ := z_andI h
  obtain ⟨g2, g3⟩ := z_andI g2
  have g1 := Nat.eq_of_beq_eq_true g1
  have g2 := z_le_iff.mp g2
  have g3 := z_le_iff.mp g3
  rcases h2 with ⟨e, -⟩ | ⟨-, y, e1, e2, e3, -⟩ | ⟨e, -⟩ | ⟨e, -⟩ | ⟨e, -⟩ | ⟨e, -⟩ | ⟨e, -⟩ | ⟨e, -⟩ | ⟨e, -⟩ | ⟨e, -⟩
  · omega
  · cases e1
    omega
  all_goals omega
def zg_bj (l : List AV) : Nat → Bool
  | 0 => true
  | j + 1 => z_and (z_and (zg_b1 l (58 + 3 * j) 5) (zg_b1 l (60 + 3 * j) 15)) (zg_bj l j)
theorem zg_bjI {l : List AV} {n : Nat} (h : zg_bj l n = true) {j : Nat} (hj : j < n) : zg_b1 l (58 + 3 * j) 5 = true ∧ zg_b1 l (60 + 3 * j) 15 = true := by
  induction n with
  | zero => omega
  | succ n ih =>
    obtain ⟨h1, h2⟩ := z_andI h
    by_cases e : j = n
    · subst e; exact z_andI h1
    · exact ih h2 (by omega)
def zgP : List (Nat × Nat) := [(0, 2), (7, 1), (58, 3), (60, 4), (61, 9), (63, 10), (64, 15), (66, 16), (67, 21), (69, 22), (70, 27), (72, 28), (73, 33), (75, 34), (76, 39), (78, 40), (79, 45), (81, 46)]
theorem zgP_ok {r : Int} {f : Nat → Int32} : z_al (fun q => q.2 < 51 ∧ q.1 < 112 ∧ zgn r f q.2 = (f q.1).toInt) zgP := ⟨⟨by decide, by decide, rfl⟩, ⟨by decide, by decide, rfl⟩, ⟨by decide, by decide, rfl⟩, ⟨by decide, by decide, rfl⟩, ⟨by decide, by decide, rfl⟩, ⟨by decide, by decide, rfl⟩, ⟨by decide, by decide, rfl⟩, ⟨by decide, by decide, rfl⟩, ⟨by decide, by decide, rfl⟩, ⟨by decide, by decide, rfl⟩, ⟨by decide, by decide, rfl⟩, ⟨by decide, by decide, rfl⟩, ⟨by decide, by decide, rfl⟩, ⟨by decide, by decide, rfl⟩, ⟨by decide, by decide, rfl⟩, ⟨by decide, by decide, rfl⟩, ⟨by decide, by decide, rfl⟩, ⟨by decide, by decide, rfl⟩, trivial⟩
theorem z_mc1 {ν : Nat → Int} {nv : Nat} {β : ZB} {K : Nat → ClassId} {N : Nat} {l : List AV} {e : va_E} (h : z_mc ν nv β K (1, N, l) e) : ∃ f : Nat → Int32, e = .inl (K 0, N, .inl f) ∧ ∀ j, j < N → ∃ a, z_at l j = some a ∧ z_mt ν nv β a (.int (f j)) := by
  rcases h with ⟨e, -⟩ | ⟨-, f, e1, e2⟩ | ⟨e, -⟩ | ⟨e, -⟩ | ⟨e, -⟩ | ⟨e, -⟩
  · exact absurd (show (1 : Nat) = 0 from e) (by omega)
  · exact ⟨f, e1, e2⟩
  · exact absurd (show (1 : Nat) = 3 from e) (by omega)
  · exact absurd (show (1 : Nat) = 5 ∨ (1 : Nat) = 6 from e) (by omega)
  · exact absurd (show (1 : Nat) = 7 from e) (by omega)
  · exact absurd (show (1 : Nat) = 8 from e) (by omega)
theorem zg_ver {l : Launch} {D : va_G} {K : Nat → ClassId} {β : ZB} {X G : ZX} {M : ZM} {r : Int} {l8 : List AV} {a6 : AV} {f lo : Nat} (hM : z_nth z_ms X.1 = some M) (hG : z_okX z_SS z_ms l D K β G) (hr : 0 ≤ r ∧ r ≤ 5)
    (e1 : G.1 = X.1) (e2 : X.2.1 = [(4, 117, 0, 0, []), (0, 0, 0, 0, [(1, 0)])]) (e3 : G.2.1 = [(4, 117, 0, 0, []), (0, 0, r, 0, [])]) (e4 : z_len X.2.2.1.1 = 1) (e5 : G.2.2.1 = zgV r) (hw : z_wfR 51 (zg_js r zgE8) = true)
    (e6 : z_g2 X.2.2.2.1 118 = some (101, 112, l8)) (e7 : z_g2 X.2.2.2.1 126 = some (1, 6, [a6])) (e8 : G.2.2.2.1 = z_s2 (z_s2 X.2.2.2.1 118 (101, 112, zg_put l8 zgP)) 126 (1, 6, [a6, a6, a6, a6, a6, a6])) (e9 : G.2.2.2.2.1 = X.2.2.2.2.1) (hf : G.2.2.2.2.2.1 ≤ f) (hlo : G.2.2.2.2.2.2.1 ≤ lo)
    (hl8 : z_len l8 = 112) (hb : z_and (zg_b1 l8 0 16) (z_and (zg_b1 l8 7 8) (zg_bj l8 8)) = true) (ho : z_al (fun o => z_anyP 1 (X.2.2.2.2.1 + M.2.2.2.2.2.1) M.2.2.2.2.1 o X.2.2.2.2.2.2.2 = true) G.2.2.2.2.2.2.2) (hrk : M.2.2.2.2.1 = 1)
    {ν : Nat → Int} {σ σ0 : Nat → va_E} {av : List Value} (hν : ν 0 = r) (hs : z_sat ν X.2.2.1) (hh : z_hm ν (z_len X.2.2.1.1) β K σ0 X.2.2.2.1 X.2.2.2.2.1 σ) (ha : z_fm (z_mt ν (z_len X.2.2.1.1) β) X.2.1 av) :
    Met l M.1 (wb M.1 M.2.1 M.2.2.1 M.2.2.2.1) (rmOf f lo M.2.2.2.2.2.1 M.2.2.2.2.2.2) (va_Pc av (PS z_SS D K β X.2.2.2.2.1 σ)) (z_Q D K β σ0 X.2.2.2.2.2.2.2 ν (z_len X.2.2.1.1) (X.2.2.2.2.1 + M.2.2.2.2.2.1) M.2.2.2.2.1) M.2.2.2.2.2.1 M.2.2.2.2.2.2 (fr β.1) := by
  obtain ⟨M', m1, m2⟩ := hG f lo hf hlo
  rw [e1, hM] at m1
  cases m1
  rw [e4] at hh ha ⊢
  obtain ⟨b1, b2⟩ := z_andI hb
  obtain ⟨b2, b3⟩ := z_andI b2
  rcases (hh 118 _ e6).2 with w | ⟨i8, w8⟩
  · exact absurd (show (101 : Nat) = 99 from w) (by omega)
  rcases (hh 126 _ e7).2 with w | ⟨i6, w6⟩
  · exact absurd (show (1 : Nat) = 99 from w) (by omega)
  obtain ⟨f8, c8, d8⟩ := z_mc1 (show z_mc ν 1 β K (1, 112, l8) (σ 118) by simpa only [Nat.reduceMod] using w8)
  obtain ⟨f6, c6, d6⟩ := z_mc1 (show z_mc ν 1 β K (1, 6, [a6]) (σ 126) by simpa only [Nat.reduceMod] using w6)
  have d8 : ∀ j, j < 112 → ∃ a, z_nth l8 j = some a ∧ z_mt ν 1 β a (.int (f8 j)) := fun j hj => by
    have := d8 j hj
    rwa [z_at2 (by omega)] at this
  have hag : ∀ i, i < 1 → zgn r f8 i = ν i := fun i hi => by
    rw [show i = 0 by omega, hν]; rfl
  have hsat : z_sat (zgn r f8) (zgV r) := zgV_ok hr (zg_b1_ok b2 (d8 7 (by omega))) (zg_b1_ok b1 (d8 0 (by omega))) (fun j hj => ⟨zg_b1_ok (zg_bjI b3 hj).1 (d8 _ (by omega)), zg_b1_ok (zg_bjI b3 hj).2 (d8 _ (by omega))⟩) hw
  have hhm : z_hm (zgn r f8) 51 β K σ0 G.2.2.2.1 X.2.2.2.2.1 σ := by
    rw [e8]
    refine z_hm_re (c := (1, 6, [a6])) (z_hm_re (z_hm_ext hag (by omega) hh) e6 i8 rfl ?_) (by rw [z_g2_ne _ _ (by omega)]; exact e7) i6 rfl ?_
    · have key : z_mc (zgn r f8) 51 β K (1, 112, zg_put l8 zgP) (σ 118) := by
        refine Or.inr (Or.inl ⟨Or.inl rfl, f8, c8, fun j hj => ?_⟩)
        show ∃ a, z_at (zg_put l8 zgP) j = some a ∧ _
        rw [z_at2 (by rw [zg_put_len]; omega)]
        exact zg_put_ok (fun j hj => (d8 j hj).imp fun a q => ⟨q.1, z_mt_ext hag (by omega) q.2⟩) zgP_ok j hj
      simpa only [Nat.reduceMod] using key
    · have key : z_mc (zgn r f8) 51 β K (1, 6, [a6, a6, a6, a6, a6, a6]) (σ 126) := by
        refine Or.inr (Or.inl ⟨Or.inl rfl, f6, c6, fun j hj => ?_⟩)
        have hj : j < 6 := hj
        obtain ⟨a, g1, g2⟩ := d6 j hj
        cases (show some a6 = some a from g1)
        refine ⟨a6, ?_, z_mt_ext hag (by omega) g2⟩
        match j, hj with
        | 0, _ => rfl
        | 1, _ => rfl
        | 2, _ => rfl
        | 3, _ => rfl
        | 4, _ => rfl
        | 5, _ => rfl
      simpa only [Nat.reduceMod] using key
  have hav : z_fm (z_mt (zgn r f8) 51 β) G.2.1 av := by
    rw [e2] at ha
    rw [e3]
    obtain ⟨v1, k1, rfl, q1, ha⟩ := z_fm_cons ha
    obtain ⟨v2, k2, rfl, q2, ha⟩ := z_fm_cons ha
    cases z_fm_nil ha
    refine ⟨z_mt_ext hag (by omega) q1, ?_, trivial⟩
    obtain ⟨-, x, rfl, hx⟩ := z_mt_i q2 rfl
    refine z_mkI (f := (r, [])) f_wf0 ?_
    rw [hx]
    show 0 + (1 * ν 0 + 0) = r + 0
    omega
  have hl : z_len (zgV r).1 = 51 := rfl
  have m3 := m2 (zgn r f8) σ σ0 av (by rw [e5]; exact hsat) (by rw [e5, e9, hl]; exact hhm) (by rw [e5, hl]; exact hav)
  rw [e9] at m3
  rw [hrk] at m3 ho ⊢
  refine met_mono m3 (fun a st ou t hq => ?_)
  obtain ⟨⟨rr, u, g1, hp, g3⟩, g4⟩ := hq
  refine ⟨⟨rr, u, g1, ?_, g3⟩, g4⟩
  obtain ⟨o, ho1, ν', q1, q2, q3, q4, q5, q6⟩ := hp
  exact z_anyP_ok (z_alM ho o ho1) (fun i hi => (q1 i (by rw [e5, hl]; omega)).trans (hag i hi)) q3 q4 q5
theorem zg_out {l : Launch} {D : va_G} {K : Nat → ClassId} {β : ZB} {X G : ZX} {M : ZM} {f lo : Nat} (hM : z_nth z_ms X.1 = some M) (hG : z_okX z_SS z_ms l D K β G) (e1 : G.1 = X.1) (e2 : G.2.1 = X.2.1) (e3 : z_len G.2.2.1.1 = z_len X.2.2.1.1) (e4 : G.2.2.2 = X.2.2.2) (hf : G.2.2.2.2.2.1 ≤ f) (hlo : G.2.2.2.2.2.2.1 ≤ lo)
    {ν : Nat → Int} {σ σ0 : Nat → va_E} {av : List Value} (hs : z_sat ν G.2.2.1) (hh : z_hm ν (z_len X.2.2.1.1) β K σ0 X.2.2.2.1 X.2.2.2.2.1 σ) (ha : z_fm (z_mt ν (z_len X.2.2.1.1) β) X.2.1 av) :
    Met l M.1 (wb M.1 M.2.1 M.2.2.1 M.2.2.2.1) (rmOf f lo M.2.2.2.2.2.1 M.2.2.2.2.2.2) (va_Pc av (PS z_SS D K β X.2.2.2.2.1 σ)) (z_Q D K β σ0 X.2.2.2.2.2.2.2 ν (z_len X.2.2.1.1) (X.2.2.2.2.1 + M.2.2.2.2.2.1) M.2.2.2.2.1) M.2.2.2.2.2.1 M.2.2.2.2.2.2 (fr β.1) := by
  obtain ⟨M', m1, m2⟩ := hG f lo hf hlo
  rw [e1, hM] at m1
  cases m1
  have m3 := m2 ν σ σ0 av hs (by rw [e3, e4]; exact hh) (by rw [e3, e2]; exact ha)
  rw [e3, e4] at m3
  exact m3
theorem zg_sat1 {ν : Nat → Int} {lo hi : Int} (h1 : lo ≤ ν 0) (h2 : ν 0 ≤ hi) : z_sat ν ([(lo, hi)], [], []) := by
  refine ⟨fun i q hq => ?_, fun g hg => (by cases hg), fun x hx => (by cases hx)⟩
  cases i with
  | zero => cases hq; exact ⟨h1, h2⟩
  | succ i => cases hq
