/-! values, cells, states -/
abbrev ZB : Type := Nat × Nat × (Nat → Nat) × (Nat → Nat)
def z_fm2 (a : AV) : FM := (a.2.2.1, a.2.2.2.2)
/-- a number known by its bounds alone, or an act (mark 1) -/
def z_mk1 (m : Nat) (lo hi X : Int) : Prop := lo ≤ X ∧ X ≤ hi ∧ (m = 0 ∨ z_act X)
/-- number j of the script; names x .. x + 5 are the script's numbers from name d on -/
def z_scv (β : ZB) (j : Nat) : Int := (Int32.ofNat (β.2.2.1 (1000 + j))).toInt
def z_scm (ν : Nat → Int) (nv : Nat) (β : ZB) (x d : Nat) : Prop := d < nv ∧ 0 ≤ ν d ∧ x + 6 ≤ nv ∧ ∀ k, k < 6 → ν (x + k) = z_scv β ((ν d).toNat + k)
theorem z_scm_ext {ν ν' : Nat → Int} {nv nv' : Nat} {β : ZB} (h : ∀ i, i < nv → ν' i = ν i) (hn : nv ≤ nv') {x d : Nat} (q : z_scm ν nv β x d) : z_scm ν' nv' β x d := by
  obtain ⟨q1, q0, q2, q3⟩ := q
  exact ⟨by omega, by rw [h _ q1]; exact q0, by omega, fun k hk => by rw [h _ (by omega), h _ q1]; exact q3 k hk⟩
def z_mt (ν : Nat → Int) (nv : Nat) (β : ZB) (a : AV) (v : Value) : Prop :=
  (a.1 = 0 ∧ f_wf nv a.2.2.2.2 ∧ ∃ x : Int32, v = .int x ∧ x.toInt = f_evm ν (z_fm2 a)) ∨
  (a.1 = 1 ∧ ∃ x : Int32, v = .int x ∧ z_mk1 a.2.1 a.2.2.1 a.2.2.2.1 x.toInt) ∨
  (a.1 = 2 ∧ f_wf nv a.2.2.2.2 ∧ ∃ x : Int64, v = .long x ∧ x.toInt = f_evm ν (z_fm2 a)) ∨
  (a.1 = 3 ∧ ∃ x : Int64, v = .long x ∧ z_mk1 a.2.1 a.2.2.1 a.2.2.2.1 x.toInt) ∨
  (a.1 = 4 ∧ v = .ref (β.1 + a.2.1)) ∨ (a.1 = 5 ∧ (v = .null ∨ ∃ r : Nat, v = .ref r)) ∨ (a.1 = 6 ∧ ∃ r : Nat, v = .ref r) ∨ (a.1 = 7 ∧ v = .ref β.2.1 ∧ f_wf nv a.2.2.2.2 ∧ f_evm ν (z_fm2 a) = ((β.2.2.1 999 : Nat) : Int) ∧ (a.2.1 = 0 ∨ z_scm ν nv β a.2.1 a.2.2.2.1.toNat)) ∨ (a.1 = 8 ∧ v = .ref (β.2.2.1 a.2.1)) ∨ (a.1 = 9 ∧ v = .ref (β.2.2.2 a.2.1))
def z_at (l : List AV) (j : Nat) : Option AV := match l with
  | [] => none
  | [a] => some a
  | a :: b :: k => z_nth (a :: b :: k) j
def z_rf (o : Option Nat) : Value := match o with
  | some a => .ref a
  | none => .null
/-- a row that was looked at: of each three numbers behind off, as far as sz goes, the first is a RANK, the second a YEAR, the third a WATER -/
def z_seen (off sz : Int) (f : Nat → Int64) : Prop := ∀ j : Nat, j % 3 = 0 → (j : Int) < sz → 0 ≤ off ∧ (0 ≤ (f (off.toNat + j)).toInt ∧ (f (off.toNat + j)).toInt ≤ 5) ∧ (0 ≤ (f (off.toNat + j + 1)).toInt ∧ (f (off.toNat + j + 1)).toInt ≤ 15) ∧ 0 ≤ (f (off.toNat + j + 2)).toInt ∧ (f (off.toNat + j + 2)).toInt ≤ 99
/-- the next three, as far as they were read -/
def z_nx (ν : Nat → Int) (nv : Nat) (β : ZB) (p : Int) (f : Nat → Int64) : Nat → List AV → Prop
  | _, [] => True
  | d, r :: l => (r.1 = 2 → z_mt ν nv β r (.long (f (p + (d : Int)).toNat))) ∧ z_nx ν nv β p f (d + 1) l
/-- bytes that were read: places and values -/
def z_mem (ν : Nat → Int) (nv : Nat) (β : ZB) (f : Nat → Int32) : List AV → Prop
  | [] => True
  | [_] => False
  | ix :: v :: l => f_wf nv ix.2.2.2.2 ∧ z_mt ν nv β v (.int (f (f_evm ν (z_fm2 ix)).toNat)) ∧ z_mem ν nv β f l
/-- kinds: 0 object, 1 int row, 2 byte row, 3 long row, 4 boolean row, 5 and 6 rows of references, 7 a long row that was looked at, 8 a byte row that was read -/
def z_mc (ν : Nat → Int) (nv : Nat) (β : ZB) (K : Nat → ClassId) (c : AC) (e : va_E) : Prop :=
  (c.1 = 0 ∧ ∃ vs, e = .inr (c.2.1, vs) ∧ z_fm (z_mt ν nv β) c.2.2 vs) ∨
  ((c.1 = 1 ∨ c.1 = 2 ∨ c.1 = 4) ∧ ∃ f : Nat → Int32, e = .inl (K (c.1 - 1), c.2.1, .inl f) ∧ ∀ j, j < c.2.1 → ∃ a, z_at c.2.2 j = some a ∧ z_mt ν nv β a (.int (f j))) ∨
  (c.1 = 3 ∧ ∃ f : Nat → Int64, e = .inl (K 2, c.2.1, .inr (.inl f)) ∧ ∀ j, j < c.2.1 → ∃ a, z_at c.2.2 j = some a ∧ z_mt ν nv β a (.long (f j))) ∨
  ((c.1 = 5 ∨ c.1 = 6) ∧ ∃ f : Nat → Option Nat, e = .inl (K (c.1 - 1), c.2.1, .inr (.inr (.inr (.inr f)))) ∧ ∀ j, j < c.2.1 → ∃ a, z_at c.2.2 j = some a ∧ z_mt ν nv β a (z_rf (f j))) ∨
  (c.1 = 7 ∧ ∃ (f : Nat → Int64) (so sz : AV) (rs : List AV), e = .inl (K 2, c.2.1, .inr (.inl f)) ∧ c.2.2 = so :: sz :: rs ∧ f_wf nv so.2.2.2.2 ∧ f_wf nv sz.2.2.2.2 ∧ z_seen (f_evm ν (z_fm2 so)) (f_evm ν (z_fm2 sz)) f ∧ z_nx ν nv β (f_evm ν (z_fm2 so) + f_evm ν (z_fm2 sz)) f 0 rs) ∨
  (c.1 = 8 ∧ ∃ (f : Nat → Int32) (a : AV) (l : List AV), e = .inl (K 1, c.2.1, .inl f) ∧ c.2.2 = a :: l ∧ (∀ j, j < c.2.1 → z_mt ν nv β a (.int (f j))) ∧ z_mem ν nv β f l)
/-- cells: kind 99 isn't touched, kinds of 100 and above are only read: they hold what they held at first -/
def z_hm (ν : Nat → Int) (nv : Nat) (β : ZB) (K : Nat → ClassId) (σ0 : Nat → va_E) (h : T2 AC) (n : Nat) (σ : Nat → va_E) : Prop := ∀ (i : Nat) (c : AC), z_g2 h i = some c → (99 ≤ c.1 → σ i = σ0 i) ∧ (c.1 = 99 ∨ (i < n ∧ z_mc ν nv β K (c.1 % 100, c.2) (σ i)))
def z_lm (ν : Nat → Int) (nv : Nat) (β : ZB) (loc : List (Nat × AV)) (ls : Array Slot) (nL : Nat) : Prop := ∃ lv : List (Nat × Value), lv_has ls nL lv ∧ z_fm (fun a q => a.1 = q.1 ∧ z_mt ν nv β a.2 q.2) loc lv
/-- more names: nothing is lost -/
theorem z_mt_ext {ν ν' : Nat → Int} {nv nv' : Nat} {β : ZB} (h : ∀ i, i < nv → ν' i = ν i) (hn : nv ≤ nv') {a : AV} {v : Value} (q : z_mt ν nv β a v) : z_mt ν' nv' β a v := by
  have ev : f_wf nv a.2.2.2.2 → f_evm ν' (z_fm2 a) = f_evm ν (z_fm2 a) := fun hw => by
    show a.2.2.1 + f_ev ν' a.2.2.2.2 = a.2.2.1 + f_ev ν a.2.2.2.2
    rw [f_ev_ext h hw]
  rcases q with ⟨h1, hw, x, h2, h3⟩ | q | ⟨h1, hw, x, h2, h3⟩ | q | q | q | q | ⟨h1, h2, hw, h3, h4⟩ | q
  · exact Or.inl ⟨h1, f_wf_mono hn hw, x, h2, by rw [ev hw]; exact h3⟩
  · exact Or.inr (Or.inl q)
  · exact Or.inr (Or.inr (Or.inl ⟨h1, f_wf_mono hn hw, x, h2, by rw [ev hw]; exact h3⟩))
  · exact Or.inr (Or.inr (Or.inr (Or.inl q)))
  · exact Or.inr (Or.inr (Or.inr (Or.inr (Or.inl q))))
  · exact Or.inr (Or.inr (Or.inr (Or.inr (Or.inr (Or.inl q)))))
  · exact Or.inr (Or.inr (Or.inr (Or.inr (Or.inr (Or.inr (Or.inl q))))))
  · exact Or.inr (Or.inr (Or.inr (Or.inr (Or.inr (Or.inr (Or.inr (Or.inl ⟨h1, h2, f_wf_mono hn hw, by rw [ev hw]; exact h3, h4.imp id (z_scm_ext h hn)⟩)))))))
  · exact Or.inr (Or.inr (Or.inr (Or.inr (Or.inr (Or.inr (Or.inr (Or.inr q)))))))
theorem z_nx_ext {ν ν' : Nat → Int} {nv nv' : Nat} {β : ZB} (h : ∀ i, i < nv → ν' i = ν i) (hn : nv ≤ nv') {p : Int} {f : Nat → Int64} {d : Nat} {l : List AV} (q : z_nx ν nv β p f d l) : z_nx ν' nv' β p f d l := by
  induction l generalizing d with
  | nil => trivial
  | cons r l ih => exact ⟨fun g => z_mt_ext h hn (q.1 g), ih q.2⟩
theorem z_mem_ext {ν ν' : Nat → Int} {nv nv' : Nat} {β : ZB} (h : ∀ i, i < nv → ν' i = ν i) (hn : nv ≤ nv') {f : Nat → Int32} : ∀ {l : List AV}, z_mem ν nv β f l → z_mem ν' nv' β f l
  | [], _ => trivial
  | [_], q => q.elim
  | ix :: v :: l, q => by
    refine ⟨f_wf_mono hn q.1, ?_, z_mem_ext h hn q.2.2⟩
    have e : f_evm ν' (z_fm2 ix) = f_evm ν (z_fm2 ix) := by show ix.2.2.1 + _ = ix.2.2.1 + _; rw [show f_ev ν' (z_fm2 ix).2 = f_ev ν (z_fm2 ix).2 from f_ev_ext h q.1]
    rw [e]
    exact z_mt_ext h hn q.2.1
theorem z_mc_ext {ν ν' : Nat → Int} {nv nv' : Nat} {β : ZB} {K : Nat → ClassId} (h : ∀ i, i < nv → ν' i = ν i) (hn : nv ≤ nv') {c : AC} {e : va_E} (q : z_mc ν nv β K c e) : z_mc ν' nv' β K c e := by
  rcases q with ⟨h1, vs, h2, h3⟩ | ⟨h1, f, h2, h3⟩ | ⟨h1, f, h2, h3⟩ | ⟨h1, f, h2, h3⟩ | ⟨h1, f, so, sz, rs, h2, h3, h4, h5, h6, h7⟩ | ⟨h1, f, a, l, h2, h3, h4, h5⟩
  · exact Or.inl ⟨h1, vs, h2, z_fm_mono (fun _ _ => z_mt_ext h hn) h3⟩
  · exact Or.inr (Or.inl ⟨h1, f, h2, fun j hj => (h3 j hj).imp fun a q => ⟨q.1, z_mt_ext h hn q.2⟩⟩)
  · exact Or.inr (Or.inr (Or.inl ⟨h1, f, h2, fun j hj => (h3 j hj).imp fun a q => ⟨q.1, z_mt_ext h hn q.2⟩⟩))
  · exact Or.inr (Or.inr (Or.inr (Or.inl ⟨h1, f, h2, fun j hj => (h3 j hj).imp fun a q => ⟨q.1, z_mt_ext h hn q.2⟩⟩)))
  · have e1 : f_evm ν' (z_fm2 so) = f_evm ν (z_fm2 so) := by show so.2.2.1 + _ = so.2.2.1 + _; rw [show f_ev ν' (z_fm2 so).2 = f_ev ν (z_fm2 so).2 from f_ev_ext h h4]
    have e2 : f_evm ν' (z_fm2 sz) = f_evm ν (z_fm2 sz) := by show sz.2.2.1 + _ = sz.2.2.1 + _; rw [show f_ev ν' (z_fm2 sz).2 = f_ev ν (z_fm2 sz).2 from f_ev_ext h h5]
    refine Or.inr (Or.inr (Or.inr (Or.inr (Or.inl ⟨h1, f, so, sz, rs, h2, h3, f_wf_mono hn h4, f_wf_mono hn h5, ?_, ?_⟩))))
    · rw [e1, e2]
      exact h6
    · rw [e1, e2]
      exact z_nx_ext h hn h7
  · exact Or.inr (Or.inr (Or.inr (Or.inr (Or.inr ⟨h1, f, a, l, h2, h3, fun j hj => z_mt_ext h hn (h4 j hj), z_mem_ext h hn h5⟩))))
theorem z_hm_ext {ν ν' : Nat → Int} {nv nv' : Nat} {β : ZB} {K : Nat → ClassId} {σ0 : Nat → va_E} (h : ∀ i, i < nv → ν' i = ν i) (hn : nv ≤ nv') {t : T2 AC} {n : Nat} {σ : Nat → va_E} (q : z_hm ν nv β K σ0 t n σ) : z_hm ν' nv' β K σ0 t n σ := fun i c hc => ⟨(q i c hc).1, (q i c hc).2.imp id (fun z => ⟨z.1, z_mc_ext h hn z.2⟩)⟩
theorem z_lm_ext {ν ν' : Nat → Int} {nv nv' : Nat} {β : ZB} (h : ∀ i, i < nv → ν' i = ν i) (hn : nv ≤ nv') {loc : List (Nat × AV)} {ls : Array Slot} {nL : Nat} (q : z_lm ν nv β loc ls nL) : z_lm ν' nv' β loc ls nL := by
  obtain ⟨lv, h1, h2⟩ := q
  exact ⟨lv, h1, z_fm_mono (fun _ _ z => ⟨z.1, z_mt_ext h hn z.2⟩) h2⟩
/-- the same names by other numbers: what is known stays, if it is known of them -/
theorem z_sat_ext {ν ν' : Nat → Int} {V : VS} (h : ∀ i, i < z_len V.1 → ν' i = ν i) (hs : z_sat ν V) : z_sat ν' V := by
  refine ⟨fun i q hq => ?_, fun g hg => ?_, fun x hx => ?_⟩
  · rw [h i (z_nth_lt hq)]; exact hs.1 i q hq
  · obtain ⟨h1, h2⟩ := hs.2.1 g hg
    refine ⟨h1, ?_⟩
    show g.1 + f_ev ν' g.2 ≤ 0
    rw [f_ev_ext h h1]
    exact h2
  · obtain ⟨h1, h2⟩ := hs.2.2 x hx
    exact ⟨h1, by rw [h x h1]; exact h2⟩
/-- a new name, with bounds -/
def z_addv (V : VS) (lo hi : Int) : VS := (z_app V.1 [(lo, hi)], V.2)
theorem z_addv_len {V : VS} {lo hi : Int} : z_len (z_addv V lo hi).1 = z_len V.1 + 1 := by
  show z_len (z_app V.1 [(lo, hi)]) = _
  rw [z_len_app]; rfl
theorem z_addv_ok {ν : Nat → Int} {V : VS} {lo hi X : Int} (hs : z_sat ν V) (h1 : lo ≤ X) (h2 : X ≤ hi) : ∃ ν' : Nat → Int, (∀ i, i < z_len V.1 → ν' i = ν i) ∧ ν' (z_len V.1) = X ∧ z_sat ν' (z_addv V lo hi) := by
  refine ⟨fun j => if j = z_len V.1 then X else ν j, fun i hi => by simp [show ¬ i = z_len V.1 by omega], by simp, ?_⟩
  have hag : ∀ i, i < z_len V.1 → (if i = z_len V.1 then X else ν i) = ν i := fun i hi => by simp [show ¬ i = z_len V.1 by omega]
  have hs' := z_sat_ext (ν' := fun j => if j = z_len V.1 then X else ν j) hag hs
  refine ⟨fun j q hq => ?_, fun g hg => ?_, fun x hx => ?_⟩
  · rcases z_nth_last _ hq with ⟨g1, g2⟩ | ⟨g1, rfl⟩
    · exact hs'.1 j q g2
    · simp only [g1, if_true]
      exact ⟨h1, h2⟩
  · obtain ⟨a, b⟩ := hs'.2.1 g hg
    exact ⟨f_wf_mono (by rw [z_addv_len]; omega) a, b⟩
  · obtain ⟨a, b⟩ := hs'.2.2 x hx
    exact ⟨by rw [z_addv_len]; omega, b⟩
/-- the form that is one name -/
def z_var (t x : Nat) : AV := (t, 0, 0, 0, [(1, x)])
theorem z_var_ev {ν : Nat → Int} {t x : Nat} : f_evm ν (z_fm2 (z_var t x)) = ν x := by
  show (0 : Int) + (1 * ν x + 0) = ν x
  omega
theorem z_var_wf {t x n : Nat} (h : x < n) : f_wf n (z_var t x).2.2.2.2 := fun q hq => by
  rw [List.mem_singleton.mp hq]
  exact h
