/-! a machine over bounds: a number is a pair of bounds, or the name of a number that has bounds; a cell is a place -/
abbrev AV : Type := Nat × Nat × Int × Int
abbrev AC : Type := Nat × Nat × List AV
abbrev VS : Type := List (Int × Int)
abbrev T2 (α : Type) : Type := List (List α)
def z_nth {α : Type} : List α → Nat → Option α
  | [], _ => none
  | a :: _, 0 => some a
  | _ :: l, n + 1 => z_nth l n
def z_put {α : Type} : List α → Nat → α → List α
  | [], _, _ => []
  | _ :: l, 0, x => x :: l
  | a :: l, n + 1, x => a :: z_put l n x
def z_len {α : Type} : List α → Nat
  | [] => 0
  | _ :: l => Nat.succ (z_len l)
def z_app {α : Type} : List α → List α → List α
  | [], k => k
  | a :: l, k => a :: z_app l k
def z_g2 {α : Type} (t : T2 α) (i : Nat) : Option α := match z_nth t (Nat.div i 16) with
  | some r => z_nth r (Nat.mod i 16)
  | none => none
def z_s2 {α : Type} (t : T2 α) (i : Nat) (x : α) : T2 α := match z_nth t (Nat.div i 16) with
  | some r => z_put t (Nat.div i 16) (z_put r (Nat.mod i 16) x)
  | none => t
theorem z_len_put {α : Type} (l : List α) (i : Nat) (x : α) : z_len (z_put l i x) = z_len l := by
  induction l generalizing i with
  | nil => rfl
  | cons a l ih => cases i with
    | zero => rfl
    | succ i => exact congrArg Nat.succ (ih i)
theorem z_nth_self {α : Type} {l : List α} {i : Nat} {a : α} (h : z_nth l i = some a) (x : α) : z_nth (z_put l i x) i = some x := by
  induction l generalizing i with
  | nil => cases h
  | cons b l ih => cases i with
    | zero => rfl
    | succ i => exact ih h
theorem z_nth_ne {α : Type} {i j : Nat} (l : List α) (x : α) (h : i ≠ j) : z_nth (z_put l i x) j = z_nth l j := by
  induction l generalizing i j with
  | nil => rfl
  | cons b l ih => cases i with
    | zero => cases j with
      | zero => exact absurd rfl h
      | succ j => rfl
    | succ i => cases j with
      | zero => rfl
      | succ j => exact ih (fun e => h (by rw [e]))
theorem z_nth_lt {α : Type} {l : List α} {i : Nat} {a : α} (h : z_nth l i = some a) : i < z_len l := by
  induction l generalizing i with
  | nil => cases h
  | cons b l ih => cases i with
    | zero => exact Nat.succ_pos _
    | succ i => exact Nat.succ_lt_succ (ih h)
theorem z_nth_app {α : Type} {l k : List α} {i : Nat} (h : i < z_len l) : z_nth (z_app l k) i = z_nth l i := by
  induction l generalizing i with
  | nil => cases h
  | cons b l ih => cases i with
    | zero => rfl
    | succ i => exact ih (Nat.lt_of_succ_lt_succ h)
theorem z_nth_last {α : Type} {l : List α} (x : α) {i : Nat} {a : α} (h : z_nth (z_app l [x]) i = some a) : (i < z_len l ∧ z_nth l i = some a) ∨ (i = z_len l ∧ a = x) := by
  induction l generalizing i with
  | nil => cases i with
    | zero => right; exact ⟨rfl, (Option.some.inj h).symm⟩
    | succ i => cases h
  | cons b l ih => cases i with
    | zero => left; exact ⟨Nat.succ_pos _, h⟩
    | succ i => rcases ih h with ⟨h1, h2⟩ | ⟨h1, h2⟩
                · left; exact ⟨Nat.succ_lt_succ h1, h2⟩
                · right; exact ⟨congrArg Nat.succ h1, h2⟩
theorem z_len_app {α : Type} (l k : List α) : z_len (z_app l k) = z_len l + z_len k := by
  induction l with
  | nil => exact (Nat.zero_add _).symm
  | cons b l ih => show Nat.succ (z_len (z_app l k)) = Nat.succ (z_len l) + z_len k; rw [ih]; omega
theorem z_mem_app {α : Type} {l k : List α} {a : α} : a ∈ z_app l k ↔ a ∈ l ∨ a ∈ k := by
  induction l with
  | nil => simp [z_app]
  | cons b l ih => simp [z_app, ih, or_assoc]
theorem z_g2_self {α : Type} {t : T2 α} {i : Nat} {a : α} (h : z_g2 t i = some a) (x : α) : z_g2 (z_s2 t i x) i = some x := by
  unfold z_g2 z_s2 at *
  cases hr : z_nth t (Nat.div i 16) with
  | none => rw [hr] at h; cases h
  | some r =>
    rw [hr] at h
    simp only
    rw [z_nth_self hr]
    exact z_nth_self h x
theorem z_g2_ne {α : Type} {i j : Nat} (t : T2 α) (x : α) (h : i ≠ j) : z_g2 (z_s2 t i x) j = z_g2 t j := by
  unfold z_g2 z_s2
  cases hr : z_nth t (Nat.div i 16) with
  | none => rfl
  | some r =>
    simp only
    by_cases hd : Nat.div i 16 = Nat.div j 16
    · rw [← hd, z_nth_self hr, hr]
      simp only
      refine z_nth_ne r x ?_
      intro hm
      have h1 : i = 16 * (i / 16) + i % 16 := (Nat.div_add_mod i 16).symm
      have h2 : j = 16 * (j / 16) + j % 16 := (Nat.div_add_mod j 16).symm
      have hd' : i / 16 = j / 16 := hd
      have hm' : i % 16 = j % 16 := hm
      omega
    · rw [z_nth_ne _ _ hd]
/-- whole numbers, compared by their makers -/
def z_le : Int → Int → Bool
  | .ofNat m, .ofNat n => Nat.ble m n
  | .negSucc _, .ofNat _ => true
  | .ofNat _, .negSucc _ => false
  | .negSucc m, .negSucc n => Nat.ble n m
theorem z_le_iff {a b : Int} : z_le a b = true ↔ a ≤ b := by
  cases a <;> cases b <;> simp [z_le] <;> omega
theorem z_le_f {a b : Int} : z_le a b = false ↔ b < a := by
  have := @z_le_iff a b
  cases h : z_le a b <;> simp [h] at this ⊢ <;> omega
def z_max (a b : Int) : Int := match z_le a b with
  | true => b
  | false => a
def z_min (a b : Int) : Int := match z_le a b with
  | true => a
  | false => b
theorem z_max_le {a b : Int} : a ≤ z_max a b ∧ b ≤ z_max a b ∧ ∀ x : Int, a ≤ x → b ≤ x → z_max a b ≤ x := by
  unfold z_max
  cases h : z_le a b
  · have := z_le_f.mp h; exact ⟨by simp, by simp; omega, fun x h1 _ => h1⟩
  · have := z_le_iff.mp h; exact ⟨by simpa using this, by simp, fun x _ h1 => h1⟩
theorem z_min_le {a b : Int} : z_min a b ≤ a ∧ z_min a b ≤ b ∧ ∀ x : Int, x ≤ a → x ≤ b → x ≤ z_min a b := by
  unfold z_min
  cases h : z_le a b
  · have := z_le_f.mp h; exact ⟨by simp; omega, by simp, fun x _ h1 => h1⟩
  · have := z_le_iff.mp h; exact ⟨by simp, by simpa using this, fun x h1 _ => h1⟩
def z_fm {α β : Type} (P : α → β → Prop) : List α → List β → Prop
  | [], [] => True
  | a :: l, b :: k => P a b ∧ z_fm P l k
  | [], _ :: _ => False
  | _ :: _, [] => False
theorem z_fm_mono {α β : Type} {P R : α → β → Prop} (h : ∀ a b, P a b → R a b) {l : List α} {k : List β} (q : z_fm P l k) : z_fm R l k := by
  induction l generalizing k with
  | nil => cases k with
    | nil => trivial
    | cons => exact q.elim
  | cons a l ih => cases k with
    | nil => exact q.elim
    | cons b k => exact ⟨h _ _ q.1, ih q.2⟩
theorem z_fm_cons {α β : Type} {P : α → β → Prop} {a : α} {l : List α} {k : List β} (q : z_fm P (a :: l) k) : ∃ b k', k = b :: k' ∧ P a b ∧ z_fm P l k' := by
  cases k with
  | nil => exact q.elim
  | cons b k => exact ⟨b, k, rfl, q.1, q.2⟩
theorem z_fm_nil {α β : Type} {P : α → β → Prop} {k : List β} (q : z_fm P [] k) : k = [] := by
  cases k with
  | nil => rfl
  | cons b k => exact q.elim
theorem z_fm_nth {α β : Type} {P : α → β → Prop} {l : List α} {k : List β} {i : Nat} {a : α} (q : z_fm P l k) (h : z_nth l i = some a) : ∃ b, k[i]? = some b ∧ P a b := by
  induction l generalizing k i with
  | nil => cases h
  | cons c l ih => cases k with
    | nil => exact q.elim
    | cons b k => cases i with
      | zero => exact ⟨b, rfl, by cases h; exact q.1⟩
      | succ i => obtain ⟨b', h1, h2⟩ := ih q.2 h; exact ⟨b', by simpa using h1, h2⟩
theorem z_fm_put {α β : Type} {P : α → β → Prop} {l : List α} {k : List β} {i : Nat} {a : α} {b : β} (q : z_fm P l k) (h : P a b) : z_fm P (z_put l i a) (k.set i b) := by
  induction l generalizing k i with
  | nil => cases k with
    | nil => exact q
    | cons => exact q.elim
  | cons c l ih => cases k with
    | nil => exact q.elim
    | cons b' k => cases i with
      | zero => exact ⟨h, q.2⟩
      | succ i => exact ⟨q.1, ih q.2⟩
theorem z_fm_len {α β : Type} {P : α → β → Prop} {l : List α} {k : List β} (q : z_fm P l k) : k.length = z_len l := by
  induction l generalizing k with
  | nil => cases k with
    | nil => rfl
    | cons => exact q.elim
  | cons c l ih => cases k with
    | nil => exact q.elim
    | cons b k => simp [z_len, ih q.2]
/-- what the numbers, values and cells of the machine over bounds say of the machine's own: tags 0 int, 1 named int, 2 long, 3 named long, 4 place, 5 null, 7 the script -/
def z_zm (ν : Nat → Int) (nv : Nat) (a : AV) (X : Int) : Prop := (a.1 % 2 = 0 ∧ a.2.2.1 ≤ X ∧ X ≤ a.2.2.2) ∨ (a.1 % 2 = 1 ∧ a.2.1 < nv ∧ X = ν a.2.1)
def z_mt (ν : Nat → Int) (nv B b : Nat) (a : AV) (v : Value) : Prop :=
  (a.1 < 2 ∧ ∃ x : Int32, v = .int x ∧ z_zm ν nv a x.toInt) ∨ ((a.1 = 2 ∨ a.1 = 3) ∧ ∃ x : Int64, v = .long x ∧ z_zm ν nv a x.toInt) ∨ (a.1 = 4 ∧ v = .ref (B + a.2.1)) ∨ (a.1 = 5 ∧ v = .null) ∨ (a.1 = 7 ∧ v = .ref b)
def z_sat (ν : Nat → Int) (V : VS) : Prop := ∀ (i : Nat) (q : Int × Int), z_nth V i = some q → q.1 ≤ ν i ∧ ν i ≤ q.2
def z_at (l : List AV) (j : Nat) : Option AV := match l with
  | [] => none
  | [a] => some a
  | a :: b :: k => z_nth (a :: b :: k) j
def z_rf (o : Option Nat) : Value := match o with
  | some a => .ref a
  | none => .null
def z_mc (ν : Nat → Int) (nv B b : Nat) (K : Nat → ClassId) (c : AC) (e : va_E) : Prop :=
  (c.1 = 0 ∧ ∃ vs, e = .inr (c.2.1, vs) ∧ z_fm (z_mt ν nv B b) c.2.2 vs) ∨
  ((c.1 = 1 ∨ c.1 = 2 ∨ c.1 = 4) ∧ ∃ f : Nat → Int32, e = .inl (K (c.1 - 1), c.2.1, .inl f) ∧ ∀ j, j < c.2.1 → ∃ a, z_at c.2.2 j = some a ∧ z_mt ν nv B b a (.int (f j))) ∨
  (c.1 = 3 ∧ ∃ f : Nat → Int64, e = .inl (K 2, c.2.1, .inr (.inl f)) ∧ ∀ j, j < c.2.1 → ∃ a, z_at c.2.2 j = some a ∧ z_mt ν nv B b a (.long (f j))) ∨
  ((c.1 = 5 ∨ c.1 = 6) ∧ ∃ f : Nat → Option Nat, e = .inl (K (c.1 - 1), c.2.1, .inr (.inr (.inr (.inr f)))) ∧ ∀ j, j < c.2.1 → ∃ a, z_at c.2.2 j = some a ∧ z_mt ν nv B b a (z_rf (f j)))
def z_hm (ν : Nat → Int) (nv B b : Nat) (K : Nat → ClassId) (h : T2 AC) (n : Nat) (σ : Nat → va_E) : Prop := ∀ (i : Nat) (c : AC), z_g2 h i = some c → c.1 = 99 ∨ (i < n ∧ z_mc ν nv B b K c (σ i))
def z_lm (ν : Nat → Int) (nv B b : Nat) (loc : List (Nat × AV)) (ls : Array Slot) (nL : Nat) : Prop := ∃ lv : List (Nat × Value), lv_has ls nL lv ∧ z_fm (fun a q => a.1 = q.1 ∧ z_mt ν nv B b a.2 q.2) loc lv
/-- more names: nothing is lost -/
theorem z_zm_ext {ν ν' : Nat → Int} {nv nv' : Nat} (h : ∀ i, i < nv → ν' i = ν i) (hn : nv ≤ nv') {a : AV} {X : Int} (q : z_zm ν nv a X) : z_zm ν' nv' a X := by
  rcases q with q | ⟨h1, h2, h3⟩
  · exact Or.inl q
  · exact Or.inr ⟨h1, Nat.lt_of_lt_of_le h2 hn, by rw [h _ h2]; exact h3⟩
theorem z_mt_ext {ν ν' : Nat → Int} {nv nv' B b : Nat} (h : ∀ i, i < nv → ν' i = ν i) (hn : nv ≤ nv') {a : AV} {v : Value} (q : z_mt ν nv B b a v) : z_mt ν' nv' B b a v := by
  rcases q with ⟨h1, x, h2, h3⟩ | ⟨h1, x, h2, h3⟩ | q
  · exact Or.inl ⟨h1, x, h2, z_zm_ext h hn h3⟩
  · exact Or.inr (Or.inl ⟨h1, x, h2, z_zm_ext h hn h3⟩)
  · exact Or.inr (Or.inr q)
theorem z_mc_ext {ν ν' : Nat → Int} {nv nv' B b : Nat} {K : Nat → ClassId} (h : ∀ i, i < nv → ν' i = ν i) (hn : nv ≤ nv') {c : AC} {e : va_E} (q : z_mc ν nv B b K c e) : z_mc ν' nv' B b K c e := by
  rcases q with ⟨h1, vs, h2, h3⟩ | ⟨h1, f, h2, h3⟩ | ⟨h1, f, h2, h3⟩ | ⟨h1, f, h2, h3⟩
  · exact Or.inl ⟨h1, vs, h2, z_fm_mono (fun _ _ => z_mt_ext h hn) h3⟩
  · exact Or.inr (Or.inl ⟨h1, f, h2, fun j hj => (h3 j hj).imp fun a q => ⟨q.1, z_mt_ext h hn q.2⟩⟩)
  · exact Or.inr (Or.inr (Or.inl ⟨h1, f, h2, fun j hj => (h3 j hj).imp fun a q => ⟨q.1, z_mt_ext h hn q.2⟩⟩))
  · exact Or.inr (Or.inr (Or.inr ⟨h1, f, h2, fun j hj => (h3 j hj).imp fun a q => ⟨q.1, z_mt_ext h hn q.2⟩⟩))
theorem z_hm_ext {ν ν' : Nat → Int} {nv nv' B b : Nat} {K : Nat → ClassId} (h : ∀ i, i < nv → ν' i = ν i) (hn : nv ≤ nv') {t : T2 AC} {n : Nat} {σ : Nat → va_E} (q : z_hm ν nv B b K t n σ) : z_hm ν' nv' B b K t n σ := fun i c hc => (q i c hc).imp id (fun z => ⟨z.1, z_mc_ext h hn z.2⟩)
theorem z_lm_ext {ν ν' : Nat → Int} {nv nv' B b : Nat} (h : ∀ i, i < nv → ν' i = ν i) (hn : nv ≤ nv') {loc : List (Nat × AV)} {ls : Array Slot} {nL : Nat} (q : z_lm ν nv B b loc ls nL) : z_lm ν' nv' B b loc ls nL := by
  obtain ⟨lv, h1, h2⟩ := q
  exact ⟨lv, h1, z_fm_mono (fun _ _ z => ⟨z.1, z_mt_ext h hn z.2⟩) h2⟩
/-- bounds of a number -/
def z_iv (V : VS) (a : AV) : Option (Int × Int) := match Nat.mod a.1 2 with
  | 0 => some a.2.2
  | _ + 1 => z_nth V a.2.1
theorem z_iv_ok {ν : Nat → Int} {V : VS} {a : AV} {X : Int} {r : Int × Int} (hs : z_sat ν V) (q : z_zm ν (z_len V) a X) (h : z_iv V a = some r) : r.1 ≤ X ∧ X ≤ r.2 := by
  unfold z_iv at h
  have hm : Nat.mod a.1 2 = a.1 % 2 := rfl
  rcases q with ⟨h1, h2, h3⟩ | ⟨h1, h2, h3⟩
  · rw [hm, h1] at h; cases h; exact ⟨h2, h3⟩
  · rw [hm, h1] at h; rw [h3]; exact hs _ _ h
/-- kinds: 0 int, 1 long, 2 reference -/
def z_isI (a : AV) : Bool := Nat.ble a.1 1
def z_isL (a : AV) : Bool := match Nat.beq a.1 2 with
  | true => true
  | false => Nat.beq a.1 3
theorem z_isI_iff {a : AV} : z_isI a = true ↔ a.1 < 2 := by unfold z_isI; simp; omega
theorem z_isL_iff {a : AV} : z_isL a = true ↔ (a.1 = 2 ∨ a.1 = 3) := by
  unfold z_isL
  cases h : Nat.beq a.1 2
  · have : a.1 ≠ 2 := fun e => by rw [e] at h; cases h
    simp [this]
  · simp [Nat.eq_of_beq_eq_true h]
theorem z_mt_i {ν : Nat → Int} {nv B b : Nat} {a : AV} {v : Value} (q : z_mt ν nv B b a v) (h : z_isI a = true) : ∃ x : Int32, v = .int x ∧ z_zm ν nv a x.toInt := by
  have h := z_isI_iff.mp h
  rcases q with ⟨_, q⟩ | ⟨h1, _⟩ | ⟨h1, _⟩ | ⟨h1, _⟩ | ⟨h1, _⟩
  · exact q
  all_goals omega
theorem z_mt_l {ν : Nat → Int} {nv B b : Nat} {a : AV} {v : Value} (q : z_mt ν nv B b a v) (h : z_isL a = true) : ∃ x : Int64, v = .long x ∧ z_zm ν nv a x.toInt := by
  have h := z_isL_iff.mp h
  rcases q with ⟨h1, _⟩ | ⟨_, q⟩ | ⟨h1, _⟩ | ⟨h1, _⟩ | ⟨h1, _⟩
  · omega
  · exact q
  all_goals omega
theorem z_mt_r {ν : Nat → Int} {nv B b : Nat} {a : AV} {v : Value} (q : z_mt ν nv B b a v) (h : Nat.beq a.1 4 = true) : v = .ref (B + a.2.1) := by
  have h := Nat.eq_of_beq_eq_true h
  rcases q with ⟨h1, _⟩ | ⟨h1, _⟩ | ⟨_, q⟩ | ⟨h1, _⟩ | ⟨h1, _⟩
  · omega
  · omega
  · exact q
  all_goals omega
theorem z_mt_s {ν : Nat → Int} {nv B b : Nat} {a : AV} {v : Value} (q : z_mt ν nv B b a v) (h : Nat.beq a.1 7 = true) : v = .ref b := by
  have h := Nat.eq_of_beq_eq_true h
  rcases q with ⟨h1, _⟩ | ⟨h1, _⟩ | ⟨h1, _⟩ | ⟨h1, _⟩ | ⟨_, q⟩
  · omega
  · omega
  · omega
  · omega
  · exact q
theorem z_mt_cat {ν : Nat → Int} {nv B b : Nat} {a : AV} {v : Value} (q : z_mt ν nv B b a v) : v.category = (match z_isL a with | true => 2 | false => 1) := by
  rcases q with ⟨h1, x, rfl, _⟩ | ⟨h1, x, rfl, _⟩ | ⟨h1, rfl⟩ | ⟨h1, rfl⟩ | ⟨h1, rfl⟩
  · have : z_isL a = false := by cases h : z_isL a with | false => rfl | true => have := z_isL_iff.mp h; omega
    rw [this]; rfl
  · rw [z_isL_iff.mpr h1]; rfl
  all_goals
    have : z_isL a = false := by cases h : z_isL a with | false => rfl | true => have := z_isL_iff.mp h; omega
    rw [this]; rfl
theorem z_mkI {ν : Nat → Int} {nv B b : Nat} {x : Int32} {lo hi : Int} (h1 : lo ≤ x.toInt) (h2 : x.toInt ≤ hi) {i : Nat} : z_mt ν nv B b (0, i, lo, hi) (.int x) := Or.inl ⟨by show (0 : Nat) < 2; omega, x, rfl, Or.inl ⟨rfl, h1, h2⟩⟩
theorem z_mkL {ν : Nat → Int} {nv B b : Nat} {x : Int64} {lo hi : Int} (h1 : lo ≤ x.toInt) (h2 : x.toInt ≤ hi) {i : Nat} : z_mt ν nv B b (2, i, lo, hi) (.long x) := Or.inr (Or.inl ⟨Or.inl rfl, x, rfl, Or.inl ⟨(by show 2 % 2 = 0; omega), h1, h2⟩⟩)
/-- a number is now known to lie in bounds -/
def z_ref (V : VS) (a : AV) (lo hi : Int) : Option VS := match Nat.mod a.1 2 with
  | 0 => match z_le (z_max a.2.2.1 lo) (z_min a.2.2.2 hi) with
    | true => some V
    | false => none
  | _ + 1 => match z_nth V a.2.1 with
    | some q => match z_le (z_max q.1 lo) (z_min q.2 hi) with
      | true => some (z_put V a.2.1 (z_max q.1 lo, z_min q.2 hi))
      | false => none
    | none => none
theorem z_len_nth {α : Type} {l : List α} {i : Nat} (h : i < z_len l) : ∃ a, z_nth l i = some a := by
  induction l generalizing i with
  | nil => cases h
  | cons b l ih => cases i with
    | zero => exact ⟨b, rfl⟩
    | succ i => exact ih (Nat.lt_of_succ_lt_succ h)
theorem z_ref_ok {ν : Nat → Int} {V : VS} {a : AV} {X lo hi : Int} (hs : z_sat ν V) (q : z_zm ν (z_len V) a X) (h1 : lo ≤ X) (h2 : X ≤ hi) : ∃ V', z_ref V a lo hi = some V' ∧ z_sat ν V' ∧ z_len V' = z_len V := by
  unfold z_ref
  have hm : Nat.mod a.1 2 = a.1 % 2 := rfl
  rcases q with ⟨q1, q2, q3⟩ | ⟨q1, q2, q3⟩
  · rw [hm, q1]
    have : z_le (z_max a.2.2.1 lo) (z_min a.2.2.2 hi) = true := z_le_iff.mpr (Int.le_trans (z_max_le.2.2 X q2 h1) (z_min_le.2.2 X q3 h2))
    simp only [this]
    exact ⟨V, rfl, hs, rfl⟩
  · rw [hm, q1]
    obtain ⟨r, hr⟩ := z_len_nth q2
    have hb := hs _ _ hr
    rw [← q3] at hb
    have : z_le (z_max r.1 lo) (z_min r.2 hi) = true := z_le_iff.mpr (Int.le_trans (z_max_le.2.2 X hb.1 h1) (z_min_le.2.2 X hb.2 h2))
    simp only [hr, this]
    refine ⟨_, rfl, ?_, z_len_put _ _ _⟩
    intro i s hi'
    by_cases e : a.2.1 = i
    · subst e
      rw [z_nth_self hr] at hi'
      cases hi'
      rw [← q3]
      exact ⟨z_max_le.2.2 X hb.1 h1, z_min_le.2.2 X hb.2 h2⟩
    · rw [z_nth_ne _ _ e] at hi'
      exact hs _ _ hi'
/-- comparisons: below, not below, the same -/
def z_bnd (V : VS) (x y : AV) : Option ((Int × Int) × (Int × Int)) := match z_iv V x with
  | some i => match z_iv V y with
    | some j => some (i, j)
    | none => none
  | none => none
def z_both (V : VS) (x y : AV) (a b c d : Int) : Option VS := match z_ref V x a b with
  | some V1 => z_ref V1 y c d
  | none => none
theorem z_both_ok {ν : Nat → Int} {V : VS} {x y : AV} {X Y a b c d : Int} (hs : z_sat ν V) (hx : z_zm ν (z_len V) x X) (hy : z_zm ν (z_len V) y Y) (h1 : a ≤ X) (h2 : X ≤ b) (h3 : c ≤ Y) (h4 : Y ≤ d) : ∃ V', z_both V x y a b c d = some V' ∧ z_sat ν V' ∧ z_len V' = z_len V := by
  obtain ⟨V1, e1, s1, l1⟩ := z_ref_ok hs hx h1 h2
  rw [← l1] at hy
  obtain ⟨V2, e2, s2, l2⟩ := z_ref_ok s1 hy h3 h4
  exact ⟨V2, by unfold z_both; simp only [e1, e2], s2, l2.trans l1⟩
def z_lt (V : VS) (x y : AV) (q : (Int × Int) × (Int × Int)) : Option VS := z_both V x y q.1.1 (Int.add q.2.2 (-1)) (Int.add q.1.1 1) q.2.2
def z_ge (V : VS) (x y : AV) (q : (Int × Int) × (Int × Int)) : Option VS := z_both V x y q.2.1 q.1.2 q.2.1 q.1.2
def z_eq (V : VS) (x y : AV) (q : (Int × Int) × (Int × Int)) : Option VS := z_both V x y q.2.1 q.2.2 q.1.1 q.1.2
def z_ol (o : Option VS) (r : List VS) : List VS := match o with
  | some V => V :: r
  | none => r
def z_sw (q : (Int × Int) × (Int × Int)) : (Int × Int) × (Int × Int) := (q.2, q.1)
/-- 0 eq, 1 ne, 2 lt, 3 ge, 4 gt, 5 le: what is known where it holds, and where it doesn't -/
def z_br (c : Nat) (V : VS) (x y : AV) : Option (List VS × List VS) := match z_bnd V x y with
  | none => none
  | some q => match c with
    | 0 => some (z_ol (z_eq V x y q) [], z_ol (z_lt V x y q) (z_ol (z_lt V y x (z_sw q)) []))
    | 1 => some (z_ol (z_lt V x y q) (z_ol (z_lt V y x (z_sw q)) []), z_ol (z_eq V x y q) [])
    | 2 => some (z_ol (z_lt V x y q) [], z_ol (z_ge V x y q) [])
    | 3 => some (z_ol (z_ge V x y q) [], z_ol (z_lt V x y q) [])
    | 4 => some (z_ol (z_lt V y x (z_sw q)) [], z_ol (z_ge V y x (z_sw q)) [])
    | 5 => some (z_ol (z_ge V y x (z_sw q)) [], z_ol (z_lt V y x (z_sw q)) [])
    | _ => none
def z_cmp (c : Nat) (X Y : Int) : Prop := match c with
  | 0 => X = Y
  | 1 => ¬ X = Y
  | 2 => X < Y
  | 3 => Y ≤ X
  | 4 => Y < X
  | _ => X ≤ Y
theorem z_ol_mem {o : Option VS} {r : List VS} {V : VS} : V ∈ z_ol o r ↔ o = some V ∨ V ∈ r := by
  cases o <;> simp [z_ol, eq_comm]
theorem z_br_ok {ν : Nat → Int} {c : Nat} {V : VS} {x y : AV} {X Y : Int} {t f : List VS} (hs : z_sat ν V) (hx : z_zm ν (z_len V) x X) (hy : z_zm ν (z_len V) y Y) (h : z_br c V x y = some (t, f)) : (z_cmp c X Y → ∃ V' ∈ t, z_sat ν V' ∧ z_len V' = z_len V) ∧ (¬ z_cmp c X Y → ∃ V' ∈ f, z_sat ν V' ∧ z_len V' = z_len V) := by
  unfold z_br at h
  cases hq : z_bnd V x y with
  | none => rw [hq] at h; cases h
  | some q =>
    rw [hq] at h
    have hb : q.1.1 ≤ X ∧ X ≤ q.1.2 ∧ q.2.1 ≤ Y ∧ Y ≤ q.2.2 := by
      unfold z_bnd at hq
      cases hi : z_iv V x with
      | none => rw [hi] at hq; cases hq
      | some i => cases hj : z_iv V y with
        | none => rw [hi] at hq; simp only [hj] at hq; cases hq
        | some j =>
          rw [hi] at hq; simp only [hj] at hq; cases hq
          have a1 := z_iv_ok hs hx hi
          have a2 := z_iv_ok hs hy hj
          exact ⟨a1.1, a1.2, a2.1, a2.2⟩
    obtain ⟨b1, b2, b3, b4⟩ := hb
    have LT : X < Y → ∃ V', z_lt V x y q = some V' ∧ z_sat ν V' ∧ z_len V' = z_len V := fun g => z_both_ok hs hx hy b1 (by show X ≤ q.2.2 + (-1); omega) (by show q.1.1 + 1 ≤ Y; omega) b4
    have GT : Y < X → ∃ V', z_lt V y x (z_sw q) = some V' ∧ z_sat ν V' ∧ z_len V' = z_len V := fun g => z_both_ok hs hy hx b3 (by show Y ≤ q.1.2 + (-1); omega) (by show q.2.1 + 1 ≤ X; omega) b2
    have GE : Y ≤ X → ∃ V', z_ge V x y q = some V' ∧ z_sat ν V' ∧ z_len V' = z_len V := fun g => z_both_ok hs hx hy (by omega) b2 b3 (by omega)
    have LE : X ≤ Y → ∃ V', z_ge V y x (z_sw q) = some V' ∧ z_sat ν V' ∧ z_len V' = z_len V := fun g => z_both_ok hs hy hx (by show q.1.1 ≤ Y; omega) b4 b1 (by show X ≤ q.2.2; omega)
    have EQ : X = Y → ∃ V', z_eq V x y q = some V' ∧ z_sat ν V' ∧ z_len V' = z_len V := fun g => z_both_ok hs hx hy (by omega) (by omega) (by omega) (by omega)
    have one : ∀ {o : Option VS}, (∃ V', o = some V' ∧ z_sat ν V' ∧ z_len V' = z_len V) → ∀ r, ∃ V' ∈ z_ol o r, z_sat ν V' ∧ z_len V' = z_len V := fun ⟨V', e, g⟩ r => ⟨V', z_ol_mem.mpr (Or.inl e), g⟩
    have two : ∀ {o : Option VS} {r : List VS}, (∃ V' ∈ r, z_sat ν V' ∧ z_len V' = z_len V) → ∃ V' ∈ z_ol o r, z_sat ν V' ∧ z_len V' = z_len V := fun ⟨V', e, g⟩ => ⟨V', z_ol_mem.mpr (Or.inr e), g⟩
    have NE : ¬ X = Y → ∃ V' ∈ z_ol (z_lt V x y q) (z_ol (z_lt V y x (z_sw q)) []), z_sat ν V' ∧ z_len V' = z_len V := fun g => by
      rcases Int.lt_or_gt_of_ne g with g | g
      · exact one (LT g) _
      · exact two (one (GT g) _)
    match c, h with
    | 0, h => cases h; exact ⟨fun g => one (EQ g) _, fun g => NE g⟩
    | 1, h => cases h; exact ⟨fun g => NE g, fun g => one (EQ (Classical.not_not.mp g)) _⟩
    | 2, h => cases h; exact ⟨fun g => one (LT g) _, fun g => one (GE (Int.not_lt.mp g)) _⟩
    | 3, h => cases h; exact ⟨fun g => one (GE g) _, fun g => one (LT (Int.not_le.mp g)) _⟩
    | 4, h => cases h; exact ⟨fun g => one (GT g) _, fun g => one (LE (Int.not_lt.mp g)) _⟩
    | 5, h => cases h; exact ⟨fun g => one (LE g) _, fun g => one (GT (Int.not_le.mp g)) _⟩
    | n + 6, h => cases h
