/-! a machine over linear forms: a number is a linear form over named numbers, which have bounds and inequalities; a cell is a place -/
/-- tags: 0 int and 2 long (a linear form over named numbers), 1 int and 3 long known by bounds alone (in cells), 4 a place, 5 null, 6 any reference, 7 the script, 8 a text, 9 a text's bytes -/
abbrev FL : Type := List (Int × Nat)
abbrev FM : Type := Int × FL
abbrev AV : Type := Nat × Nat × Int × Int × FL
abbrev AC : Type := Nat × Nat × List AV
abbrev VS : Type := List (Int × Int) × List FM × List Nat
abbrev T2 (α : Type) : Type := List (List α)
def z_nth {α : Type} : List α → Nat → Option α
  | [], _ => none
  | a :: _, 0 => some a
  | _ :: l, n + 1 => z_nth l n
def z_put {α : Type} : List α → Nat → α → List α
  | [], _, _ => []
  | _ :: l, 0, x => x :: l
  | a :: l, n + 1, x => a :: z_put l n x
def z_len {α : Type} : List α → Nat
  | [] => 0
  | _ :: l => Nat.succ (z_len l)
def z_app {α : Type} : List α → List α → List α
  | [], k => k
  | a :: l, k => a :: z_app l k
def z_g2 {α : Type} (t : T2 α) (i : Nat) : Option α := match z_nth t (Nat.div i 16) with
  | some r => z_nth r (Nat.mod i 16)
  | none => none
def z_s2 {α : Type} (t : T2 α) (i : Nat) (x : α) : T2 α := match z_nth t (Nat.div i 16) with
  | some r => z_put t (Nat.div i 16) (z_put r (Nat.mod i 16) x)
  | none => t
theorem z_len_put {α : Type} (l : List α) (i : Nat) (x : α) : z_len (z_put l i x) = z_len l := by
  induction l generalizing i with
  | nil => rfl
  | cons a l ih => cases i with
    | zero => rfl
    | succ i => exact congrArg Nat.succ (ih i)
theorem z_nth_self {α : Type} {l : List α} {i : Nat} {a : α} (h : z_nth l i = some a) (x : α) : z_nth (z_put l i x) i = some x := by
  induction l generalizing i with
  | nil => cases h
  | cons b l ih => cases i with
    | zero => rfl
    | succ i => exact ih h
theorem z_nth_ne {α : Type} {i j : Nat} (l : List α) (x : α) (h : i ≠ j) : z_nth (z_put l i x) j = z_nth l j := by
  induction l generalizing i j with
  | nil => rfl
  | cons b l ih => cases i with
    | zero => cases j with
      | zero => exact absurd rfl h
      | succ j => rfl
    | succ i => cases j with
      | zero => rfl
      | succ j => exact ih (fun e => h (by rw [e]))
theorem z_nth_lt {α : Type} {l : List α} {i : Nat} {a : α} (h : z_nth l i = some a) : i < z_len l := by
  induction l generalizing i with
  | nil => cases h
  | cons b l ih => cases i with
    | zero => exact Nat.succ_pos _
    | succ i => exact Nat.succ_lt_succ (ih h)
theorem z_nth_app {α : Type} {l k : List α} {i : Nat} (h : i < z_len l) : z_nth (z_app l k) i = z_nth l i := by
  induction l generalizing i with
  | nil => cases h
  | cons b l ih => cases i with
    | zero => rfl
    | succ i => exact ih (Nat.lt_of_succ_lt_succ h)
theorem z_nth_last {α : Type} {l : List α} (x : α) {i : Nat} {a : α} (h : z_nth (z_app l [x]) i = some a) : (i < z_len l ∧ z_nth l i = some a) ∨ (i = z_len l ∧ a = x) := by
  induction l generalizing i with
  | nil => cases i with
    | zero => right; exact ⟨rfl, (Option.some.inj h).symm⟩
    | succ i => cases h
  | cons b l ih => cases i with
    | zero => left; exact ⟨Nat.succ_pos _, h⟩
    | succ i => rcases ih h with ⟨h1, h2⟩ | ⟨h1, h2⟩
                · left; exact ⟨Nat.succ_lt_succ h1, h2⟩
                · right; exact ⟨congrArg Nat.succ h1, h2⟩
theorem z_len_app {α : Type} (l k : List α) : z_len (z_app l k) = z_len l + z_len k := by
  induction l with
  | nil => exact (Nat.zero_add _).symm
  | cons b l ih => show Nat.succ (z_len (z_app l k)) = Nat.succ (z_len l) + z_len k; rw [ih]; omega
theorem z_mem_app {α : Type} {l k : List α} {a : α} : a ∈ z_app l k ↔ a ∈ l ∨ a ∈ k := by
  induction l with
  | nil => simp [z_app]
  | cons b l ih => simp [z_app, ih, or_assoc]
theorem z_g2_self {α : Type} {t : T2 α} {i : Nat} {a : α} (h : z_g2 t i = some a) (x : α) : z_g2 (z_s2 t i x) i = some x := by
  unfold z_g2 z_s2 at *
  cases hr : z_nth t (Nat.div i 16) with
  | none => rw [hr] at h; cases h
  | some r =>
    rw [hr] at h
    simp only
    rw [z_nth_self hr]
    exact z_nth_self h x
theorem z_g2_ne {α : Type} {i j : Nat} (t : T2 α) (x : α) (h : i ≠ j) : z_g2 (z_s2 t i x) j = z_g2 t j := by
  unfold z_g2 z_s2
  cases hr : z_nth t (Nat.div i 16) with
  | none => rfl
  | some r =>
    simp only
    by_cases hd : Nat.div i 16 = Nat.div j 16
    · rw [← hd, z_nth_self hr, hr]
      simp only
      refine z_nth_ne r x ?_
      intro hm
      have h1 : i = 16 * (i / 16) + i % 16 := (Nat.div_add_mod i 16).symm
      have h2 : j = 16 * (j / 16) + j % 16 := (Nat.div_add_mod j 16).symm
      have hd' : i / 16 = j / 16 := hd
      have hm' : i % 16 = j % 16 := hm
      omega
    · rw [z_nth_ne _ _ hd]
/-- whole numbers, compared by their makers -/
def z_le : Int → Int → Bool
  | .ofNat m, .ofNat n => Nat.ble m n
  | .negSucc _, .ofNat _ => true
  | .ofNat _, .negSucc _ => false
  | .negSucc m, .negSucc n => Nat.ble n m
theorem z_le_iff {a b : Int} : z_le a b = true ↔ a ≤ b := by
  cases a <;> cases b <;> simp [z_le] <;> omega
theorem z_le_f {a b : Int} : z_le a b = false ↔ b < a := by
  have := @z_le_iff a b
  cases h : z_le a b <;> simp [h] at this ⊢ <;> omega
def z_max (a b : Int) : Int := match z_le a b with
  | true => b
  | false => a
def z_min (a b : Int) : Int := match z_le a b with
  | true => a
  | false => b
theorem z_max_le {a b : Int} : a ≤ z_max a b ∧ b ≤ z_max a b ∧ ∀ x : Int, a ≤ x → b ≤ x → z_max a b ≤ x := by
  unfold z_max
  cases h : z_le a b
  · have := z_le_f.mp h; exact ⟨by simp, by simp; omega, fun x h1 _ => h1⟩
  · have := z_le_iff.mp h; exact ⟨by simpa using this, by simp, fun x _ h1 => h1⟩
theorem z_min_le {a b : Int} : z_min a b ≤ a ∧ z_min a b ≤ b ∧ ∀ x : Int, x ≤ a → x ≤ b → x ≤ z_min a b := by
  unfold z_min
  cases h : z_le a b
  · have := z_le_f.mp h; exact ⟨by simp; omega, by simp, fun x _ h1 => h1⟩
  · have := z_le_iff.mp h; exact ⟨by simp, by simpa using this, fun x h1 _ => h1⟩
def z_fm {α β : Type} (P : α → β → Prop) : List α → List β → Prop
  | [], [] => True
  | a :: l, b :: k => P a b ∧ z_fm P l k
  | [], _ :: _ => False
  | _ :: _, [] => False
theorem z_fm_mono {α β : Type} {P R : α → β → Prop} (h : ∀ a b, P a b → R a b) {l : List α} {k : List β} (q : z_fm P l k) : z_fm R l k := by
  induction l generalizing k with
  | nil => cases k with
    | nil => trivial
    | cons => exact q.elim
  | cons a l ih => cases k with
    | nil => exact q.elim
    | cons b k => exact ⟨h _ _ q.1, ih q.2⟩
theorem z_fm_cons {α β : Type} {P : α → β → Prop} {a : α} {l : List α} {k : List β} (q : z_fm P (a :: l) k) : ∃ b k', k = b :: k' ∧ P a b ∧ z_fm P l k' := by
  cases k with
  | nil => exact q.elim
  | cons b k => exact ⟨b, k, rfl, q.1, q.2⟩
theorem z_fm_nil {α β : Type} {P : α → β → Prop} {k : List β} (q : z_fm P [] k) : k = [] := by
  cases k with
  | nil => rfl
  | cons b k => exact q.elim
theorem z_fm_nth {α β : Type} {P : α → β → Prop} {l : List α} {k : List β} {i : Nat} {a : α} (q : z_fm P l k) (h : z_nth l i = some a) : ∃ b, k[i]? = some b ∧ P a b := by
  induction l generalizing k i with
  | nil => cases h
  | cons c l ih => cases k with
    | nil => exact q.elim
    | cons b k => cases i with
      | zero => exact ⟨b, rfl, by cases h; exact q.1⟩
      | succ i => obtain ⟨b', h1, h2⟩ := ih q.2 h; exact ⟨b', by simpa using h1, h2⟩
theorem z_fm_put {α β : Type} {P : α → β → Prop} {l : List α} {k : List β} {i : Nat} {a : α} {b : β} (q : z_fm P l k) (h : P a b) : z_fm P (z_put l i a) (k.set i b) := by
  induction l generalizing k i with
  | nil => cases k with
    | nil => exact q
    | cons => exact q.elim
  | cons c l ih => cases k with
    | nil => exact q.elim
    | cons b' k => cases i with
      | zero => exact ⟨h, q.2⟩
      | succ i => exact ⟨q.1, ih q.2⟩
theorem z_fm_len {α β : Type} {P : α → β → Prop} {l : List α} {k : List β} (q : z_fm P l k) : k.length = z_len l := by
  induction l generalizing k with
  | nil => cases k with
    | nil => rfl
    | cons => exact q.elim
  | cons c l ih => cases k with
    | nil => exact q.elim
    | cons b k => simp [z_len, ih q.2]
/-! linear forms -/
def f_ev (ν : Nat → Int) : FL → Int
  | [] => 0
  | q :: l => q.1 * ν q.2 + f_ev ν l
def f_evm (ν : Nat → Int) (f : FM) : Int := f.1 + f_ev ν f.2
def z_eq0 (a : Int) : Bool := match a with
  | .ofNat n => Nat.beq n 0
  | .negSucc _ => false
theorem z_eq0I {a : Int} (h : z_eq0 a = true) : a = 0 := by
  cases a with
  | ofNat n => have := Nat.eq_of_beq_eq_true h; rw [this]; rfl
  | negSucc n => cases h
def f_ins (c : Int) (x : Nat) : FL → FL
  | [] => [(c, x)]
  | q :: l => match Nat.beq q.2 x with
    | true => match z_eq0 (Int.add c q.1) with
      | true => l
      | false => (Int.add c q.1, x) :: l
    | false => q :: f_ins c x l
theorem f_ins_ev {ν : Nat → Int} {c : Int} {x : Nat} {l : FL} : f_ev ν (f_ins c x l) = c * ν x + f_ev ν l := by
  induction l with
  | nil => rfl
  | cons q l ih =>
    unfold f_ins
    cases h : Nat.beq q.2 x with
    | true =>
      have e := Nat.eq_of_beq_eq_true h
      simp only
      cases h2 : z_eq0 (Int.add c q.1) with
      | true =>
        have e2 : c + q.1 = 0 := z_eq0I h2
        show f_ev ν l = c * ν x + (q.1 * ν q.2 + f_ev ν l)
        rw [e, ← Int.add_assoc, ← Int.add_mul, e2, Int.zero_mul, Int.zero_add]
      | false =>
        show (c + q.1) * ν x + f_ev ν l = c * ν x + (q.1 * ν q.2 + f_ev ν l)
        rw [e, Int.add_mul, Int.add_assoc]
    | false =>
      show q.1 * ν q.2 + f_ev ν (f_ins c x l) = c * ν x + (q.1 * ν q.2 + f_ev ν l)
      rw [ih]
      omega
def f_addL : FL → FL → FL
  | [], l => l
  | q :: k, l => f_addL k (f_ins q.1 q.2 l)
theorem f_addL_ev {ν : Nat → Int} {k l : FL} : f_ev ν (f_addL k l) = f_ev ν k + f_ev ν l := by
  induction k generalizing l with
  | nil => show f_ev ν l = 0 + f_ev ν l; omega
  | cons q k ih =>
    show f_ev ν (f_addL k (f_ins q.1 q.2 l)) = q.1 * ν q.2 + f_ev ν k + f_ev ν l
    rw [ih, f_ins_ev]
    omega
def f_scL (a : Int) : FL → FL
  | [] => []
  | q :: l => (Int.mul a q.1, q.2) :: f_scL a l
theorem f_scL_ev {ν : Nat → Int} {a : Int} {l : FL} : f_ev ν (f_scL a l) = a * f_ev ν l := by
  induction l with
  | nil => show (0 : Int) = a * 0; omega
  | cons q l ih =>
    show (a * q.1) * ν q.2 + f_ev ν (f_scL a l) = a * (q.1 * ν q.2 + f_ev ν l)
    rw [ih, Int.mul_add, Int.mul_assoc]
def f_add (f g : FM) : FM := (Int.add f.1 g.1, f_addL f.2 g.2)
def f_sc (a : Int) (f : FM) : FM := match z_eq0 a with
  | true => (0, [])
  | false => (Int.mul a f.1, f_scL a f.2)
def f_sub (f g : FM) : FM := f_add f (Int.mul (-1) g.1, f_scL (-1) g.2)
theorem f_add_ev {ν : Nat → Int} {f g : FM} : f_evm ν (f_add f g) = f_evm ν f + f_evm ν g := by
  show f.1 + g.1 + f_ev ν (f_addL f.2 g.2) = f.1 + f_ev ν f.2 + (g.1 + f_ev ν g.2)
  rw [f_addL_ev]; omega
theorem f_sc_ev {ν : Nat → Int} {a : Int} {f : FM} : f_evm ν (f_sc a f) = a * f_evm ν f := by
  unfold f_sc
  cases h : z_eq0 a with
  | true => rw [z_eq0I h]; show (0 : Int) + 0 = 0 * _; omega
  | false =>
    show a * f.1 + f_ev ν (f_scL a f.2) = a * (f.1 + f_ev ν f.2)
    rw [f_scL_ev, Int.mul_add]
theorem f_sub_ev {ν : Nat → Int} {f g : FM} : f_evm ν (f_sub f g) = f_evm ν f - f_evm ν g := by
  unfold f_sub
  rw [f_add_ev]
  show f_evm ν f + (-1 * g.1 + f_ev ν (f_scL (-1) g.2)) = f_evm ν f - (g.1 + f_ev ν g.2)
  rw [f_scL_ev]; omega
/-- bounds by the bounds of the names -/
def f_iv (V : List (Int × Int)) : FL → Option (Int × Int)
  | [] => some (0, 0)
  | q :: l => match z_nth V q.2 with
    | none => none
    | some b => match f_iv V l with
      | none => none
      | some r => match z_le 0 q.1 with
        | true => some (Int.add (Int.mul q.1 b.1) r.1, Int.add (Int.mul q.1 b.2) r.2)
        | false => some (Int.add (Int.mul q.1 b.2) r.1, Int.add (Int.mul q.1 b.1) r.2)
theorem f_iv_ok {ν : Nat → Int} {V : List (Int × Int)} (hs : ∀ (i : Nat) (q : Int × Int), z_nth V i = some q → q.1 ≤ ν i ∧ ν i ≤ q.2) {l : FL} {r : Int × Int} (h : f_iv V l = some r) : r.1 ≤ f_ev ν l ∧ f_ev ν l ≤ r.2 := by
  induction l generalizing r with
  | nil => cases h; exact ⟨Int.le_refl _, Int.le_refl _⟩
  | cons q l ih =>
    unfold f_iv at h
    cases hb : z_nth V q.2 with
    | none => rw [hb] at h; cases h
    | some b =>
      rw [hb] at h
      simp only at h
      cases hr : f_iv V l with
      | none => rw [hr] at h; cases h
      | some r' =>
        rw [hr] at h
        simp only at h
        have i1 := ih hr
        have i2 := hs _ _ hb
        cases hc : z_le 0 q.1 with
        | true =>
          rw [hc] at h
          cases h
          have c0 := z_le_iff.mp hc
          have a1 := Int.mul_le_mul_of_nonneg_left i2.1 c0
          have a2 := Int.mul_le_mul_of_nonneg_left i2.2 c0
          exact ⟨by show q.1 * b.1 + r'.1 ≤ q.1 * ν q.2 + f_ev ν l; omega, by show q.1 * ν q.2 + f_ev ν l ≤ q.1 * b.2 + r'.2; omega⟩
        | false =>
          rw [hc] at h
          cases h
          have c0 := z_le_f.mp hc
          have a1 := Int.mul_le_mul_of_nonpos_left (a := q.1) (by omega) i2.1
          have a2 := Int.mul_le_mul_of_nonpos_left (a := q.1) (by omega) i2.2
          exact ⟨by show q.1 * b.2 + r'.1 ≤ q.1 * ν q.2 + f_ev ν l; omega, by show q.1 * ν q.2 + f_ev ν l ≤ q.1 * b.1 + r'.2; omega⟩
/-- names below n -/
def f_wf (n : Nat) (l : FL) : Prop := ∀ q ∈ l, q.2 < n
/-- an act as the reference keeps it: a plank 100 n + r, a dredging 10000 + 100 r + y -/
def z_act (X : Int) : Prop := (0 ≤ X ∧ X < 10000 ∧ X % 100 ≤ 5) ∨ (10000 ≤ X ∧ X % 100 ≤ 15)
/-- what is known of the names: bounds, inequalities, which are acts -/
def z_sat (ν : Nat → Int) (V : VS) : Prop := (∀ (i : Nat) (q : Int × Int), z_nth V.1 i = some q → q.1 ≤ ν i ∧ ν i ≤ q.2) ∧ (∀ g ∈ V.2.1, f_wf (z_len V.1) g.2 ∧ f_evm ν g ≤ 0) ∧ ∀ x ∈ V.2.2, x < z_len V.1 ∧ z_act (ν x)
def f_ub (V : VS) (f : FM) (b : Int) : Bool := match f_iv V.1 f.2 with
  | some r => z_le (Int.add f.1 r.2) b
  | none => false
theorem f_ub_ok {ν : Nat → Int} {V : VS} {f : FM} {b : Int} (hs : z_sat ν V) (h : f_ub V f b = true) : f_evm ν f ≤ b := by
  unfold f_ub at h
  cases hr : f_iv V.1 f.2 with
  | none => rw [hr] at h; cases h
  | some r =>
    rw [hr] at h
    have h : f.1 + r.2 ≤ b := z_le_iff.mp h
    have := (f_iv_ok hs.1 hr).2
    show f.1 + f_ev ν f.2 ≤ b
    omega
/-- is there a name with the same sign in both? else the difference says no more -/
def f_sg1 (c : Int) (x : Nat) : FL → Bool
  | [] => false
  | q :: l => match Nat.beq q.2 x with
    | true => match c with
      | .ofNat _ => match q.1 with
        | .ofNat _ => true
        | .negSucc _ => false
      | .negSucc _ => match q.1 with
        | .ofNat _ => false
        | .negSucc _ => true
    | false => f_sg1 c x l
def f_shr (f : FL) : FL → Bool
  | [] => false
  | q :: l => match f_sg1 q.1 q.2 f with
    | true => true
    | false => f_shr f l
/-- with one inequality, with two -/
def f_ub1 (V : VS) (f : FM) (b : Int) : List FM → Bool
  | [] => false
  | g :: l => match f_shr f.2 g.2 with
    | false => f_ub1 V f b l
    | true => match f_ub V (f_sub f g) b with
      | true => true
      | false => f_ub1 V f b l
theorem f_ub1_ok {ν : Nat → Int} {V : VS} {f : FM} {b : Int} {l : List FM} (hs : z_sat ν V) (hl : ∀ g ∈ l, f_evm ν g ≤ 0) (h : f_ub1 V f b l = true) : f_evm ν f ≤ b := by
  induction l with
  | nil => cases h
  | cons g l ih =>
    unfold f_ub1 at h
    cases h0 : f_shr f.2 g.2 with
    | false => rw [h0] at h; exact ih (fun g hg => hl g (List.mem_cons_of_mem _ hg)) h
    | true =>
      rw [h0] at h
      simp only at h
      cases h1 : f_ub V (f_sub f g) b with
      | true =>
        have a1 := f_ub_ok hs h1
        rw [f_sub_ev] at a1
        have := hl g List.mem_cons_self
        omega
      | false => rw [h1] at h; exact ih (fun g hg => hl g (List.mem_cons_of_mem _ hg)) h
def f_ub2 (V : VS) (f : FM) (b : Int) : List FM → Bool
  | [] => false
  | g :: l => match f_shr f.2 g.2 with
    | false => f_ub2 V f b l
    | true => match f_ub1 V (f_sub f g) b V.2.1 with
      | true => true
      | false => f_ub2 V f b l
theorem f_ub2_ok {ν : Nat → Int} {V : VS} {f : FM} {b : Int} {l : List FM} (hs : z_sat ν V) (hl : ∀ g ∈ l, f_evm ν g ≤ 0) (h : f_ub2 V f b l = true) : f_evm ν f ≤ b := by
  induction l with
  | nil => cases h
  | cons g l ih =>
    unfold f_ub2 at h
    cases h0 : f_shr f.2 g.2 with
    | false => rw [h0] at h; exact ih (fun g hg => hl g (List.mem_cons_of_mem _ hg)) h
    | true =>
      rw [h0] at h
      simp only at h
      cases h1 : f_ub1 V (f_sub f g) b V.2.1 with
      | true =>
        have a1 := f_ub1_ok hs (fun g hg => (hs.2.1 g hg).2) h1
        rw [f_sub_ev] at a1
        have := hl g List.mem_cons_self
        omega
      | false => rw [h1] at h; exact ih (fun g hg => hl g (List.mem_cons_of_mem _ hg)) h
def f_le (V : VS) (f : FM) (b : Int) : Bool := match f_ub V f b with
  | true => true
  | false => match f_ub1 V f b V.2.1 with
    | true => true
    | false => match Nat.ble (z_len V.2.1) 30 with
      | true => f_ub2 V f b V.2.1
      | false => false
theorem f_le_ok {ν : Nat → Int} {V : VS} {f : FM} {b : Int} (hs : z_sat ν V) (h : f_le V f b = true) : f_evm ν f ≤ b := by
  unfold f_le at h
  cases h1 : f_ub V f b with
  | true => exact f_ub_ok hs h1
  | false =>
    rw [h1] at h
    simp only at h
    cases h2 : f_ub1 V f b V.2.1 with
    | true => exact f_ub1_ok hs (fun g hg => (hs.2.1 g hg).2) h2
    | false =>
      rw [h2] at h
      simp only at h
      cases h3 : Nat.ble (z_len V.2.1) 30 with
      | true => rw [h3] at h; exact f_ub2_ok hs (fun g hg => (hs.2.1 g hg).2) h
      | false => rw [h3] at h; cases h
def f_ge (V : VS) (f : FM) (b : Int) : Bool := f_le V (Int.mul (-1) f.1, f_scL (-1) f.2) (Int.mul (-1) b)
theorem f_ge_ok {ν : Nat → Int} {V : VS} {f : FM} {b : Int} (hs : z_sat ν V) (h : f_ge V f b = true) : b ≤ f_evm ν f := by
  have := f_le_ok hs h
  have e : f_evm ν (Int.mul (-1) f.1, f_scL (-1) f.2) = -1 * f.1 + -1 * f_ev ν f.2 := by show -1 * f.1 + f_ev ν (f_scL (-1) f.2) = _; rw [f_scL_ev]
  rw [e] at this
  have this : -1 * f.1 + -1 * f_ev ν f.2 ≤ -1 * b := this
  show b ≤ f.1 + f_ev ν f.2
  omega
theorem f_ev_ext {ν ν' : Nat → Int} {n : Nat} (h : ∀ i, i < n → ν' i = ν i) {l : FL} (hw : f_wf n l) : f_ev ν' l = f_ev ν l := by
  induction l with
  | nil => rfl
  | cons q l ih =>
    show q.1 * ν' q.2 + f_ev ν' l = q.1 * ν q.2 + f_ev ν l
    rw [h _ (hw q List.mem_cons_self), ih (fun r hr => hw r (List.mem_cons_of_mem _ hr))]
theorem f_wf_ins {n : Nat} {c : Int} {x : Nat} {l : FL} (hx : x < n) (hw : f_wf n l) : f_wf n (f_ins c x l) := by
  induction l with
  | nil => intro q hq; rw [List.mem_singleton.mp hq]; exact hx
  | cons r l ih =>
    have hl : f_wf n l := fun q hq => hw q (List.mem_cons_of_mem _ hq)
    unfold f_ins
    cases Nat.beq r.2 x with
    | true =>
      cases z_eq0 (Int.add c r.1) with
      | true => exact hl
      | false => intro q hq; rcases List.mem_cons.mp hq with rfl | hq; exact hx; exact hl q hq
    | false => intro q hq; rcases List.mem_cons.mp hq with rfl | hq; exact hw _ List.mem_cons_self; exact ih hl q hq
theorem f_wf_addL {n : Nat} {k l : FL} (hk : f_wf n k) (hl : f_wf n l) : f_wf n (f_addL k l) := by
  induction k generalizing l with
  | nil => exact hl
  | cons q k ih => exact ih (fun r hr => hk r (List.mem_cons_of_mem _ hr)) (f_wf_ins (hk q List.mem_cons_self) hl)
theorem f_wf_scL {n : Nat} {a : Int} {l : FL} (hl : f_wf n l) : f_wf n (f_scL a l) := by
  induction l with
  | nil => exact hl
  | cons q l ih => intro r hr; rcases List.mem_cons.mp hr with rfl | hr; exact hl q List.mem_cons_self; exact ih (fun r hr => hl r (List.mem_cons_of_mem _ hr)) r hr
theorem f_wf_add {n : Nat} {f g : FM} (hf : f_wf n f.2) (hg : f_wf n g.2) : f_wf n (f_add f g).2 := f_wf_addL hf hg
theorem f_wf_sub {n : Nat} {f g : FM} (hf : f_wf n f.2) (hg : f_wf n g.2) : f_wf n (f_sub f g).2 := f_wf_addL hf (f_wf_scL hg)
theorem f_wf_sc {n : Nat} {a : Int} {f : FM} (hf : f_wf n f.2) : f_wf n (f_sc a f).2 := by
  unfold f_sc
  cases z_eq0 a with
  | true => intro q hq; cases hq
  | false => exact f_wf_scL hf
theorem f_wf_mono {n n' : Nat} {l : FL} (h : n ≤ n') (hl : f_wf n l) : f_wf n' l := fun q hq => Nat.lt_of_lt_of_le (hl q hq) h
