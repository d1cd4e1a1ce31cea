/-! rows: writes -/
def z_elem (x : Nat) : List Nat → Bool
  | [] => false
  | y :: l => match Nat.beq y x with
    | true => true
    | false => z_elem x l
theorem z_elemI {x : Nat} {l : List Nat} (h : z_elem x l = true) : x ∈ l := by
  induction l with
  | nil => cases h
  | cons y l ih =>
    unfold z_elem at h
    cases hb : Nat.beq y x with
    | true => rw [Nat.eq_of_beq_eq_true hb]; exact List.mem_cons_self
    | false => rw [hb] at h; exact List.mem_cons_of_mem _ (ih h)
/-- names that come once, all others in hundreds -/
def z_unit : FL → Option (List Nat)
  | [] => some []
  | q :: l => z_bd (z_unit l) fun us => match z_eq0 (Int.add q.1 (-1)) with
    | true => some (q.2 :: us)
    | false => match z_eq0 (Int.emod q.1 100) with
      | true => some us
      | false => none
def z_usum (ν : Nat → Int) : List Nat → Int
  | [] => 0
  | x :: l => ν x + z_usum ν l
theorem z_unit_ok {ν : Nat → Int} {l : FL} {us : List Nat} (h : z_unit l = some us) : ∃ q : Int, f_ev ν l = 100 * q + z_usum ν us := by
  induction l generalizing us with
  | nil => cases h; exact ⟨0, rfl⟩
  | cons r l ih =>
    obtain ⟨us', hu, h⟩ := z_bdI h
    obtain ⟨q, hq⟩ := ih hu
    cases h1 : z_eq0 (Int.add r.1 (-1)) with
    | true =>
      rw [h1] at h
      cases h
      have e : r.1 + (-1) = 0 := z_eq0I h1
      refine ⟨q, ?_⟩
      show r.1 * ν r.2 + f_ev ν l = 100 * q + (ν r.2 + z_usum ν us')
      rw [show r.1 = 1 by omega, hq]
      omega
    | false =>
      rw [h1] at h
      simp only at h
      cases h2 : z_eq0 (Int.emod r.1 100) with
      | false => rw [h2] at h; cases h
      | true =>
        rw [h2] at h
        cases h
        have e : r.1 % 100 = 0 := z_eq0I h2
        refine ⟨q + (r.1 / 100) * ν r.2, ?_⟩
        show r.1 * ν r.2 + f_ev ν l = 100 * (q + r.1 / 100 * ν r.2) + z_usum ν us
        have e2 : r.1 = 100 * (r.1 / 100) := by omega
        have e3 : r.1 * ν r.2 = 100 * (r.1 / 100 * ν r.2) := by
          rw [← Int.mul_assoc, ← e2]
        rw [hq, e3, Int.mul_add]
        omega
def z_actB (V : VS) (f : FM) : Bool := match z_eq0 (Int.emod f.1 100) with
  | false => false
  | true => match z_unit f.2 with
    | none => false
    | some us => match us with
      | [] => match f_bd V f with
        | none => false
        | some q => z_le 0 q.1
      | [x] => match z_nth V.1 x with
        | none => false
        | some b => match f_bd V f with
          | none => false
          | some q => match z_and (z_le 0 b.1) (z_and (z_le b.2 5) (z_and (z_le 0 q.1) (z_le q.2 9999))) with
            | true => true
            | false => z_and (z_le 0 b.1) (z_and (z_le b.2 15) (z_le 10000 q.1))
      | _ :: _ :: _ => false
theorem z_actB_ok {ν : Nat → Int} {V : VS} {f : FM} (hs : z_sat ν V) (h : z_actB V f = true) : z_act (f_evm ν f) := by
  unfold z_actB at h
  cases h1 : z_eq0 (Int.emod f.1 100) with
  | false => rw [h1] at h; cases h
  | true =>
    rw [h1] at h
    simp only at h
    have e1 : f.1 % 100 = 0 := z_eq0I h1
    cases h2 : z_unit f.2 with
    | none => rw [h2] at h; cases h
    | some us =>
      rw [h2] at h
      simp only at h
      obtain ⟨q0, hq0⟩ := z_unit_ok (ν := ν) h2
      have eX : f_evm ν f = f.1 + (100 * q0 + z_usum ν us) := by show f.1 + f_ev ν f.2 = _; rw [hq0]
      match us, h, eX with
      | [], h, eX =>
        cases h3 : f_bd V f with
        | none => simp only [h3] at h; cases h
        | some q =>
          simp only [h3] at h
          have hb := f_bd_ok hs h3
          have g := z_le_iff.mp h
          have eX : f_evm ν f = f.1 + (100 * q0 + 0) := eX
          unfold z_act
          omega
      | [x], h, eX =>
        cases h3 : z_nth V.1 x with
        | none => simp only [h3] at h; cases h
        | some b =>
          simp only [h3] at h
          cases h4 : f_bd V f with
          | none => simp only [h4] at h; cases h
          | some q =>
            simp only [h4] at h
            have hb := f_bd_ok hs h4
            have hx := hs.1 _ _ h3
            have eX : f_evm ν f = f.1 + (100 * q0 + (ν x + 0)) := eX
            cases h5 : z_and (z_le 0 b.1) (z_and (z_le b.2 5) (z_and (z_le 0 q.1) (z_le q.2 9999))) with
            | true =>
              obtain ⟨a1, a⟩ := z_andI h5
              obtain ⟨a2, a⟩ := z_andI a
              obtain ⟨a3, a4⟩ := z_andI a
              have a1 := z_le_iff.mp a1
              have a2 := z_le_iff.mp a2
              have a3 := z_le_iff.mp a3
              have a4 := z_le_iff.mp a4
              unfold z_act
              omega
            | false =>
              rw [h5] at h
              obtain ⟨a1, a⟩ := z_andI h
              obtain ⟨a2, a3⟩ := z_andI a
              have a1 := z_le_iff.mp a1
              have a2 := z_le_iff.mp a2
              have a3 := z_le_iff.mp a3
              unfold z_act
              omega
      | _ :: _ :: _, h, _ => cases h
def z_actF (V : VS) (f : FM) : Bool := match z_actB V f with
  | true => true
  | false => match f.2 with
    | [q] => z_and (z_and (z_eq0 f.1) (z_eq0 (Int.add q.1 (-1)))) (z_elem q.2 V.2.2)
    | _ => false
theorem z_actF_ok {ν : Nat → Int} {V : VS} {f : FM} (hs : z_sat ν V) (h : z_actF V f = true) : z_act (f_evm ν f) := by
  unfold z_actF at h
  cases h1 : z_actB V f with
  | true => exact z_actB_ok hs h1
  | false =>
    rw [h1] at h
    obtain ⟨k, l⟩ := f
    match l, h with
    | [q], h =>
      obtain ⟨a1, a2⟩ := z_andI h
      obtain ⟨a0, a1⟩ := z_andI a1
      have a0 : k = 0 := z_eq0I a0
      have a1 : q.1 + (-1) = 0 := z_eq0I a1
      have := (hs.2.2 _ (z_elemI a2)).2
      have e : f_evm ν (k, [q]) = ν q.2 := by
        show k + (q.1 * ν q.2 + 0) = ν q.2
        rw [a0, show q.1 = 1 by omega]
        omega
      rw [e]
      exact this
    | [], h => cases h
    | _ :: _ :: _, h => cases h
def z_fitA (t : Nat) (V : VS) (v a : AV) : Bool := z_and (z_and (Nat.beq a.1 (Nat.succ t)) (z_inR V (z_fm2 v) a.2.2.1 a.2.2.2.1)) (match a.2.1 with
  | 0 => true
  | _ + 1 => z_actF V (z_fm2 v))
def z_hl (t : Nat) (i j : Int × Int) : AV := (Nat.succ t, 0, z_min i.1 j.1, z_max i.2 j.2, [])
def z_mhR (t : Nat) (V : VS) (v : AV) (i : Int × Int) (sel : Int → Bool) : Int → List AV → Option (List AV)
  | _, [] => some []
  | j, a :: l => z_bd (z_mhR t V v i sel (Int.add j 1) l) fun r => match sel j with
    | false => some (a :: r)
    | true => match z_fitA t V v a with
      | true => some (a :: r)
      | false => z_bd (z_avb V a) fun w => some (z_hl t i w :: r)
def z_wrA (t : Nat) (V : VS) (l : List AV) (ix : FM) (v : AV) : Option (List AV) := match l with
  | [] => none
  | [a] => match z_fitA t V v a with
    | true => some [a]
    | false => z_bd (z_avb V v) fun i => z_bd (z_avb V a) fun j => some [z_hl t i j]
  | a :: d :: k => z_bd (f_bd V ix) fun q => match z_one q with
    | true => some (z_put (a :: d :: k) (Int.toNat q.1) v)
    | false => z_bd (z_avb V v) fun i => z_mhR t V v i (z_sel (f_g ix.2) ix.1 q) 0 (a :: d :: k)
theorem z_mhR_ok {t : Nat} {V : VS} {v : AV} {i : Int × Int} {sel : Int → Bool} {j : Int} {l r : List AV} (h : z_mhR t V v i sel j l = some r) {k : Nat} {a : AV} (ha : z_nth l k = some a) : z_len r = z_len l ∧ ((z_nth r k = some a ∧ (sel (j + k) = false ∨ z_fitA t V v a = true)) ∨ ∃ w, z_avb V a = some w ∧ z_nth r k = some (z_hl t i w)) := by
  induction l generalizing j k r a with
  | nil => cases ha
  | cons d l ih =>
    obtain ⟨q, hq, h⟩ := z_bdI h
    have hlen : z_len q = z_len l := by
      cases l with
      | nil => cases hq; rfl
      | cons d2 l => exact (ih hq (k := 0) (a := d2) rfl).1
    have tail : ∀ {k : Nat}, z_nth l k = some a → (z_nth q k = some a ∧ (sel (j + ((k + 1 : Nat) : Int)) = false ∨ z_fitA t V v a = true)) ∨ ∃ w, z_avb V a = some w ∧ z_nth q k = some (z_hl t i w) := fun {k} hk => by
      rcases (ih hq hk).2 with ⟨g1, g2⟩ | g
      · left; refine ⟨g1, ?_⟩
        rw [show j + ((k + 1 : Nat) : Int) = Int.add j 1 + (k : Int) by show _ = j + 1 + (k : Int); omega]
        exact g2
      · exact Or.inr g
    have j0 : j + ((0 : Nat) : Int) = j := by omega
    cases hc : sel j with
    | false =>
      rw [hc] at h
      cases h
      refine ⟨congrArg Nat.succ hlen, ?_⟩
      cases k with
      | zero => cases ha; exact Or.inl ⟨rfl, Or.inl (by rw [j0]; exact hc)⟩
      | succ k => exact tail ha
    | true =>
      rw [hc] at h
      simp only at h
      cases hf : z_fitA t V v d with
      | true =>
        rw [hf] at h
        cases h
        refine ⟨congrArg Nat.succ hlen, ?_⟩
        cases k with
        | zero => cases ha; exact Or.inl ⟨rfl, Or.inr hf⟩
        | succ k => exact tail ha
      | false =>
        rw [hf] at h
        obtain ⟨w, hw', h⟩ := z_bdI h
        cases h
        refine ⟨congrArg Nat.succ hlen, ?_⟩
        cases k with
        | zero => cases ha; exact Or.inr ⟨w, hw', rfl⟩
        | succ k => exact tail ha
theorem z_fitI {ν : Nat → Int} {β : ZB} {V : VS} {v a : AV} {x : Int32} (hs : z_sat ν V) (hf : z_fitA 0 V v a = true) (hv : z_mt ν (z_len V.1) β v (.int x)) (hv0 : v.1 = 0) : z_mt ν (z_len V.1) β a (.int x) := by
  obtain ⟨f1, f2⟩ := z_andI hf
  obtain ⟨f1, f3⟩ := z_andI f1
  have f1 : a.1 = 1 := Nat.eq_of_beq_eq_true f1
  have fb := z_inRI hs f3
  have hxv : x.toInt = f_evm ν (z_fm2 v) := by
    obtain ⟨-, y, hy, hz⟩ := z_mt_i hv (by unfold z_isI; rw [hv0]; rfl)
    cases hy
    exact hz
  rw [← hxv] at fb
  refine Or.inr (Or.inl ⟨f1, x, rfl, fb.1, fb.2, ?_⟩)
  cases hm : a.2.1 with
  | zero => exact Or.inl rfl
  | succ n =>
    rw [hm] at f2
    right
    rw [hxv]
    exact z_actF_ok hs f2
theorem z_fitL {ν : Nat → Int} {β : ZB} {V : VS} {v a : AV} {x : Int64} (hs : z_sat ν V) (hf : z_fitA 2 V v a = true) (hv : z_mt ν (z_len V.1) β v (.long x)) (hv0 : v.1 = 2) : z_mt ν (z_len V.1) β a (.long x) := by
  obtain ⟨f1, f2⟩ := z_andI hf
  obtain ⟨f1, f3⟩ := z_andI f1
  have f1 : a.1 = 3 := Nat.eq_of_beq_eq_true f1
  have fb := z_inRI hs f3
  have hxv : x.toInt = f_evm ν (z_fm2 v) := by
    obtain ⟨-, y, hy, hz⟩ := z_mt_l hv (by unfold z_isL; rw [hv0]; rfl)
    cases hy
    exact hz
  rw [← hxv] at fb
  refine Or.inr (Or.inr (Or.inr (Or.inl ⟨f1, x, rfl, fb.1, fb.2, ?_⟩)))
  cases hm : a.2.1 with
  | zero => exact Or.inl rfl
  | succ n =>
    rw [hm] at f2
    right
    rw [hxv]
    exact z_actF_ok hs f2
theorem z_hlI {ν : Nat → Int} {nv : Nat} {β : ZB} {i j : Int × Int} {x : Int32} (h : (i.1 ≤ x.toInt ∧ x.toInt ≤ i.2) ∨ (j.1 ≤ x.toInt ∧ x.toInt ≤ j.2)) : z_mt ν nv β (z_hl 0 i j) (.int x) := by
  have h1 := z_min_le (a := i.1) (b := j.1)
  have h2 := z_max_le (a := i.2) (b := j.2)
  refine Or.inr (Or.inl ⟨rfl, x, rfl, ?_, ?_, Or.inl rfl⟩)
  · show z_min i.1 j.1 ≤ x.toInt
    omega
  · show x.toInt ≤ z_max i.2 j.2
    omega
theorem z_wrAI {ν : Nat → Int} {β : ZB} {V : VS} {l r : List AV} {len : Nat} {ix : FM} {v : AV} {f : Nat → Int32} {x : Int32} {k : Nat} (hs : z_sat ν V) (h : z_wrA 0 V l ix v = some r) (hk1 : (k : Int) = f_evm ν ix) (hk : k < len) (hel : ∀ j, j < len → ∃ a, z_at l j = some a ∧ z_mt ν (z_len V.1) β a (.int (f j))) (hv : z_mt ν (z_len V.1) β v (.int x)) (hv0 : v.1 = 0) : ∀ j, j < len → ∃ a, z_at r j = some a ∧ z_mt ν (z_len V.1) β a (.int (upd f k x j)) := by
  have up : ∀ j, upd f k x j = if j = k then x else f j := fun j => rfl
  match l, h, hel with
  | [a], h, hel =>
    have h : (match z_fitA 0 V v a with | true => some [a] | false => z_bd (z_avb V v) fun i => z_bd (z_avb V a) fun j => some [z_hl 0 i j]) = some r := h
    cases hf : z_fitA 0 V v a with
    | true =>
      rw [hf] at h
      cases h
      intro j hj
      obtain ⟨a', g1, g2⟩ := hel j hj
      refine ⟨a', g1, ?_⟩
      rw [up]
      by_cases e : j = k
      · rw [if_pos e]
        cases g1
        obtain ⟨f1, f2⟩ := z_andI hf
        obtain ⟨f1, f3⟩ := z_andI f1
        have f1 : a.1 = 1 := Nat.eq_of_beq_eq_true f1
        have fb := z_inRI hs f3
        have hxv : x.toInt = f_evm ν (z_fm2 v) := by
          obtain ⟨-, y, hy, hz⟩ := z_mt_i hv (by unfold z_isI; rw [hv0]; rfl)
          cases hy
          exact hz
        rw [← hxv] at fb
        refine Or.inr (Or.inl ⟨f1, x, rfl, fb.1, fb.2, ?_⟩)
        cases hm : a.2.1 with
        | zero => exact Or.inl rfl
        | succ n =>
          rw [hm] at f2
          right
          rw [hxv]
          exact z_actF_ok hs f2
      · rw [if_neg e]
        exact g2
    | false =>
      rw [hf] at h
      obtain ⟨i, hi, h⟩ := z_bdI h
      obtain ⟨w, hw', h⟩ := z_bdI h
      cases h
      intro j hj
      obtain ⟨a', g1, g2⟩ := hel j hj
      cases g1
      refine ⟨_, rfl, z_hlI ?_⟩
      rw [up]
      by_cases e : j = k
      · rw [if_pos e]; exact Or.inl (z_avbI hs hi hv)
      · rw [if_neg e]; exact Or.inr (z_avbI hs hw' g2)
  | a :: d :: g, h, hel =>
    obtain ⟨q, hq, h⟩ := z_bdI h
    have hb := f_bd_ok hs hq
    rw [← hk1] at hb
    cases ho : z_one q with
    | true =>
      rw [ho] at h
      have := z_le_iff.mp ho
      have e : Int.toNat q.1 = k := by omega
      cases h
      intro j hj
      rw [e, z_at2 (by rw [z_len_put]; simp [z_len]), up]
      by_cases ej : j = k
      · subst ej
        obtain ⟨a0, g1, -⟩ := hel j hj
        rw [if_pos rfl]
        exact ⟨v, z_nth_self g1 v, hv⟩
      · rw [if_neg ej, z_nth_ne _ _ (Ne.symm ej)]
        exact hel j hj
    | false =>
      rw [ho] at h
      obtain ⟨i, hi, h⟩ := z_bdI h
      intro j hj
      obtain ⟨a0, g1, g2⟩ := hel j hj
      have g1 : z_nth (a :: d :: g) j = some a0 := g1
      obtain ⟨c1, c2⟩ := z_mhR_ok h g1
      rw [z_at2 (by rw [c1]; simp [z_len]), up]
      rcases c2 with ⟨c2, c3⟩ | ⟨w, c2, c3⟩
      · refine ⟨a0, c2, ?_⟩
        by_cases ej : j = k
        · rw [if_pos ej]
          rcases c3 with c3 | c3
          · subst ej
            have hsel : z_sel (f_g ix.2) ix.1 q (0 + (j : Int)) = true := by rw [show (0 : Int) + (j : Int) = (j : Int) by omega]; exact z_sel_ok hk1 hb.1 hb.2
            rw [hsel] at c3; cases c3
          · exact z_fitI hs c3 hv hv0
        · rw [if_neg ej]
          exact g2
      · refine ⟨_, c3, z_hlI ?_⟩
        by_cases ej : j = k
        · rw [if_pos ej]; exact Or.inl (z_avbI hs hi hv)
        · rw [if_neg ej]; exact Or.inr (z_avbI hs c2 g2)
theorem z_hlL {ν : Nat → Int} {nv : Nat} {β : ZB} {i j : Int × Int} {x : Int64} (h : (i.1 ≤ x.toInt ∧ x.toInt ≤ i.2) ∨ (j.1 ≤ x.toInt ∧ x.toInt ≤ j.2)) : z_mt ν nv β (z_hl 2 i j) (.long x) := by
  have h1 := z_min_le (a := i.1) (b := j.1)
  have h2 := z_max_le (a := i.2) (b := j.2)
  refine Or.inr (Or.inr (Or.inr (Or.inl ⟨rfl, x, rfl, ?_, ?_, Or.inl rfl⟩)))
  · show z_min i.1 j.1 ≤ x.toInt
    omega
  · show x.toInt ≤ z_max i.2 j.2
    omega
theorem z_wrAL {ν : Nat → Int} {β : ZB} {V : VS} {l r : List AV} {len : Nat} {ix : FM} {v : AV} {f : Nat → Int64} {x : Int64} {k : Nat} (hs : z_sat ν V) (h : z_wrA 2 V l ix v = some r) (hk1 : (k : Int) = f_evm ν ix) (hk : k < len) (hel : ∀ j, j < len → ∃ a, z_at l j = some a ∧ z_mt ν (z_len V.1) β a (.long (f j))) (hv : z_mt ν (z_len V.1) β v (.long x)) (hv0 : v.1 = 2) : ∀ j, j < len → ∃ a, z_at r j = some a ∧ z_mt ν (z_len V.1) β a (.long (vp_updL f k x j)) := by
  have up : ∀ j, vp_updL f k x j = if j = k then x else f j := fun j => rfl
  match l, h, hel with
  | [a], h, hel =>
    have h : (match z_fitA 2 V v a with | true => some [a] | false => z_bd (z_avb V v) fun i => z_bd (z_avb V a) fun j => some [z_hl 2 i j]) = some r := h
    cases hf : z_fitA 2 V v a with
    | true =>
      rw [hf] at h
      cases h
      intro j hj
      obtain ⟨a', g1, g2⟩ := hel j hj
      refine ⟨a', g1, ?_⟩
      rw [up]
      by_cases e : j = k
      · rw [if_pos e]
        cases g1
        obtain ⟨f1, f2⟩ := z_andI hf
        obtain ⟨f1, f3⟩ := z_andI f1
        have f1 : a.1 = 3 := Nat.eq_of_beq_eq_true f1
        have fb := z_inRI hs f3
        have hxv : x.toInt = f_evm ν (z_fm2 v) := by
          obtain ⟨-, y, hy, hz⟩ := z_mt_l hv (by unfold z_isL; rw [hv0]; rfl)
          cases hy
          exact hz
        rw [← hxv] at fb
        refine Or.inr (Or.inr (Or.inr (Or.inl ⟨f1, x, rfl, fb.1, fb.2, ?_⟩)))
        cases hm : a.2.1 with
        | zero => exact Or.inl rfl
        | succ n =>
          rw [hm] at f2
          right
          rw [hxv]
          exact z_actF_ok hs f2
      · rw [if_neg e]
        exact g2
    | false =>
      rw [hf] at h
      obtain ⟨i, hi, h⟩ := z_bdI h
      obtain ⟨w, hw', h⟩ := z_bdI h
      cases h
      intro j hj
      obtain ⟨a', g1, g2⟩ := hel j hj
      cases g1
      refine ⟨_, rfl, z_hlL ?_⟩
      rw [up]
      by_cases e : j = k
      · rw [if_pos e]; exact Or.inl (z_avbL hs hi hv)
      · rw [if_neg e]; exact Or.inr (z_avbL hs hw' g2)
  | a :: d :: g, h, hel =>
    obtain ⟨q, hq, h⟩ := z_bdI h
    have hb := f_bd_ok hs hq
    rw [← hk1] at hb
    cases ho : z_one q with
    | true =>
      rw [ho] at h
      have := z_le_iff.mp ho
      have e : Int.toNat q.1 = k := by omega
      cases h
      intro j hj
      rw [e, z_at2 (by rw [z_len_put]; simp [z_len]), up]
      by_cases ej : j = k
      · subst ej
        obtain ⟨a0, g1, -⟩ := hel j hj
        rw [if_pos rfl]
        exact ⟨v, z_nth_self g1 v, hv⟩
      · rw [if_neg ej, z_nth_ne _ _ (Ne.symm ej)]
        exact hel j hj
    | false =>
      rw [ho] at h
      obtain ⟨i, hi, h⟩ := z_bdI h
      intro j hj
      obtain ⟨a0, g1, g2⟩ := hel j hj
      have g1 : z_nth (a :: d :: g) j = some a0 := g1
      obtain ⟨c1, c2⟩ := z_mhR_ok h g1
      rw [z_at2 (by rw [c1]; simp [z_len]), up]
      rcases c2 with ⟨c2, c3⟩ | ⟨w, c2, c3⟩
      · refine ⟨a0, c2, ?_⟩
        by_cases ej : j = k
        · rw [if_pos ej]
          rcases c3 with c3 | c3
          · subst ej
            have hsel : z_sel (f_g ix.2) ix.1 q (0 + (j : Int)) = true := by rw [show (0 : Int) + (j : Int) = (j : Int) by omega]; exact z_sel_ok hk1 hb.1 hb.2
            rw [hsel] at c3; cases c3
          · exact z_fitL hs c3 hv hv0
        · rw [if_neg ej]
          exact g2
      · refine ⟨_, c3, z_hlL ?_⟩
        by_cases ej : j = k
        · rw [if_pos ej]; exact Or.inl (z_avbL hs hi hv)
        · rw [if_neg ej]; exact Or.inr (z_avbL hs c2 g2)
