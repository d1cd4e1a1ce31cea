/-! the law's entry: the classes' numbers, the rows' classes, the world is empty -/
theorem lt_of {w : Cond} {i : Nat} (h : tables_1[i]? = some w) : w ∈ lw_tbl := List.mem_append_right _ (List.mem_of_getElem? h)
theorem z_cls {s : State} {A : Array Value} (hb : ∀ w ∈ bw, w.before A s = true) : ∃ D : va_G, ∀ (c : Nat) (q : vw_C), vwCl[c]? = some q → u_Kn s q.1 q.2.1 q.2.2 (D.1 c) (D.2 c) := by
  obtain ⟨c0, i0, h0⟩ := u_known (C := RX0) (T := TX0) (N := 4) (n := 4) hb ciX0.2.1 (hb _ wN_X0)
  obtain ⟨c1, i1, h1⟩ := u_known (C := RX1) (T := TX1) (N := 12) (n := 12) hb ciX1.2.1 (hb _ wN_X1)
  obtain ⟨c2, i2, h2⟩ := u_known (C := RX2) (T := TX2) (N := 4) (n := 4) hb ciX2.2.1 (hb _ wN_X2)
  obtain ⟨c3, i3, h3⟩ := u_known (C := RX3) (T := TX3) (N := 4) (n := 4) hb ciX3.2.1 (hb _ wN_X3)
  obtain ⟨c4, i4, h4⟩ := u_known (C := RX4) (T := TX4) (N := 3) (n := 3) hb ciX4.2.1 (hb _ wN_X4)
  obtain ⟨c5, i5, h5⟩ := u_known (C := RX5) (T := TX5) (N := 7) (n := 7) hb ciX5.2.1 (hb _ wN_X5)
  obtain ⟨c6, i6, h6⟩ := u_known (C := RX6) (T := TX6) (N := 18) (n := 18) hb ciX6.2.1 (hb _ wN_X6)
  obtain ⟨c7, i7, h7⟩ := u_known (C := RX7) (T := TX7) (N := 3) (n := 3) hb ciX7.2.1 (hb _ wN_X7)
  obtain ⟨c8, i8, h8⟩ := u_known (C := RX8) (T := TX8) (N := 2) (n := 2) hb ciX8.2.1 (hb _ wN_X8)
  obtain ⟨c9, i9, h9⟩ := u_known (C := RX9) (T := TX9) (N := 11) (n := 11) hb ciX9.2.1 (hb _ wN_X9)
  obtain ⟨c10, i10, h10⟩ := u_known (C := RX10) (T := TX10) (N := 45) (n := 45) hb ciX10.2.1 (hb _ wN_X10)
  refine ⟨(fun k => if k = 0 then c0 else (if k = 1 then c1 else (if k = 2 then c2 else (if k = 3 then c3 else (if k = 4 then c4 else (if k = 5 then c5 else (if k = 6 then c6 else (if k = 7 then c7 else (if k = 8 then c8 else (if k = 9 then c9 else (c10)))))))))), fun k => if k = 0 then i0 else (if k = 1 then i1 else (if k = 2 then i2 else (if k = 3 then i3 else (if k = 4 then i4 else (if k = 5 then i5 else (if k = 6 then i6 else (if k = 7 then i7 else (if k = 8 then i8 else (if k = 9 then i9 else (i10))))))))))), ?_⟩
  intro k q hq
  match k, hq with
  | 0, hq => cases hq; exact h0
  | 1, hq => cases hq; exact h1
  | 2, hq => cases hq; exact h2
  | 3, hq => cases hq; exact h3
  | 4, hq => cases hq; exact h4
  | 5, hq => cases hq; exact h5
  | 6, hq => cases hq; exact h6
  | 7, hq => cases hq; exact h7
  | 8, hq => cases hq; exact h8
  | 9, hq => cases hq; exact h9
  | 10, hq => cases hq; exact h10
  | k + 11, hq => cases hq
theorem z_arrP {s : State} {A : Array Value} {ty : FieldType} (hne : ∀ C, ty ≠ .object C) (h : (Cond.arrayClass ty).before A s = true) : ∃ cA : ClassId, ArrOfT s cA ty ∧ va_RA s cA ty := by
  obtain ⟨cA, kA, comp, h1, h2, h3⟩ := Cond.arrayClass_spec h
  refine ⟨cA, fun n z => ⟨fun k h => (by cases h), kA, h2, comp, h3⟩, ?_⟩
  cases ty with
  | object C => exact absurd rfl (hne C)
  | _ => exact h1
theorem z_arrO {s : State} {A : Array Value} {C : String} (h : (Cond.arrayOver (.object C)).before A s = true) : ∃ cA : ClassId, ArrOfT s cA (.object C) ∧ va_RA s cA (.object C) := by
  obtain ⟨comp, cA, kA, h1, h2, h3, h4, h5⟩ := Cond.arrayOver_spec h
  exact ⟨cA, fun n z => ⟨fun k h => (by cases h), kA, h3, comp, h4⟩, kA, comp, h3, h4, h1, h5⟩
theorem z_KK {s : State} {A : Array Value} (ht : ∀ w ∈ lw_tbl, w.before A s = true) : ∃ (D : va_G) (K : Nat → ClassId), KK D K s := by
  have hb : ∀ w ∈ bw, w.before A s = true := fun w h => ht w (List.mem_filter.mp h).1
  obtain ⟨D, hD⟩ := z_cls hb
  obtain ⟨a0, h0⟩ := z_arrP (ty := .int) (fun _ h => by cases h) (hb _ wA_int)
  obtain ⟨a1, h1⟩ := z_arrP (ty := .byte) (fun _ h => by cases h) (hb _ wA_byte)
  obtain ⟨a2, h2⟩ := z_arrP (ty := .long) (fun _ h => by cases h) (hb _ wA_long)
  obtain ⟨a3, h3⟩ := z_arrP (ty := .boolean) (fun _ h => by cases h) (hb _ wA_boolean)
  have g4 : (Cond.arrayOver (.object RX6)).before A s = true := ht _ (lt_of (i := 246) (by decide +kernel))
  have g5 : (Cond.arrayOver (.object RX7)).before A s = true := ht _ (lt_of (i := 341) (by decide +kernel))
  obtain ⟨a4, h4⟩ := z_arrO g4
  obtain ⟨a5, h5⟩ := z_arrO g5
  refine ⟨D, fun k => if k = 0 then a0 else if k = 1 then a1 else if k = 2 then a2 else if k = 3 then a3 else if k = 4 then a4 else a5, ⟨hD, ?_⟩, fun w hw => va_Nw.of (nest_on (List.mem_filter.mp hw).2) (ht w (List.mem_filter.mp hw).1), va_AO.of g4, va_AO.of g5⟩
  intro k q hq
  match k, hq with
  | 0, hq => cases hq; exact h0
  | 1, hq => cases hq; exact h1
  | 2, hq => cases hq; exact h2
  | 3, hq => cases hq; exact h3
  | 4, hq => cases hq; exact h4
  | 5, hq => cases hq; exact h5
  | k + 6, hq => cases hq
theorem z_tks_ok {ms : List ZM} {D : va_G} {K : Nat → ClassId} {B b : Nat} {p : Program} {l : Launch} {e : Env} {R : Room} {s : State} {m : MethodId} {args : Array Value} {below : List Frame} {meth : Method} {c : Code} {Q : State → Prop} {ν0 : Nat → Int} {nv0 k0 nL : Nat} {E : ZE} {own mn : String} {cc : ByteArray} {code : T2 ZH} (X : z_C ms D K B b p l R s m args meth c own mn cc ν0 nv0 k0 nL E) (hc : z_tok2 ms own mn cc nL 0 code) {k : Nat} {t t' : List ZS × List ZO} (h : z_tks code E k t = some t') : (∀ o ∈ t.2, o ∈ t'.2) ∧ ((∀ o ∈ t'.2, z_T D K B b p l e R s m args below meth c cc Q ν0 nv0 k0 nL o) → (∀ st ∈ t'.1, z_W D K B b p l e R s m args below meth c Q ν0 nv0 k0 nL st) → ∀ st ∈ t.1, z_W D K B b p l e R s m args below meth c Q ν0 nv0 k0 nL st) := by
  induction k generalizing t t' with
  | zero => cases h; exact ⟨fun _ h => h, fun _ h => h⟩
  | succ k ih =>
    obtain ⟨t1, h1, h⟩ := z_bdI h
    have a1 := z_tick_ok (e := e) (below := below) (Q := Q) X hc h1
    have a2 := ih h
    exact ⟨fun o ho => a2.1 o (a1.1 o ho), fun hT hW => a1.2 (fun o ho => hT o (a2.1 o ho)) (a2.2 hT hW)⟩
theorem z_all1I {l : List ZO} (h : z_all1 l = true) {o : ZO} (ho : o ∈ l) : o.1 = 1 ∧ z_isI o.2.1 = true ∧ o.2.2.2.2.1 ≤ 600000 ∧ o.2.2.2.2.2 ≤ 7302250 ∧ ∃ i, z_iv o.2.2.1 o.2.1 = some i ∧ 1 ≤ i.1 ∧ i.2 ≤ 1 := by
  induction l with
  | nil => cases ho
  | cons a l ih =>
    obtain ⟨h1, h2⟩ := z_andI h
    obtain ⟨h2, h3⟩ := z_andI h2
    rcases List.mem_cons.mp ho with rfl | ho
    · obtain ⟨g1, g2⟩ := z_andI h1
      obtain ⟨g2, g3⟩ := z_andI g2
      obtain ⟨g3, g4⟩ := z_andI g3
      refine ⟨Nat.eq_of_beq_eq_true g1, g2, Nat.le_of_ble_eq_true g3, Nat.le_of_ble_eq_true g4, ?_⟩
      cases hi : z_iv o.2.2.1 o.2.1 with
      | none => simp only [hi] at h2; cases h2
      | some i => simp only [hi] at h2; exact ⟨i, rfl, z_le_iff.mp (z_andI h2).1, z_le_iff.mp (z_andI h2).2⟩
    · exact ih h3 ho
theorem z_finI {o : Option (List ZS × List ZO)} (h : z_fin o = true) : ∃ os, o = some ([], os) ∧ z_all1 os = true := by
  match o, h with
  | none, h => cases h
  | some ([], os), h => exact ⟨os, rfl, h⟩
  | some (_ :: _, _), h => cases h
theorem z_casesI {i k j : Nat} (h : z_cases i k = true) (h1 : i ≤ j) (h2 : j < i + k) : z_case j = true := by
  induction k generalizing i with
  | zero => omega
  | succ k ih =>
    obtain ⟨g1, g2⟩ := z_andI h
    by_cases e : i = j
    · exact e ▸ g1
    · exact ih (i := Nat.succ i) g2 (by omega) (by omega)
theorem z_case_all {j : Nat} (hj : j < 76) : z_case j = true := by
  rcases (show (0 ≤ j ∧ j < 0 + 4) ∨ (4 ≤ j ∧ j < 4 + 4) ∨ (8 ≤ j ∧ j < 8 + 4) ∨ (12 ≤ j ∧ j < 12 + 4) ∨ (16 ≤ j ∧ j < 16 + 4) ∨ (20 ≤ j ∧ j < 20 + 4) ∨ (24 ≤ j ∧ j < 24 + 4) ∨ (28 ≤ j ∧ j < 28 + 4) ∨ (32 ≤ j ∧ j < 32 + 4) ∨ (36 ≤ j ∧ j < 36 + 4) ∨ (40 ≤ j ∧ j < 40 + 4) ∨ (44 ≤ j ∧ j < 44 + 4) ∨ (48 ≤ j ∧ j < 48 + 4) ∨ (52 ≤ j ∧ j < 52 + 4) ∨ (56 ≤ j ∧ j < 56 + 4) ∨ (60 ≤ j ∧ j < 60 + 4) ∨ (64 ≤ j ∧ j < 64 + 4) ∨ (68 ≤ j ∧ j < 68 + 4) ∨ (72 ≤ j ∧ j < 72 + 4) by omega) with h | h | h | h | h | h | h | h | h | h | h | h | h | h | h | h | h | h | h
  · exact z_casesI zc_0 h.1 h.2
  · exact z_casesI zc_4 h.1 h.2
  · exact z_casesI zc_8 h.1 h.2
  · exact z_casesI zc_12 h.1 h.2
  · exact z_casesI zc_16 h.1 h.2
  · exact z_casesI zc_20 h.1 h.2
  · exact z_casesI zc_24 h.1 h.2
  · exact z_casesI zc_28 h.1 h.2
  · exact z_casesI zc_32 h.1 h.2
  · exact z_casesI zc_36 h.1 h.2
  · exact z_casesI zc_40 h.1 h.2
  · exact z_casesI zc_44 h.1 h.2
  · exact z_casesI zc_48 h.1 h.2
  · exact z_casesI zc_52 h.1 h.2
  · exact z_casesI zc_56 h.1 h.2
  · exact z_casesI zc_60 h.1 h.2
  · exact z_casesI zc_64 h.1 h.2
  · exact z_casesI zc_68 h.1 h.2
  · exact z_casesI zc_72 h.1 h.2
theorem z_h0_dummy {i : Nat} {c : AC} (h : z_g2 z_h0 i = some c) : c.1 = 99 := by
  have hall : ∀ r ∈ z_h0, ∀ c ∈ r, c.1 = 99 := by decide
  have mem : ∀ {α : Type} {l : List α} {j : Nat} {a : α}, z_nth l j = some a → a ∈ l := fun {α} {l} => by
    induction l with
    | nil => intro j a h; cases h
    | cons b l ih => intro j a h; cases j with
      | zero => cases h; exact List.mem_cons_self
      | succ j => exact List.mem_cons_of_mem _ (ih h)
  unfold z_g2 at h
  cases hr : z_nth z_h0 (Nat.div i 16) with
  | none => rw [hr] at h; cases h
  | some r => rw [hr] at h; exact hall r (mem hr) c (mem h)
