/-! the law's entry: the classes' numbers, the rows' classes, the texts, the world is empty -/
theorem lt_of {w : Cond} {i : Nat} (h : tables_1[i]? = some w) : w ∈ lw_tbl := List.mem_append_right _ (List.mem_of_getElem? h)
theorem z_cls {s : State} {A : Array Value} (hb : ∀ w ∈ bw, w.before A s = true) : ∃ D : va_G, ∀ (c : Nat) (q : vw_C), vwCl[c]? = some q → u_Kn s q.1 q.2.1 q.2.2 (D.1 c) (D.2 c) := by
  obtain ⟨c0, i0, h0⟩ := u_known (C := RX0) (T := TX0) (N := 4) (n := 4) hb ciX0.2.1 (hb _ wN_X0)
  obtain ⟨c1, i1, h1⟩ := u_known (C := RX1) (T := TX1) (N := 12) (n := 12) hb ciX1.2.1 (hb _ wN_X1)
  obtain ⟨c2, i2, h2⟩ := u_known (C := RX2) (T := TX2) (N := 4) (n := 4) hb ciX2.2.1 (hb _ wN_X2)
  obtain ⟨c3, i3, h3⟩ := u_known (C := RX3) (T := TX3) (N := 4) (n := 4) hb ciX3.2.1 (hb _ wN_X3)
  obtain ⟨c4, i4, h4⟩ := u_known (C := RX4) (T := TX4) (N := 3) (n := 3) hb ciX4.2.1 (hb _ wN_X4)
  obtain ⟨c5, i5, h5⟩ := u_known (C := RX5) (T := TX5) (N := 7) (n := 7) hb ciX5.2.1 (hb _ wN_X5)
  obtain ⟨c6, i6, h6⟩ := u_known (C := RX6) (T := TX6) (N := 18) (n := 18) hb ciX6.2.1 (hb _ wN_X6)
  obtain ⟨c7, i7, h7⟩ := u_known (C := RX7) (T := TX7) (N := 3) (n := 3) hb ciX7.2.1 (hb _ wN_X7)
  obtain ⟨c8, i8, h8⟩ := u_known (C := RX8) (T := TX8) (N := 2) (n := 2) hb ciX8.2.1 (hb _ wN_X8)
  obtain ⟨c9, i9, h9⟩ := u_known (C := RX9) (T := TX9) (N := 11) (n := 11) hb ciX9.2.1 (hb _ wN_X9)
  obtain ⟨c10, i10, h10⟩ := u_known (C := RX10) (T := TX10) (N := 45) (n := 45) hb ciX10.2.1 (hb _ wN_X10)
  refine ⟨(fun k => if k = 0 then c0 else (if k = 1 then c1 else (if k = 2 then c2 else (if k = 3 then c3 else (if k = 4 then c4 else (if k = 5 then c5 else (if k = 6 then c6 else (if k = 7 then c7 else (if k = 8 then c8 else (if k = 9 then c9 else (c10)))))))))), fun k => if k = 0 then i0 else (if k = 1 then i1 else (if k = 2 then i2 else (if k = 3 then i3 else (if k = 4 then i4 else (if k = 5 then i5 else (if k = 6 then i6 else (if k = 7 then i7 else (if k = 8 then i8 else (if k = 9 then i9 else (i10))))))))))), ?_⟩
  intro k q hq
  match k, hq with
  | 0, hq => cases hq; exact h0
  | 1, hq => cases hq; exact h1
  | 2, hq => cases hq; exact h2
  | 3, hq => cases hq; exact h3
  | 4, hq => cases hq; exact h4
  | 5, hq => cases hq; exact h5
  | 6, hq => cases hq; exact h6
  | 7, hq => cases hq; exact h7
  | 8, hq => cases hq; exact h8
  | 9, hq => cases hq; exact h9
  | 10, hq => cases hq; exact h10
  | k + 11, hq => cases hq
theorem z_arrP {s : State} {A : Array Value} {ty : FieldType} (hne : ∀ C, ty ≠ .object C) (h : (Cond.arrayClass ty).before A s = true) : ∃ cA : ClassId, ArrOfT s cA ty ∧ va_RA s cA ty := by
  obtain ⟨cA, kA, comp, h1, h2, h3⟩ := Cond.arrayClass_spec h
  refine ⟨cA, fun n z => ⟨fun k h => (by cases h), kA, h2, comp, h3⟩, ?_⟩
  cases ty with
  | object C => exact absurd rfl (hne C)
  | _ => exact h1
theorem z_arrO {s : State} {A : Array Value} {C : String} (h : (Cond.arrayOver (.object C)).before A s = true) : ∃ cA : ClassId, ArrOfT s cA (.object C) ∧ va_RA s cA (.object C) := by
  obtain ⟨comp, cA, kA, h1, h2, h3, h4, h5⟩ := Cond.arrayOver_spec h
  exact ⟨cA, fun n z => ⟨fun k h => (by cases h), kA, h3, comp, h4⟩, kA, comp, h3, h4, h1, h5⟩
theorem z_KK {s : State} {A : Array Value} (ht : ∀ w ∈ lw_tbl, w.before A s = true) : ∃ (D : va_G) (K : Nat → ClassId), KK D K s := by
  have hb : ∀ w ∈ bw, w.before A s = true := fun w h => ht w (List.mem_filter.mp h).1
  obtain ⟨D, hD⟩ := z_cls hb
  obtain ⟨a0, h0⟩ := z_arrP (ty := .int) (fun _ h => by cases h) (hb _ wA_int)
  obtain ⟨a1, h1⟩ := z_arrP (ty := .byte) (fun _ h => by cases h) (hb _ wA_byte)
  obtain ⟨a2, h2⟩ := z_arrP (ty := .long) (fun _ h => by cases h) (hb _ wA_long)
  obtain ⟨a3, h3⟩ := z_arrP (ty := .boolean) (fun _ h => by cases h) (hb _ wA_boolean)
  have g4 : (Cond.arrayOver (.object RX6)).before A s = true := ht _ (lt_of (i := 246) (by decide +kernel))
  have g5 : (Cond.arrayOver (.object RX7)).before A s = true := ht _ (lt_of (i := 341) (by decide +kernel))
  obtain ⟨a4, h4⟩ := z_arrO g4
  obtain ⟨a5, h5⟩ := z_arrO g5
  refine ⟨D, fun k => if k = 0 then a0 else if k = 1 then a1 else if k = 2 then a2 else if k = 3 then a3 else if k = 4 then a4 else a5, ⟨hD, ?_⟩, fun w hw => va_Nw.of (nest_on (List.mem_filter.mp hw).2) (ht w (List.mem_filter.mp hw).1), va_AO.of g4, va_AO.of g5⟩
  intro k q hq
  match k, hq with
  | 0, hq => cases hq; exact h0
  | 1, hq => cases hq; exact h1
  | 2, hq => cases hq; exact h2
  | 3, hq => cases hq; exact h3
  | 4, hq => cases hq; exact h4
  | 5, hq => cases hq; exact h5
  | k + 6, hq => cases hq
theorem z_txt {args : Array Value} {s : State} {q : ZT} {A : Nat → Prop} (h : ∀ w ∈ z_cds q, w.before args s = true) (hr : (Cond.stringRef q.1 q.2.1 q.2.2.1).before args s = true) (hl : q.2.2.2.length < 2 ^ 31) (hA : ∀ a : Nat, a < s.heap.size → ¬ A a) : ∃ r : Nat × Nat, vk_R q.1 q.2.1 q.2.2.1 r.1 s ∧ va_O "java/lang/String" r.1 A s s.heap ∧ va_OF "java/lang/String" "coder" "B" (.int 0) r.1 A s s.heap ∧ va_OF "java/lang/String" "value" "[B" (.ref r.2) r.1 A s s.heap ∧ va_T .byte r.2 q.2.2.2.length (fun j => .int (q.2.2.2.getD j 0)) A s s.heap := by
  have h1 := h _ List.mem_cons_self
  have h2 := h _ (List.mem_cons_of_mem _ List.mem_cons_self)
  have h3 := h _ (List.mem_cons_of_mem _ (List.mem_cons_of_mem _ List.mem_cons_self))
  have h4 := h _ (List.mem_cons_of_mem _ (List.mem_cons_of_mem _ (List.mem_cons_of_mem _ List.mem_cons_self)))
  have h5 : ∀ j, j < q.2.2.2.length → (Cond.eq (.elem (.field (.string q.1 q.2.1) "java/lang/String" "value" "[B") (.int (Int32.ofNat j))) (.int (q.2.2.2.getD j 0))).before args s = true := fun j hj => h _ (List.mem_cons_of_mem _ (List.mem_cons_of_mem _ (List.mem_cons_of_mem _ (List.mem_cons_of_mem _ (List.mem_map.mpr ⟨j, List.mem_range.mpr hj, rfl⟩)))))
  obtain ⟨a, c, cA, kA, q1, q2, q3, q4, q5, q6, -⟩ := Cond.exactly_spec (args := args) (first := s) (o := none) (s := s) (idx := []) (t := .string q.1 q.2.1) (cls := "java/lang/String") h1
  obtain ⟨t, ht, hT⟩ := va_Tof (f := fun j => .int (q.2.2.2.getD j 0)) (A := A) hl h3 (va_eqt h4) (fun j hj => va_eqt (h5 j hj)) hA
  exact ⟨(a, t), vk_R.of hr q1, ⟨cA, q3, q5, by rw [q6]; exact q2, hA a (Array.getElem?_eq_some_iff.mp q3).1⟩, vk_OFof q1 (va_eqt h2) hA, vk_OFof q1 ht hA, hT⟩
theorem z_enc (x : Int32) : Int32.ofNat x.toUInt32.toNat = x := by
  apply Int32.toBitVec_inj.mp
  show BitVec.ofNat 32 x.toBitVec.toNat = x.toBitVec
  exact BitVec.ofNat_toNat _ _ |>.trans (by simp)
theorem z_SSc : ∀ q ∈ z_SS, ∀ w ∈ z_cds q, w ∈ flatC (Jvm.Cond.and given_1 narrow_1) := z_alM z_SSa
theorem z_SSr : ∀ q ∈ z_SS, Cond.stringRef q.1 q.2.1 q.2.2.1 ∈ lw_tbl := by decide +kernel
theorem z_SSl : ∀ q ∈ z_SS, q.2.2.2.length < 2 ^ 31 := by decide +kernel
theorem z_nth_mem {α : Type} {l : List α} {j : Nat} {a : α} (h : z_nth l j = some a) : a ∈ l := by
  induction l generalizing j with
  | nil => cases h
  | cons b l ih => cases j with
    | zero => cases h; exact List.mem_cons_self
    | succ j => exact List.mem_cons_of_mem _ (ih h)
/-- what lies below the world at the start: addresses of the texts, the script in the numbers from 1000 on, its length at 999 -/
theorem z_XS0 {s : State} {b L : Nat} {xs : Nat → Int32} (hts : ∀ w ∈ lw_tbl, w.before #[Value.ref b] s = true) (hgv : (Jvm.Cond.and given_1 narrow_1).before #[Value.ref b] s = true) (hX : va_X b L xs s s.heap) (hbl : b < s.heap.size) : ∃ β : ZB, β.1 = s.heap.size ∧ β.2.1 = b ∧ β.2.2.1 999 = L ∧ z_XS z_SS β s s.heap := by
  have hs := flat_of_before _ hgv
  have hA : ∀ a : Nat, a < s.heap.size → ¬ fr s.heap.size a := fun a h g => absurd (show s.heap.size ≤ a from g) (by omega)
  have h0 : ∀ i : Nat, ∃ r : Nat × Nat, ∀ q : ZT, z_nth z_SS i = some q → vk_R q.1 q.2.1 q.2.2.1 r.1 s ∧ va_O "java/lang/String" r.1 (fr s.heap.size) s s.heap ∧ va_OF "java/lang/String" "coder" "B" (.int 0) r.1 (fr s.heap.size) s s.heap ∧ va_OF "java/lang/String" "value" "[B" (.ref r.2) r.1 (fr s.heap.size) s s.heap ∧ va_T .byte r.2 q.2.2.2.length (fun j => .int (q.2.2.2.getD j 0)) (fr s.heap.size) s s.heap := by
    intro i
    cases hq : z_nth z_SS i with
    | none => exact ⟨(0, 0), fun q h => by cases h⟩
    | some q =>
      have hm := z_nth_mem hq
      obtain ⟨r, hr⟩ := z_txt (A := fr s.heap.size) (fun w hw => hs w (z_SSc q hm w hw)) (hts _ (z_SSr q hm)) (z_SSl q hm) hA
      exact ⟨r, fun q' h => by cases h; exact hr⟩
  obtain ⟨ad, had⟩ := Classical.axiomOfChoice h0
  have hlen : z_len z_SS ≤ 999 := by decide +kernel
  obtain ⟨T, t1, t2, t3⟩ : ∃ T : Nat → Nat, (∀ i, i < 999 → T i = (ad i).1) ∧ T 999 = L ∧ ∀ j, T (1000 + j) = (xs j).toUInt32.toNat := by
    refine ⟨fun i => if i < 999 then (ad i).1 else if i = 999 then L else (xs (i - 1000)).toUInt32.toNat, fun i hi => if_pos hi, by simp, fun j => ?_⟩
    show (if 1000 + j < 999 then (ad (1000 + j)).1 else if 1000 + j = 999 then L else (xs (1000 + j - 1000)).toUInt32.toNat) = _
    rw [if_neg (by omega), if_neg (by omega), show 1000 + j - 1000 = j by omega]
  refine ⟨(s.heap.size, b, T, fun i => (ad i).2), rfl, rfl, t2, ?_, ⟨?_, ?_⟩, fun i q hq => ?_⟩
  · exact va_Zof (hts _ (by decide +kernel)) (hts _ (by decide +kernel)) (va_eqt (hs _ (by decide +kernel))) hA
  · exact va_Zqof (hts _ (by decide +kernel)) (hts _ (by decide +kernel)) (hs _ (by decide +kernel)) hA
  · obtain ⟨scr, g1, g2, g3, g4, g5⟩ := hX
    refine ⟨scr, g1, g2, g3, ?_, ?_, fun j hj => ?_, hA b hbl⟩
    · show T 999 ≤ _
      rw [t2]; omega
    · show _ = Int32.ofNat (T 999)
      rw [t2, g4]
    · have hj : j < T 999 := hj
      rw [t2] at hj
      rw [g5 j hj]
      show some (Value.int (xs j)) = some (Value.int (Int32.ofNat (T (1000 + j))))
      rw [t3, z_enc]
  · have hi : i < 999 := Nat.lt_of_lt_of_le (z_nth_lt hq) hlen
    show vk_R _ _ _ (T i) s ∧ va_O _ (T i) _ _ _ ∧ va_OF _ _ _ _ (T i) _ _ _ ∧ va_OF _ _ _ _ (T i) _ _ _ ∧ _
    rw [t1 i hi]
    exact had i q hq
theorem z_ok1I {o : ZO} (h : z_ok1 o = true) : o.1 = 1 ∧ z_isI o.2.1 = true ∧ o.2.2.2.2.1 ≤ 600000 ∧ o.2.2.2.2.2.1 ≤ 7302249 ∧ z_inR o.2.2.1 (z_fm2 o.2.1) 1 1 = true := by
  obtain ⟨h1, h⟩ := z_andI h
  obtain ⟨h2, h⟩ := z_andI h
  obtain ⟨h3, h⟩ := z_andI h
  obtain ⟨h4, h5⟩ := z_andI h
  exact ⟨Nat.eq_of_beq_eq_true h1, h2, Nat.le_of_ble_eq_true h3, Nat.le_of_ble_eq_true h4, h5⟩
theorem z_h0_dummy {i : Nat} {c : AC} (h : z_g2 z_h0 i = some c) : c.1 = 99 := by
  have hall : ∀ r ∈ z_h0, ∀ c ∈ r, c.1 = 99 := by decide
  have mem : ∀ {α : Type} {l : List α} {j : Nat} {a : α}, z_nth l j = some a → a ∈ l := fun {α} {l} => by
    induction l with
    | nil => intro j a h; cases h
    | cons b l ih => intro j a h; cases j with
      | zero => cases h; exact List.mem_cons_self
      | succ j => exact List.mem_cons_of_mem _ (ih h)
  unfold z_g2 at h
  cases hr : z_nth z_h0 (Nat.div i 16) with
  | none => rw [hr] at h; cases h
  | some r => rw [hr] at h; exact hall r (mem hr) c (mem h)
