/-! contracts in a table; how one is closed -/
def z_cs (S : List ZT) (ms : List ZM) (own mn : String) (cc : ByteArray) (nL : Nat) : List ZCut → Prop
  | [] => True
  | C :: l => z_sound S ms own mn cc nL C.1 C.2.2.2 ∧ z_cs S ms own mn cc nL l
theorem z_csI {S : List ZT} {ms : List ZM} {own mn : String} {cc : ByteArray} {nL : Nat} {l : List ZCut} (h : z_cs S ms own mn cc nL l) {j : Nat} {C : ZCut} (hj : z_nth l j = some C) : z_sound S ms own mn cc nL C.1 C.2.2.2 := by
  induction l generalizing j with
  | nil => cases hj
  | cons a l ih => cases j with
    | zero => cases hj; exact h.1
    | succ j => exact ih h.2 hj
def z_al {α : Type} (P : α → Prop) : List α → Prop
  | [] => True
  | a :: l => P a ∧ z_al P l
theorem z_alI {α : Type} {P : α → Prop} {l : List α} (h : z_al P l) {j : Nat} {a : α} (hj : z_nth l j = some a) : P a := by
  induction l generalizing j with
  | nil => cases hj
  | cons b l ih => cases j with
    | zero => cases hj; exact h.1
    | succ j => exact ih h.2 hj
theorem z_alM {α : Type} {P : α → Prop} {l : List α} (h : z_al P l) : ∀ a ∈ l, P a := by
  induction l with
  | nil => intro a ha; cases ha
  | cons b l ih =>
    intro a ha
    rcases List.mem_cons.mp ha with rfl | ha
    · exact h.1
    · exact ih h.2 a ha
theorem z_ctI {P : ZX → Prop} {CT : T2 (List ZX)} (h : z_al (z_al (z_al P)) CT) (q : Nat) (L : List ZX) (hL : z_g2 CT q = some L) : ∀ X ∈ L, P X := by
  unfold z_g2 at hL
  cases hr : z_nth CT (Nat.div q 16) with
  | none => rw [hr] at hL; cases hL
  | some r =>
    rw [hr] at hL
    exact z_alM (z_alI (z_alI h hr) hL)
theorem z_conT {l : Launch} {D : va_G} {K : Nat → ClassId} {β : ZB} {M : ZP} {X : ZX} {cuts : List ZCut} {CT : T2 (List ZX)} {k k' b nc L d : Nat} {y : MethodName} {bytes : ByteArray} {ret : Option FieldType} (hM : z_g2 z_PT X.1 = some M) (hq : z_nth z_ms X.1 = some (y, bytes, M.2.1, ret, M.2.2.1, M.2.2.2.2.1, M.2.2.2.2.2)) (hcs : z_cs z_SS z_ms y.cls y.name bytes M.2.1 cuts) (hT : z_al (z_al (z_al (z_okX z_SS z_ms l D K β))) CT) (h : z_chkX (z_call z_PT CT d) M X cuts k k' b nc L = true) : z_okX z_SS z_ms l D K β X := by
  refine z_chkX_ok (z_call_ok (z_glG z_PTok) (fun q L hL => z_ctI hT q L hL) d) (z_glG z_PTok X.1 M hM) ?_ h
  intro j C hj y' bytes' ret' hq'
  rw [hq] at hq'
  cases hq'
  exact z_csI hcs hj
