/-! one cut point's check in pieces: the states behind its head are run some at a time -/
def z_cr1 (code : T2 ZH) (E : ZE) (cuts : List ZCut) (me b n sc k : Nat) (r0 : Option (List FM)) (okr : ZO → Bool) (t : List ZS × List ZO) : Bool := match z_iter code E k t with
  | none => false
  | some r => match r.1 with
    | [] => z_okO cuts me b n sc r0 okr r.2
    | _ :: _ => false
theorem z_cr1I {code : T2 ZH} {E : ZE} {cuts : List ZCut} {me b n sc k : Nat} {r0 : Option (List FM)} {okr : ZO → Bool} {t : List ZS × List ZO} (h : z_cr1 code E cuts me b n sc k r0 okr t = true) : ∃ os, z_iter code E k t = some ([], os) ∧ z_okO cuts me b n sc r0 okr os = true := by
  unfold z_cr1 at h
  cases hi : z_iter code E k t with
  | none => rw [hi] at h; cases h
  | some r =>
    rw [hi] at h
    obtain ⟨todo, os⟩ := r
    cases todo with
    | cons st r => cases h
    | nil => exact ⟨os, rfl, h⟩
def z_ckT (me b L : Nat) (C : ZCut) : Bool := z_and (Nat.ble me (z_len C.2.1.1.1)) (z_and (z_wfR (z_len C.2.1.1.1) C.2.2.1) (z_and (z_rkc C.2.1.1 b C.2.2.1) (Nat.beq (z_len C.2.2.1) L)))
/-- ok: what a table of contracts must be; EE: the surroundings out of a table; each piece may have a table of its own -/
def z_ckX (ok : T2 (List ZX) → Prop) (EE : T2 (List ZX) → ZE) (code : T2 ZH) (cuts : List ZCut) (me b n sc k L : Nat) (okr : ZO → Bool) (C : ZCut) : Prop := z_ckT me b L C = true ∧ ∃ (T0 : T2 (List ZX)) (q : List ZS × List ZO), ok T0 ∧ C.2.2.2 (EE T0) C.2.1.2.1 [] C.2.1.1 C.2.1.2.2 n sc = some q ∧ ∃ ts : List (T2 (List ZX) × List ZS × List ZO), (∀ t ∈ ts, ok t.1 ∧ z_cr1 code (EE t.1) cuts me b n sc k (some C.2.2.1) okr t.2 = true) ∧ (∀ st ∈ q.1, ∃ t ∈ ts, st ∈ t.2.1) ∧ (∀ o ∈ q.2, ∃ t ∈ ts, o ∈ t.2.2)
theorem z_ckX1 {ok : T2 (List ZX) → Prop} {EE : T2 (List ZX) → ZE} {T : T2 (List ZX)} {code : T2 ZH} {cuts : List ZCut} {me b n sc k L : Nat} {okr : ZO → Bool} {C : ZCut} (hT : ok T) (h : z_chkC code (EE T) cuts me b n sc k L okr C = true) : z_ckX ok EE code cuts me b n sc k L okr C := by
  obtain ⟨h1, h2⟩ := z_andI h
  cases hf : C.2.2.2 (EE T) C.2.1.2.1 [] C.2.1.1 C.2.1.2.2 n sc with
  | none => rw [hf] at h2; cases h2
  | some q =>
    rw [hf] at h2
    exact ⟨h1, T, q, hT, hf, [(T, q)], fun t ht => (by rcases List.mem_cons.mp ht with rfl | ht; exact ⟨hT, h2⟩; cases ht), fun st hst => ⟨_, List.mem_cons_self, hst⟩, fun o ho => ⟨_, List.mem_cons_self, ho⟩⟩
def z_tk {α : Type} : Nat → List α → List α
  | 0, _ => []
  | _ + 1, [] => []
  | w + 1, a :: l => a :: z_tk w l
theorem z_tk_drop {α : Type} {w : Nat} {l : List α} {a : α} (h : a ∈ l) : a ∈ z_tk w l ∨ a ∈ z_drop w l := by
  induction w generalizing l with
  | zero => exact Or.inr (by cases l <;> exact h)
  | succ w ih => cases l with
    | nil => cases h
    | cons b l =>
      rcases List.mem_cons.mp h with rfl | h
      · exact Or.inl List.mem_cons_self
      · rcases ih h with g | g
        · exact Or.inl (List.mem_cons_of_mem _ g)
        · exact Or.inr g
/-- the states from a on, w of them (0: all) -/
def z_pc (a w : Nat) (l : List ZS) : List ZS := match w with
  | 0 => z_drop a l
  | _ + 1 => z_tk w (z_drop a l)
def z_ckK (EE : T2 (List ZX) → ZE) (code : T2 ZH) (cuts : List ZCut) (me b n sc k : Nat) (okr : ZO → Bool) (T : T2 (List ZX)) (a w : Nat) (C : ZCut) : Bool := match C.2.2.2 (EE []) C.2.1.2.1 [] C.2.1.1 C.2.1.2.2 n sc with
  | none => false
  | some q => z_cr1 code (EE T) cuts me b n sc k (some C.2.2.1) okr (z_pc a w q.1, q.2)
theorem z_drop_add {α : Type} {a w : Nat} {l : List α} : z_drop w (z_drop a l) = z_drop (a + w) l := by
  induction a generalizing l with
  | zero => cases l <;> (rw [Nat.zero_add]; rfl)
  | succ a ih => cases l with
    | nil => cases w <;> rfl
    | cons b l => rw [show a + 1 + w = (a + w) + 1 by omega]; exact ih
/-- the pieces' checks, one behind the other, the last with 0 -/
def z_ckKs (ok : T2 (List ZX) → Prop) (EE : T2 (List ZX) → ZE) (code : T2 ZH) (cuts : List ZCut) (me b n sc k : Nat) (okr : ZO → Bool) (C : ZCut) (Tl : T2 (List ZX)) : Nat → List (T2 (List ZX) × Nat) → Prop
  | a, [] => ok Tl ∧ z_ckK EE code cuts me b n sc k okr Tl a 0 C = true
  | a, w :: ws => (ok w.1 ∧ z_ckK EE code cuts me b n sc k okr w.1 a (w.2 + 1) C = true) ∧ z_ckKs ok EE code cuts me b n sc k okr C Tl (a + (w.2 + 1)) ws
theorem z_ckXK {ok : T2 (List ZX) → Prop} {EE : T2 (List ZX) → ZE} {code : T2 ZH} {cuts : List ZCut} {me b n sc k L : Nat} {okr : ZO → Bool} {C : ZCut} {ws : List (T2 (List ZX) × Nat)} {Tl : T2 (List ZX)} (hn : ok []) (h0 : z_ckT me b L C = true) (h : z_ckKs ok EE code cuts me b n sc k okr C Tl 0 ws) : z_ckX ok EE code cuts me b n sc k L okr C := by
  cases hf : C.2.2.2 (EE []) C.2.1.2.1 [] C.2.1.1 C.2.1.2.2 n sc with
  | none =>
    exfalso
    cases ws with
    | nil => have h := h.2; unfold z_ckK at h; rw [hf] at h; cases h
    | cons w ws => have h := h.1.2; unfold z_ckK at h; rw [hf] at h; cases h
  | some q =>
    have key : ∀ (ws : List (T2 (List ZX) × Nat)) (a : Nat), z_ckKs ok EE code cuts me b n sc k okr C Tl a ws → ∃ ts : List (T2 (List ZX) × List ZS × List ZO), (∀ t ∈ ts, ok t.1 ∧ z_cr1 code (EE t.1) cuts me b n sc k (some C.2.2.1) okr t.2 = true) ∧ (∀ st ∈ z_drop a q.1, ∃ t ∈ ts, st ∈ t.2.1) ∧ (∀ o ∈ q.2, ∃ t ∈ ts, o ∈ t.2.2) := by
      intro ws
      induction ws with
      | nil =>
        intro a h
        obtain ⟨h0, h⟩ := h
        unfold z_ckK at h
        rw [hf] at h
        exact ⟨[(Tl, z_pc a 0 q.1, q.2)], fun t ht => (by rcases List.mem_cons.mp ht with rfl | ht; exact ⟨h0, h⟩; cases ht), fun st hst => ⟨_, List.mem_cons_self, hst⟩, fun o ho => ⟨_, List.mem_cons_self, ho⟩⟩
      | cons w ws ih =>
        intro a h
        obtain ⟨⟨h0, h1⟩, h2⟩ := h
        unfold z_ckK at h1
        rw [hf] at h1
        obtain ⟨ts, g1, g2, g3⟩ := ih _ h2
        refine ⟨(w.1, z_pc a (w.2 + 1) q.1, q.2) :: ts, fun t ht => ?_, fun st hst => ?_, fun o ho => ⟨_, List.mem_cons_self, ho⟩⟩
        · rcases List.mem_cons.mp ht with rfl | ht
          · exact ⟨h0, h1⟩
          · exact g1 t ht
        · rcases z_tk_drop (w := w.2 + 1) hst with g | g
          · exact ⟨_, List.mem_cons_self, g⟩
          · rw [z_drop_add] at g
            obtain ⟨t, e1, e2⟩ := g2 st g
            exact ⟨t, List.mem_cons_of_mem _ e1, e2⟩
    obtain ⟨ts, g1, g2, g3⟩ := key ws 0 h
    exact ⟨h0, [], q, hn, hf, ts, g1, fun st hst => g2 st (by cases hq : q.1 <;> (rw [hq] at hst; exact hst)), g3⟩
section CX
variable {S : List ZT} {ms : List ZM} {D : va_G} {K : Nat → ClassId} {β : ZB} {p : Program} {l : Launch} {e : Env} {R : Room} {s : State} {m : MethodId} {args : Array Value} {below : List Frame} {meth : Method} {c : Code} {Q : State → Prop} {σ0 : Nat → va_E} {νe : Nat → Int} {me k0 nL n sc k b L : Nat} {own mn : String} {cc : ByteArray} {code : T2 ZH} {cuts : List ZCut} {okr : ZO → Bool} {ok : T2 (List ZX) → Prop} {EE : T2 (List ZX) → ZE}
theorem z_cuts_okX (X : ∀ T, ok T → z_C S ms D K β p l R s m args meth c own mn cc k0 nL (EE T)) (hc : z_tok2 S ms own mn cc nL 0 code) (hh : ∀ (j : Nat) (C : ZCut), z_nth cuts j = some C → z_sound S ms own mn cc nL C.1 C.2.2.2) (hk : ∀ (j : Nat) (C : ZCut), z_nth cuts j = some C → z_ckX ok EE code cuts me b n sc k L okr C)
    (hr : ∀ o : ZO, o.1 < 10 → okr o = true → ∀ (ν1 : Nat → Int) (nv1 : Nat), (∀ i, i < me → ν1 i = νe i) → me ≤ nv1 → z_T D K β p l e R s m args below meth c cc Q σ0 ν1 nv1 k0 nL o) :
    ∀ (N j : Nat) (C : ZCut), z_nth cuts j = some C → ∀ (ν : Nat → Int) (σ : Nat → va_E) (H : Heap) (locs : List Loc) (ls : Array Slot), (∀ i, i < me → ν i = νe i) → z_P D K β s σ0 ν (z_len C.2.1.1.1) k0 nL C.2.1.2.1 [] C.2.1.1 C.2.1.2.2 n ν σ H locs ls [] → r_enc b (z_evl ν C.2.2.1) < N → W p l e R s m args below meth c H locs (n - k0) sc Q (F0 m C.1 ls []) := by
  intro N
  induction N with
  | zero => intro j C _ ν σ H locs ls _ _ h; omega
  | succ N ih =>
    intro j C hj ν σ H locs ls hνe P hN
    have hchk := hk j C hj
    obtain ⟨c1, T0, q, hT0, hf, ts, ht1, ht2, ht3⟩ := hchk
    obtain ⟨c0, c1⟩ := z_andI c1
    obtain ⟨c3, c1⟩ := z_andI c1
    obtain ⟨c4, c5⟩ := z_andI c1
    have c0 := Nat.le_of_ble_eq_true c0
    have c3 := z_wfRI c3
    have c5 := Nat.eq_of_beq_eq_true c5
    have hrk := z_rkc_ok P.2.2.2.1 c4
    have hrun : ∀ t ∈ ts, (∀ o ∈ t.2.2, z_T D K β p l e R s m args below meth c cc Q σ0 ν (z_len C.2.1.1.1) k0 nL o) ∧ ∀ st ∈ t.2.1, z_W D K β p l e R s m args below meth c Q σ0 ν (z_len C.2.1.1.1) k0 nL st := by
      intro t ht
      obtain ⟨hTt, ht⟩ := ht1 t ht
      obtain ⟨os, hit, c2⟩ := z_cr1I ht
      have hT : ∀ o ∈ os, z_T D K β p l e R s m args below meth c cc Q σ0 ν (z_len C.2.1.1.1) k0 nL o := by
        intro o ho
        rcases z_okOI c2 ho with ⟨g1, g2⟩ | ⟨g1, g2⟩
        · obtain ⟨j', C', θ, d1, d2, d3, d4, d5, d6, d7⟩ := z_okC_ok g2
          obtain ⟨rs, d8, d9⟩ := d7 _ rfl
          unfold z_T
          rw [if_neg (by omega)]
          intro ν' σ' H' locs' ls' vs' P'
          have P' : z_P D K β s σ0 ν (z_len C.2.1.1.1) k0 nL o.2.2.2.2.2.2.1 [] o.2.2.1 o.2.2.2.1 o.2.2.2.2.1 ν' σ' H' locs' ls' vs' := P'
          show W p l e R s m args below meth c H' locs' (o.2.2.2.2.1 - k0) o.2.2.2.2.2.1 Q (F0 m o.2.2.2.2.2.2.2 ls' vs')
          obtain ⟨rfl, P2⟩ := z_incl_ok d6 P'
          rw [d3] at P2
          rw [d2, d3, d4]
          have hag := P'.1
          obtain ⟨s1, s2, s3⟩ := z_sbl_ok (ν := ν') d8
          have hchk' := hk _ C' d1
          obtain ⟨x1, -⟩ := hchk'
          obtain ⟨-, x1⟩ := z_andI x1
          obtain ⟨-, x1⟩ := z_andI x1
          obtain ⟨x4, x5⟩ := z_andI x1
          have hrk' : z_rkb (z_nu ν' θ) b C'.2.2.1 := z_rkc_ok P2.2.2.2.1 x4
          have x5 := Nat.eq_of_beq_eq_true x5
          have eqs : ∀ f ∈ C.2.2.1, f_evm ν' f = f_evm ν f := fun f hf => by
            show f.1 + f_ev ν' f.2 = f.1 + f_ev ν f.2
            rw [f_ev_ext hag (c3 f hf)]
          have eqe : z_evl ν' C.2.2.1 = z_evl ν C.2.2.1 := List.map_congr_left (fun f hf => by rw [eqs f hf])
          have hless := z_lex_ok (b := b) P'.2.2.2.1 d9 (fun f hf => by rw [eqs f hf]; exact hrk f hf) (s3 b hrk') (by rw [s2, ← z_len_eq, ← z_len_eq, c5, x5])
          refine ih _ C' d1 (z_nu ν' θ) σ' H' locs' ls' (fun i hi => ?_) P2 ?_
          · rw [z_isidI d5 i hi, hag i (by omega)]
            exact hνe i hi
          · rw [s1]
            rw [eqe] at hless
            omega
        · exact hr o g1 g2 ν _ hνe c0
      have a := (z_iter_ok (e := e) (below := below) (Q := Q) (σ0 := σ0) (ν0 := ν) (nv0 := z_len C.2.1.1.1) (X t.1 hTt) hc hit)
      exact ⟨fun o ho => hT o (a.1 o ho), a.2 hT (fun st h => by cases h)⟩
    exact hh j C hj D K β p l e R s m args below meth c Q σ0 ν (z_len C.2.1.1.1) k0 (EE T0) (X T0 hT0) _ _ _ _ _ _ q hf (fun st h => (let ⟨t, g1, g2⟩ := ht2 st h; (hrun t g1).2 st g2)) (fun o h => (let ⟨t, g1, g2⟩ := ht3 o h; (hrun t g1).1 o g2)) ν σ H locs ls [] P
end CX
