/-! THE CLAIM OUT OF ONE WALK OF THE LAW'S BODY. Your part is whole_start (and what it stands on); all else here is the same for every law, but numbers. -/
def R_law : String := "MoatRanksLaw"
def lw_P (b : Addr) (xs : List Int32) (args : Array Value) (s : State) : Prop := args = #[.ref b] ∧ s.IntsAt b xs ∧ xs.length ≤ 6 ∧ (Jvm.Cond.and given_1 narrow_1).before args s = true
def lw_Q (_ : Array Value) (s : State) (o : Outcome) (t : State) : Prop := o = .returned (some (.int 1)) ∧ Framed s o t [] 600000 7302250
def lw_Z (below : List Frame) (a : Array Value) (s : State) : State → Prop := fun t => ∃ o, t.status = .running ∧ Ended t below o ∧ lw_Q a s o t
/-- the law's own end, with 1 on the stack, nothing written that was there before, its room as the claim has it -/
theorem lw_ret {p : Program} {l : Launch} {e : Env} {s : State} {m : MethodId} {below : List Frame} {meth : Method} {c : Code} {b : Nat} (hx : p.tables.exec = Jvm.exec) (hb : c.code = code) (hr : meth.sig.returnType = ret) (hlocks : meth.locks = false) {pc : Nat} {H : Heap} {ls : Array Slot} (hdg : decode code pc = .ok (.ireturn, 1)) : W p l e room_1 s m #[Value.ref b] below meth c H [] 600000 7302250 (lw_Z below #[Value.ref b] s) (F0 m pc ls [.int 1]) := by
  intro T hT X
  obtain ⟨fs, hret, hrun, hended, hW, hframe⟩ := X.leave (v := some (.int 1)) (hlocks := hlocks) (fun h => by rw [hr] at h; cases h)
  have hmeth' : T.vm.method? m = some meth := X.method'
  refine ⟨T.setFrames fs, ?_, .returned (some (.int 1)), hrun, hended, rfl, ⟨_, rfl⟩, hW, hframe⟩
  jvm_step X.here [X.here.top, hx, hb, hdg, hmeth', hr, ret, narrow_b1]
  (try refine ⟨rfl, ?_⟩); (try refine ⟨rfl, ?_⟩)
  first | (intro acts; rw [hret _ acts rfl rfl rfl]) | rw [hret _ _ rfl rfl rfl]
  exact Steps.refl _
/-- what holds at the law's entry: the machine, the code, the tables' words (any of lw_tbl by 'hts w (by decide +kernel)'), the script of L ints xs at the cell b, what the Statement gives of the start (any of its parts by flat_of_before) -/
def lw_At (p : Program) (s : State) (m : MethodId) (meth : Method) (c : Code) (b L : Nat) (xs : Nat → Int32) : Prop :=
  p.tables.exec = Jvm.exec ∧ c.code = code ∧ meth.sig.returnType = ret ∧ c.maxLocals = 4 ∧ s.vm.findClass R_law = some m.cls ∧ (∀ w ∈ lw_tbl, w.before #[Value.ref b] s = true) ∧ va_X b L xs s s.heap ∧ b < s.heap.size ∧ meth.locks = false ∧ (Jvm.Cond.and given_1 narrow_1).before #[Value.ref b] s = true
set_option maxHeartbeats 4000000 in
theorem whole_start {p : Program} {e : Env} {s : State} {m : MethodId} {below : List Frame} {meth : Method} {c : Code} (l : Launch) (hflags : l.flags = flags0) {b L : Nat} {xs : Nat → Int32} (hL : L ≤ 6) (C0 : lw_At p s m meth c b L xs) : W p l e room_1 s m #[Value.ref b] below meth c s.heap [] 0 0 (lw_Z below #[Value.ref b] s) (entryFrame m ([Value.ref b] : List Value).toArray 4) := by
  obtain ⟨hx, hb, hr, hml, hown, hts, hX, hbl, hlocks, hgv⟩ := id C0
  obtain ⟨D, K, hKK⟩ := z_KK hts
  rw [lg_entry_eq]
  have hC : CX p s m #[Value.ref b] c code 4 RL D K := ⟨hx, hb, hml, hown, fun w h => hts w (List.mem_filter.mp h).1, hKK⟩
  obtain ⟨ν, hν⟩ : ∃ ν : Nat → Int, ν = fun i => if i < 6 then (xs i).toInt else (L : Int) := ⟨_, rfl⟩
  have hν6 : ν 6 = L := by rw [hν]; rfl
  have hν0 : ∀ i, i < 6 → ν i = (xs i).toInt := fun i hi => by rw [hν]; simp [hi]
  have hZ : z_C z_ms D K s.heap.size b p l room_1 s m #[Value.ref b] meth c RL meth.name code ν 7 0 4 z_E0 :=
    ⟨hC, rfl, Nat.le_refl _, Nat.le_refl _, Nat.le_of_ble_eq_true rfl, Nat.le_refl _, rfl, fun _ => ⟨L, xs, hX, hbl, hbl, Nat.le_refl _, hL, hν0, hν6⟩, fun q a V h n f lo outs hc => z_call_ok (z_glG z_PTok) l D K s.heap.size b 12 q a V h n f lo outs hc⟩
  have hend : ∀ o : ZO, (o.1 = 1 ∧ z_isI o.2.1 = true ∧ o.2.2.2.2.1 ≤ 600000 ∧ o.2.2.2.2.2 ≤ 7302250 ∧ ∃ i, z_iv o.2.2.1 o.2.1 = some i ∧ 1 ≤ i.1 ∧ i.2 ≤ 1) → z_T D K s.heap.size b p l e room_1 s m #[Value.ref b] below meth c code (lw_Z below #[Value.ref b] s) ν 7 0 4 o := by
    intro o ⟨o1, o2, o3, o4, i, o5, o6, o7⟩ ν' σ H locs ls v pc hP hv hd
    obtain ⟨p1, p2, p3, p4, p5, p6, p7, p8⟩ := hP
    obtain ⟨x, rfl, hx'⟩ := z_mt_i (hv (by rw [o1]; decide)) o2
    have hb' := z_iv_ok p4 hx' o5
    have hx1 : x = 1 := i_eq.mpr (by show x.toInt = 1; omega)
    subst hx1
    rw [o1] at hd ⊢
    refine va_forget (fun q hq => p8.2.2.2 q hq) (W.widen (k := 600000) (n := 7302250) (by omega) o4 (lw_ret hx hb hr hlocks hd))
  have hsat : ∀ lo hi : Int, lo ≤ (L : Int) → (L : Int) ≤ hi → z_sat ν (z_V0 lo hi) := by
    intro lo hi h1 h2 i q hq
    match i, hq with
    | 0, hq => cases hq; rw [hν0 0 (by omega)]; exact ⟨z_mn_le _, z_mx_le _⟩
    | 1, hq => cases hq; rw [hν0 1 (by omega)]; exact ⟨z_mn_le _, z_mx_le _⟩
    | 2, hq => cases hq; rw [hν0 2 (by omega)]; exact ⟨z_mn_le _, z_mx_le _⟩
    | 3, hq => cases hq; rw [hν0 3 (by omega)]; exact ⟨z_mn_le _, z_mx_le _⟩
    | 4, hq => cases hq; rw [hν0 4 (by omega)]; exact ⟨z_mn_le _, z_mx_le _⟩
    | 5, hq => cases hq; rw [hν0 5 (by omega)]; exact ⟨z_mn_le _, z_mx_le _⟩
    | 6, hq => cases hq; rw [hν6]; exact ⟨h1, h2⟩
    | i + 7, hq => cases hq
  have hstart : ∀ lo hi : Int, lo ≤ (L : Int) → (L : Int) ≤ hi → z_W D K s.heap.size b p l e room_1 s m #[Value.ref b] below meth c (lw_Z below #[Value.ref b] s) ν 7 0 4 (z_S0 (z_V0 lo hi)) → W p l e room_1 s m #[Value.ref b] below meth c s.heap [] 0 0 (lw_Z below #[Value.ref b] s) (F0 m 0 ((lg_sl [Value.ref b] ++ List.replicate (4 - (lg_sl [Value.ref b]).length) Slot.unset).toArray) []) := fun lo hi h1 h2 hW =>
    hW ν (fun _ => .inr (0, [])) s.heap [] _ [] ⟨fun _ _ => rfl, Nat.le_refl _, Nat.le_refl _, hsat lo hi h1 h2, fun i c hc => Or.inl (z_h0_dummy hc), ⟨_, lv_entry [Value.ref b] (Nat.le_of_ble_eq_true rfl), ⟨rfl, Or.inr (Or.inr (Or.inr (Or.inr ⟨rfl, rfl⟩)))⟩, trivial⟩, trivial, ⟨fun k q h => absurd (wl_inv h).1 (Nat.not_lt_zero k), va_S.rf⟩⟩
  by_cases h5 : L ≤ 5
  · obtain ⟨os, h1, h2⟩ := z_finI zc_short
    exact hstart 0 5 (by omega) (by omega) ((z_iter_ok (e := e) (below := below) (Q := lw_Z below #[Value.ref b] s) hZ (zt_L_law meth.name) h1).2 (fun o ho => hend o (z_all1I h2 ho)) (fun st h => by cases h) _ List.mem_cons_self)
  · refine hstart 6 6 (by omega) (by omega) ?_
    have hpre := zc_pre
    unfold z_preok at hpre
    cases hp : z_pre with
    | none => rw [hp] at hpre; cases hpre
    | some r =>
      rw [hp] at hpre
      obtain ⟨g1, g2⟩ := z_andI hpre
      have g1 := Nat.eq_of_beq_eq_true g1
      have g2 := Nat.eq_of_beq_eq_true g2
      have hr2 : r.2 = [] := by
        cases hq : r.2 with
        | nil => rfl
        | cons a l => rw [hq] at g2; cases g2
      refine (z_tks_ok (e := e) (below := below) (Q := lw_Z below #[Value.ref b] s) hZ (zt_L_law meth.name) hp).2 (fun o ho => by rw [hr2] at ho; cases ho) ?_ _ List.mem_cons_self
      intro st hst
      obtain ⟨j, hj, hjn⟩ : ∃ j, j < z_len r.1 ∧ z_nth r.1 j = some st := by
        clear g1
        have : ∀ l : List ZS, st ∈ l → ∃ j, j < z_len l ∧ z_nth l j = some st := by
          intro l
          induction l with
          | nil => intro h; cases h
          | cons a l ih =>
            intro h
            rcases List.mem_cons.mp h with rfl | h
            · exact ⟨0, Nat.succ_pos _, rfl⟩
            · obtain ⟨j, j1, j2⟩ := ih h
              exact ⟨j + 1, Nat.succ_lt_succ j1, j2⟩
        exact this r.1 hst
      have hc := z_case_all (j := j) (by omega)
      unfold z_case at hc
      rw [hp] at hc
      simp only [hjn] at hc
      obtain ⟨os, h1, h2⟩ := z_finI hc
      exact (z_iter_ok (e := e) (below := below) (Q := lw_Z below #[Value.ref b] s) hZ (zt_L_law meth.name) h1).2 (fun o ho => hend o (z_all1I h2 ho)) (fun st h => by cases h) _ List.mem_cons_self
set_option maxHeartbeats 4000000 in
theorem lw_walk (l : Launch) (hflags : l.flags = flags0) (b : Addr) (xs : List Int32) : MetFree l x (headSpec (Jvm.Cond.code x code maxLocals ret :: tables_1) room_1) (lw_P b xs) (fun _ _ _ _ _ => True) lw_Q := by
  refine MetFree.of_bodyS (code := code) (maxLocals := maxLocals) (ret := ret) (by decide) ?_ ?_
  · intro args s m h hn
    obtain ⟨meth, c, h1, h2, h3, h4, h5, h6, -, -⟩ := Cond.code_spec hn (atoms_spec (ws := Jvm.Cond.code x code maxLocals ret :: tables_1) h _ List.mem_cons_self)
    exact ⟨meth, c, h1, h2, h3, h4, h5, h6⟩
  · intro p e s m args below meth c s₁ B hml0 hP _
    obtain ⟨rfl, hx, hbd, hgv⟩ := hP
    obtain ⟨scr, harrAt, hlist, hof, hsmall⟩ := hx
    obtain ⟨hcb, hkn, -, -⟩ := State.arrayAt?_spec harrAt
    have hown : s.vm.findClass R_law = some m.cls := findClass_of_methodNamed B.named
    have hts0 : ∀ c ∈ (Jvm.Cond.code x code maxLocals ret :: tables_1), c.before #[Value.ref b] s = true := atoms_spec (ws := Jvm.Cond.code x code maxLocals ret :: tables_1) B.pre
    have hts : ∀ w ∈ lw_tbl, w.before #[Value.ref b] s = true := k2_hts_sels lw_privs (fun w hw => hts0 w (List.mem_cons_of_mem _ hw)) lw_privs_ok
    have hml : c.maxLocals = 4 := B.maxLocals_eq (hts0 _ List.mem_cons_self)
    have X₀ : Stand p l e room_1 s m #[Value.ref b] below meth c s₁ [] 0 0 := Stand.of_body B
    have hh0 : s₁.heap = s.heap := by rw [B.state]; rfl
    have hsz : scr.slots.size = xs.length := by rw [← Array.length_toList, hlist, List.length_map]
    have hval : ∀ j : Nat, j < xs.length → scr.slots[j]? = some (.int (xs.getD j 0)) := fun j hj => by
      rw [← Array.getElem?_toList, hlist]
      simp [hj]
    have hbl : b < s.heap.size := (Array.getElem?_eq_some_iff.mp hcb).1
    have hX : va_X b xs.length (fun j => xs.getD j 0) s s.heap := ⟨scr, hcb, hof, hkn, hsz, hval⟩
    have K : W p l e room_1 s m #[Value.ref b] below meth c s₁.heap [] 0 0 (lw_Z below #[Value.ref b] s) (entryFrame m ([Value.ref b] : List Value).toArray 4) := by
      rw [hh0]
      exact whole_start l hflags hbd ⟨B.exec, B.bytes, B.returns, hml, hown, hts, hX, hbl, B.notSynchronized, hgv⟩
    obtain ⟨t, a1, o, b1, b2, b3⟩ := K s₁ rfl X₀
    exact ⟨t, o, a1, b1, b2, b3⟩
theorem lw_pre_spec {args : Array Value} {s : State} (h : (Jvm.Cond.and given_1 narrow_1).before args s = true) (hr : rest_1_c.before args s = true) : ∃ (b : Addr) (xs : List Int32), lw_P b xs args s := by
  have hs := flat_of_before _ h
  have hq := flat_of_before _ hr
  have hc : (Cond.count 1).before args s = true := hs _ (by decide +kernel)
  have harr : (Cond.arrayOf (.arg 0) .int).before args s = true := hs _ (by decide +kernel)
  have hle : (Cond.le (.length (.arg 0)) (.int 6)).before args s = true := hs _ (by decide +kernel)
  have hlen : (Cond.isInt (.length (.arg 0))).before args s = true := hq _ (by decide +kernel)
  have hall : (Cond.all (.arg 0) (.isInt (.elem (.arg 0) (.index 0)))).before args s = true := hq _ (by decide +kernel)
  obtain ⟨b, xs, hb, hx⟩ := State.ints_of_pre rfl harr hlen hall
  have hsm : xs.length < 2 ^ 31 := hx.choose_spec.2.2.2
  have hev : (Term.length (.arg 0)).eval args s none [] s = some (.int xs.length.toInt32) := hx.length_eval hb
  have hv := Cond.le_ints hev (show (Term.int 6).eval args s none [] s = some (.int 6) from rfl)
  have hd : xs.length.toInt32 ≤ 6 := by
    simpa [Cond.before, Cond.holds, hv] using hle
  have hN : xs.length ≤ 6 := (Int32.ofNat_le_ofNat hsm (by decide)).mp (show Int32.ofNat xs.length ≤ Int32.ofNat 6 from hd)
  exact ⟨b, xs, Cond.one_arg hc (show args[0]? = some (.ref b) from hb), hx, hN, h⟩
theorem lw_comes (l : Launch) (hflags : l.flags = flags0) : Comes l x (Jvm.Cond.code x code maxLocals ret :: tables_1) room_1 (fun tb e args s => Calls_1 tb e args s ∧ rest_1 tb e args s ∧ Pre_1 tb e args s)
    (fun _ _ args s o t => lw_Q args s o t) := by
  intro p e ha hc hk s m args below hf hfit hheap happ hpre
  obtain ⟨b, xs, hP⟩ := lw_pre_spec hpre.2.2 hpre.2.1
  obtain ⟨k, o, h1, h2, h3, hQ⟩ := lw_walk l hflags b xs p e ha hc hk s m args below hf ((Spec.applies_iff_loose hf).mp happ).1 hP trivial
  exact ⟨k, o, h1, h2, h3, hQ⟩
theorem lw_frame {s t : State} {o : Outcome} {args : Array Value} (h : Framed s o t [] 600000 7302250) :
    Framed s o t (fieldLocs frame_1_writes args s ++ arrayLocs frame_1_arrays args s ++ staticLocs frame_1_statics s) 600000 7302250 := h
theorem lw_limb (L : Cond) (hL : ∀ (args : Array Value) (s t : State), L.after args s (.returned (some (.int 1))) t = true) :
    ArmFor flags0 classFile x code maxLocals ret World_1 tables_1 room_1 Calls_1 rest_1 Pre_1
      (fun tb e a s o t => postC L tb e a s o t ∧ Framed s o t (fieldLocs frame_1_writes a s ++ arrayLocs frame_1_arrays a s ++ staticLocs frame_1_statics s) 600000 7302250) := by
  intro l hflags _ _ p e ha hc hk s m args below hf hfit hheap happ hpre
  obtain ⟨k, o, h1, h2, h3, rfl, hF⟩ := lw_comes l hflags p e ha hc hk s m args below hf hfit hheap happ hpre
  exact ⟨k, _, h1, h2, h3, hL args s _, lw_frame hF⟩
theorem i_vc : Claimed_1_1 ∧ Claimed_1_2 := ⟨lw_limb limb_1_1 (fun args s t => by simp [limb_1_1, Cond.after, Cond.holds, Cond.value]), lw_limb limb_1_2 (fun args s t => Cond.after_iff.mpr (by
  first | (rw [show limb_1_2 = Cond.eq .result (.int 1) from rfl, Cond.eq_ints (x := 1) (y := 1) rfl rfl]; simp; done) | (simp [limb_1_2, Cond.value, Term.eval]; done)))⟩
