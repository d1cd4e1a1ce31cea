/-! a contract at a call; methods that are run at the call -/
theorem nb_ne {a b : Nat} (h : a ≠ b) : Nat.beq a b = false := by
  cases g : Nat.beq a b with
  | false => rfl
  | true => exact absurd (Nat.eq_of_beq_eq_true g) h
def z_drop {α : Type} : Nat → List α → List α
  | 0, l => l
  | _ + 1, [] => []
  | n + 1, _ :: l => z_drop n l
theorem z_nth_drop {α : Type} {k i : Nat} {l : List α} : z_nth (z_drop k l) i = z_nth l (k + i) := by
  induction k generalizing l with
  | zero => rw [Nat.zero_add]; rfl
  | succ k ih => cases l with
    | nil => rw [show k + 1 + i = (k + i) + 1 by omega]; cases i <;> rfl
    | cons a l => rw [show k + 1 + i = (k + i) + 1 by omega]; exact ih
theorem z_len_drop {α : Type} {k : Nat} {l : List α} : z_len (z_drop k l) = z_len l - k := by
  induction k generalizing l with
  | zero => rfl
  | succ k ih => cases l with
    | nil => show 0 = 0 - (k + 1); omega
    | cons a l => show z_len (z_drop k l) = (z_len l + 1) - (k + 1); rw [ih]; omega
theorem z_nth_app2 {α : Type} {l k : List α} {i : Nat} (h : z_len l ≤ i) : z_nth (z_app l k) i = z_nth k (i - z_len l) := by
  induction l generalizing i with
  | nil => rfl
  | cons a l ih =>
    have h : z_len l + 1 ≤ i := h
    cases i with
    | zero => omega
    | succ i =>
      show z_nth (z_app l k) i = z_nth k (i + 1 - (z_len l + 1))
      rw [ih (by omega), show i + 1 - (z_len l + 1) = i - z_len l by omega]
def z_nws (me nv : Nat) : Nat → TH → TH
  | 0, r => r
  | j + 1, r => (Nat.add me j, (0, [(1, Nat.add nv j)])) :: z_nws me nv j r
theorem z_nws_lo {ν : Nat → Int} {me nv ne : Nat} {θ : TH} {i : Nat} (h : i < me) : z_nu ν (z_nws me nv ne θ) i = z_nu ν θ i := by
  induction ne with
  | zero => rfl
  | succ j ih =>
    rw [← ih]
    unfold z_nu
    show (match (match Nat.beq (me + j) i with | true => some ((0, [(1, nv + j)]) : FM) | false => z_thl (z_nws me nv j θ) i) with | some g => f_evm ν g | none => 0) = _
    rw [show Nat.beq (me + j) i = false from nb_ne (by omega)]
    rfl
theorem z_nws_hi {ν : Nat → Int} {me nv ne : Nat} {θ : TH} {i : Nat} (h : me ≤ i) (h2 : i < me + ne) : z_nu ν (z_nws me nv ne θ) i = ν (nv + (i - me)) := by
  induction ne with
  | zero => omega
  | succ j ih =>
    by_cases e : me + j = i
    · subst e
      unfold z_nu
      show (match (match Nat.beq (me + j) (me + j) with | true => some ((0, [(1, nv + j)]) : FM) | false => z_thl (z_nws me nv j θ) (me + j)) with | some g => f_evm ν g | none => 0) = _
      rw [Nat.beq_refl]
      show 0 + (1 * ν (nv + j) + 0) = ν (nv + (me + j - me))
      rw [show nv + (me + j - me) = nv + j by omega]
      omega
    · rw [← ih (by omega)]
      unfold z_nu
      show (match (match Nat.beq (me + j) i with | true => some ((0, [(1, nv + j)]) : FM) | false => z_thl (z_nws me nv j θ) i) with | some g => f_evm ν g | none => 0) = _
      rw [show Nat.beq (me + j) i = false from nb_ne e]
      rfl
def z_wfT (nv : Nat) : TH → Bool
  | [] => true
  | q :: l => z_and (z_wfL nv q.2.2) (z_wfT nv l)
theorem z_wfT_nu {ν ν1 : Nat → Int} {nv : Nat} {θ : TH} (h : z_wfT nv θ = true) (hx : ∀ i, i < nv → ν1 i = ν i) (i : Nat) : z_nu ν1 θ i = z_nu ν θ i := by
  induction θ with
  | nil => rfl
  | cons q l ih =>
    obtain ⟨h1, h2⟩ := z_andI h
    have ih := ih h2
    unfold z_nu at ih ⊢
    show (match (match Nat.beq q.1 i with | true => some q.2 | false => z_thl l i) with | some g => f_evm ν1 g | none => 0) = (match (match Nat.beq q.1 i with | true => some q.2 | false => z_thl l i) with | some g => f_evm ν g | none => 0)
    cases Nat.beq q.1 i with
    | true => show q.2.1 + f_ev ν1 q.2.2 = q.2.1 + f_ev ν q.2.2; rw [f_ev_ext hx (z_wfLI h1)]
    | false => exact ih
def z_sbG (θ : TH) (m' : Nat) : List FM → Option (List FM)
  | [] => some []
  | f :: l => z_bd (f_sbs θ f) fun g => z_if (z_wfL m' g.2) (z_bd (z_sbG θ m' l) fun r => some (g :: r))
theorem z_sbG_ok {ν' ν1 : Nat → Int} {θ : TH} {m m' : Nat} (hag : ∀ i, i < m → ν' i = z_nu ν1 θ i) {l r : List FM} (h : z_sbG θ m' l = some r) (hl : ∀ g ∈ l, f_wf m g.2 ∧ f_evm ν' g ≤ 0) : ∀ g ∈ r, f_wf m' g.2 ∧ f_evm ν1 g ≤ 0 := by
  induction l generalizing r with
  | nil => cases h; intro g hg; cases hg
  | cons f l ih =>
    obtain ⟨k, hk, h⟩ := z_bdI h
    obtain ⟨hw, h⟩ := z_ifI h
    obtain ⟨t, ht, h⟩ := z_bdI h
    cases h
    intro g hg
    rcases List.mem_cons.mp hg with rfl | hg
    · have := hl f List.mem_cons_self
      exact ⟨z_wfLI hw, by rw [← f_sb_ev hag this.1 hk]; exact this.2⟩
    · exact ih ht (fun g hg => hl g (List.mem_cons_of_mem _ hg)) g hg
/-- what is taken to hold, one behind the other -/
def z_asmL : List FM → VS → Option VS
  | [], V => some V
  | g :: l, V => z_bd (z_asm V g) fun V1 => z_asmL l V1
theorem z_asmL_ok {ν : Nat → Int} {gs : List FM} {V : VS} (hs : z_sat ν V) (h : ∀ g ∈ gs, f_wf (z_len V.1) g.2 ∧ f_evm ν g ≤ 0) : ∃ V', z_asmL gs V = some V' ∧ z_sat ν V' ∧ z_len V'.1 = z_len V.1 := by
  induction gs generalizing V with
  | nil => exact ⟨V, rfl, hs, rfl⟩
  | cons g l ih =>
    have hg := h g List.mem_cons_self
    obtain ⟨V1, e1, s1, l1⟩ := z_asm_ok hs hg.1 hg.2
    obtain ⟨V2, e2, s2, l2⟩ := ih s1 (fun k hk => by rw [l1]; exact h k (List.mem_cons_of_mem _ hk))
    exact ⟨V2, by unfold z_asmL; rw [e1]; exact e2, s2, l2.trans l1⟩
/-- an end of the contract, in the caller's names: the names that it brings come behind the caller's; none, if it can't be -/
def z_conO (V : VS) (h : T2 AC) (θ : TH) (me : Nat) (o : ZO) : Option (List ZO) := match z_app V.1 (z_drop me o.2.2.1.1) with
  | B => match z_nws me (z_len V.1) (Nat.sub (z_len o.2.2.1.1) me) θ with
    | θ1 => z_bd (z_sbG θ1 (z_len B) o.2.2.1.2.1) fun gs => match z_asmL gs (B, V.2) with
      | none => z_if (Nat.ble me (z_len o.2.2.1.1)) (some [])
      | some V2 => z_bd (z_mgH θ1 (z_len B) o.2.2.2.1 h) fun h' => z_bd (match o.1 with
        | 0 => some o.2.1
        | _ => z_sbA θ1 (z_len B) o.2.1) fun a => z_if (Nat.ble me (z_len o.2.2.1.1)) (some [(o.1, a, V2, h', o.2.2.2.2)])
def z_conL (V : VS) (h : T2 AC) (θ : TH) (me : Nat) : List ZO → Option (List ZO)
  | [] => some []
  | o :: l => z_bd (z_conO V h θ me o) fun a => z_bd (z_conL V h θ me l) fun r => some (z_app a r)
theorem z_conL_mem {V : VS} {h : T2 AC} {θ : TH} {me : Nat} {l r : List ZO} (hc : z_conL V h θ me l = some r) {o : ZO} (ho : o ∈ l) : ∃ as, z_conO V h θ me o = some as ∧ ∀ a ∈ as, a ∈ r := by
  induction l generalizing r with
  | nil => cases ho
  | cons x l ih =>
    obtain ⟨a, ha, hc⟩ := z_bdI hc
    obtain ⟨t, ht, hc⟩ := z_bdI hc
    cases hc
    rcases List.mem_cons.mp ho with rfl | ho
    · exact ⟨a, ha, fun b hb => z_mem_app.mpr (Or.inl hb)⟩
    · obtain ⟨as, g1, g2⟩ := ih ht ho
      exact ⟨as, g1, fun b hb => z_mem_app.mpr (Or.inr (g2 b hb))⟩
/-- which ends give a value: all of one kind -/
def z_rkO (rk : Nat) : List ZO → Bool
  | [] => true
  | o :: l => z_and (match rk with
    | 0 => true
    | _ => Nat.ble 1 o.1) (z_rkO rk l)
theorem z_rkOI {rk : Nat} {l : List ZO} (h : z_rkO rk l = true) {o : ZO} (ho : o ∈ l) (hr : rk ≠ 0) : o.1 ≠ 0 := by
  induction l with
  | nil => cases ho
  | cons x l ih =>
    obtain ⟨h1, h2⟩ := z_andI h
    rcases List.mem_cons.mp ho with rfl | ho
    · cases rk with
      | zero => exact absurd rfl hr
      | succ k => have := Nat.le_of_ble_eq_true h1; omega
    · exact ih h2 ho
def z_roC (c : AC) : AC := match Nat.ble 99 c.1 with
  | true => c
  | false => (Nat.add c.1 100, c.2)
def z_roR : List AC → List AC
  | [] => []
  | c :: l => z_roC c :: z_roR l
def z_ro : T2 AC → T2 AC
  | [] => []
  | c :: l => z_roR c :: z_ro l
theorem z_roR_nth {l : List AC} {i : Nat} {c : AC} (h : z_nth (z_roR l) i = some c) : ∃ d, z_nth l i = some d ∧ c = z_roC d := by
  induction l generalizing i with
  | nil => cases h
  | cons a l ih => cases i with
    | zero => cases h; exact ⟨a, rfl, rfl⟩
    | succ i => exact ih h
theorem z_ro_nth {l : T2 AC} {i : Nat} {c : List AC} (h : z_nth (z_ro l) i = some c) : ∃ d, z_nth l i = some d ∧ c = z_roR d := by
  induction l generalizing i with
  | nil => cases h
  | cons a l ih => cases i with
    | zero => cases h; exact ⟨a, rfl, rfl⟩
    | succ i => exact ih h
theorem z_ro_ok {ν : Nat → Int} {nv n : Nat} {β : ZB} {K : Nat → ClassId} {σ σ0 : Nat → va_E} {h : T2 AC} (q : z_hm ν nv β K σ0 h n σ) : z_hm ν nv β K σ (z_ro h) n σ := by
  intro i c hc
  unfold z_g2 at hc
  cases hr : z_nth (z_ro h) (Nat.div i 16) with
  | none => rw [hr] at hc; cases hc
  | some t =>
    rw [hr] at hc
    obtain ⟨d0, h1, rfl⟩ := z_ro_nth hr
    obtain ⟨d, h2, rfl⟩ := z_roR_nth hc
    have a : z_g2 h i = some d := by unfold z_g2; rw [h1]; exact h2
    obtain ⟨b1, b2⟩ := q i d a
    refine ⟨fun _ => rfl, ?_⟩
    unfold z_roC
    cases hb : Nat.ble 99 d.1 with
    | true => exact b2
    | false =>
      rcases b2 with w | ⟨w1, w2⟩
      · rw [w] at hb; cases hb
      · refine Or.inr ⟨w1, ?_⟩
        show z_mc ν nv β K ((d.1 + 100) % 100, d.2) (σ i)
        rw [Nat.add_mod_right]
        exact w2
/-- a contract: method, values, names, cells at the entry, cells' number, room, ends -/
abbrev ZX : Type := Nat × List AV × VS × T2 AC × Nat × Nat × Nat × List ZO
def z_okX (S : List ZT) (ms : List ZM) (l : Launch) (D : va_G) (K : Nat → ClassId) (β : ZB) (X : ZX) : Prop := ∀ f lo, X.2.2.2.2.2.1 ≤ f → X.2.2.2.2.2.2.1 ≤ lo → z_M S ms l D K β X.1 X.2.1 X.2.2.1 X.2.2.2.1 X.2.2.2.2.1 f lo X.2.2.2.2.2.2.2
/-- a contract by given values of its names -/
def z_conH (θ : TH) (rk : Nat) (X : ZX) (args : List AV) (V : VS) (h : T2 AC) (n f lo : Nat) : Option (List ZO) := z_if (z_and (z_and (Nat.beq n X.2.2.2.2.1) (z_and (Nat.ble X.2.2.2.2.2.1 f) (Nat.ble X.2.2.2.2.2.2.1 lo))) (z_and (z_and (z_inV V θ X.2.2.1) (z_wfT (z_len V.1) θ)) (z_and (z_inL V θ (z_len X.2.2.1.1) X.2.1 args) (z_and (z_inH V θ (z_len X.2.2.1.1) X.2.2.2.1 (z_ro h)) (z_rkO rk X.2.2.2.2.2.2.2))))) (z_conL V h θ (z_len X.2.2.1.1) X.2.2.2.2.2.2.2)
def z_con (rk : Nat) (X : ZX) (args : List AV) (V : VS) (h : T2 AC) (n f lo : Nat) : Option (List ZO) := match z_thL X.2.1 args (z_thH X.2.2.2.1 h []) with
  | θ => z_if (z_and (z_and (Nat.beq n X.2.2.2.2.1) (z_and (Nat.ble X.2.2.2.2.2.1 f) (Nat.ble X.2.2.2.2.2.2.1 lo))) (z_and (z_and (z_inV V θ X.2.2.1) (z_wfT (z_len V.1) θ)) (z_and (z_inL V θ (z_len X.2.2.1.1) X.2.1 args) (z_and (z_inH V θ (z_len X.2.2.1.1) X.2.2.2.1 (z_ro h)) (z_rkO rk X.2.2.2.2.2.2.2))))) (z_conL V h θ (z_len X.2.2.1.1) X.2.2.2.2.2.2.2)
section CO
variable {S : List ZT} {ms : List ZM} {l : Launch} {D : va_G} {K : Nat → ClassId} {β : ZB}
theorem z_conO_ok {V : VS} {h : T2 AC} {θ : TH} {me n n' rk : Nat} {o : ZO} {as : List ZO} {ν ν' : Nat → Int} {σ σ0 u : Nat → va_E} {v : Value} (hc : z_conO V h θ me o = some as) (hθ : z_wfT (z_len V.1) θ = true) (hnn : n ≤ n') (hs : z_sat ν V) (hh : z_hm ν (z_len V.1) β K σ0 h n σ) (hag : ∀ i, i < me → ν' i = z_nu ν θ i) (hs' : z_sat ν' o.2.2.1) (hh' : z_hm ν' (z_len o.2.2.1.1) β K σ o.2.2.2.1 n' u) (hr0 : rk ≠ 0 → o.1 ≠ 0) (hv : rk ≠ 0 → z_mt ν' (z_len o.2.2.1.1) β o.2.1 v) :
    ∃ a ∈ as, ∃ ν1 : Nat → Int, (∀ i, i < z_len V.1 → ν1 i = ν i) ∧ z_len V.1 ≤ z_len a.2.2.1.1 ∧ z_sat ν1 a.2.2.1 ∧ z_hm ν1 (z_len a.2.2.1.1) β K σ0 a.2.2.2.1 n' u ∧ (rk ≠ 0 → z_mt ν1 (z_len a.2.2.1.1) β a.2.1 v) ∧ a.2.2.2.2.1 = o.2.2.2.2.1 := by
  obtain ⟨gs, hgs, hc⟩ := z_bdI hc
  have hme : me ≤ z_len o.2.2.1.1 := by
    cases hA : z_asmL gs (z_app V.1 (z_drop me o.2.2.1.1), V.2) with
    | none => rw [hA] at hc; exact Nat.le_of_ble_eq_true (z_ifI hc).1
    | some V2 =>
      rw [hA] at hc
      obtain ⟨h', hh1, hc⟩ := z_bdI hc
      obtain ⟨b, hb, hc⟩ := z_bdI hc
      exact Nat.le_of_ble_eq_true (z_ifI hc).1
  have hlen : z_len (z_app V.1 (z_drop me o.2.2.1.1)) = z_len V.1 + (z_len o.2.2.1.1 - me) := by rw [z_len_app, z_len_drop]
  have hx : ∀ i, i < z_len V.1 → (fun i => if i < z_len V.1 then ν i else ν' (me + (i - z_len V.1))) i = ν i := fun i hi => if_pos hi
  have hx2 : ∀ i, ¬ i < z_len V.1 → (fun i => if i < z_len V.1 then ν i else ν' (me + (i - z_len V.1))) i = ν' (me + (i - z_len V.1)) := fun i hi => if_neg hi
  generalize (fun i => if i < z_len V.1 then ν i else ν' (me + (i - z_len V.1))) = ν1 at hx hx2
  have hag1 : ∀ i, i < z_len o.2.2.1.1 → ν' i = z_nu ν1 (z_nws me (z_len V.1) (Nat.sub (z_len o.2.2.1.1) me) θ) i := by
    intro i hi
    rcases Nat.lt_or_ge i me with g | g
    · rw [z_nws_lo g, z_wfT_nu hθ hx, hag i g]
    · rw [z_nws_hi g (by show i < me + (z_len o.2.2.1.1 - me); omega), hx2 _ (by omega), show me + (z_len V.1 + (i - me) - z_len V.1) = i by omega]
  have hsat : z_sat ν1 (z_app V.1 (z_drop me o.2.2.1.1), V.2) := by
    have e := z_sat_ext hx hs
    refine ⟨fun i q hq => ?_, fun g hg => ?_, fun x hx' => ?_⟩
    · have hq : z_nth (z_app V.1 (z_drop me o.2.2.1.1)) i = some q := hq
      rcases Nat.lt_or_ge i (z_len V.1) with g | g
      · rw [z_nth_app g] at hq
        exact e.1 i q hq
      · rw [z_nth_app2 g, z_nth_drop] at hq
        rw [hx2 i (by omega)]
        exact hs'.1 _ q hq
    · show f_wf (z_len (z_app V.1 (z_drop me o.2.2.1.1))) g.2 ∧ _
      exact ⟨f_wf_mono (by omega) (e.2.1 g hg).1, (e.2.1 g hg).2⟩
    · have w := e.2.2 x hx'
      exact ⟨by show x < z_len (z_app V.1 (z_drop me o.2.2.1.1)); have := w.1; omega, w.2⟩
  obtain ⟨V2, eA, sA, lA⟩ := z_asmL_ok (gs := gs) hsat (z_sbG_ok hag1 hgs hs'.2.1)
  rw [eA] at hc
  obtain ⟨h', hh1, hc⟩ := z_bdI hc
  obtain ⟨b, hb, hc⟩ := z_bdI hc
  obtain ⟨-, hc⟩ := z_ifI hc
  cases hc
  have lA : z_len V2.1 = z_len (z_app V.1 (z_drop me o.2.2.1.1)) := lA
  refine ⟨_, List.mem_cons_self, ν1, hx, by simp only; omega, sA, ?_, fun hr => ?_, rfl⟩
  · simp only
    rw [lA]
    exact z_mgH_ok hag1 hx (by omega) hnn hh1 hh' hh
  · have h0 := hr0 hr
    simp only
    rw [lA]
    split at hb
    · rename_i e; exact absurd e h0
    · exact z_sbA_ok hag1 hb (hv hr)
theorem z_conH_ok {θ : TH} {X : ZX} {M : ZM} (hX : z_okX S ms l D K β X) (hM : z_nth ms X.1 = some M) {args : List AV} {V : VS} {h : T2 AC} {n f lo : Nat} {outs : List ZO} (hc : z_conH θ M.2.2.2.2.1 X args V h n f lo = some outs) : z_M S ms l D K β X.1 args V h n f lo outs := by
  obtain ⟨hk, hc1⟩ := z_ifI hc
  clear hc
  obtain ⟨k1, k2⟩ := z_andI hk
  obtain ⟨k1, k3⟩ := z_andI k1
  obtain ⟨k3, k4⟩ := z_andI k3
  obtain ⟨k2, k5⟩ := z_andI k2
  obtain ⟨k2, k6⟩ := z_andI k2
  obtain ⟨k5, k7⟩ := z_andI k5
  obtain ⟨k7, k8⟩ := z_andI k7
  have k1 := Nat.eq_of_beq_eq_true k1
  subst k1
  obtain ⟨M', m1, m2⟩ := hX f lo (Nat.le_of_ble_eq_true k3) (Nat.le_of_ble_eq_true k4)
  rw [hM] at m1
  cases m1
  refine ⟨M, hM, fun ν σ σ0 av hs hh ha => ?_⟩
  refine met_mono (m2 (z_nu ν θ) σ σ av (z_inV_ok hs k2) (z_inH_ok hs k7 (z_ro_ok hh)) (z_inL_ok hs k5 ha)) (z_Q_mono _ (fun r v u hr hp => ?_))
  obtain ⟨o, ho, ν', q1, q2, q3, q4, q5, q6⟩ := hp
  obtain ⟨as, ha2, ha1⟩ := z_conL_mem hc1 ho
  obtain ⟨a, ha3, ν1, w1, w2, w3, w4, w5, w6⟩ := z_conO_ok (rk := r) (n' := X.2.2.2.2.1 + M.2.2.2.2.2.1) ha2 k6 (Nat.le_add_right _ _) hs hh q1 q3 q4 (fun g => z_rkOI k8 ho (hr g)) q5
  exact ⟨a, ha1 a ha3, ν1, w1, w2, w3, w4, w5, w6.trans q6⟩
theorem z_con_ok {X : ZX} {M : ZM} (hX : z_okX S ms l D K β X) (hM : z_nth ms X.1 = some M) {args : List AV} {V : VS} {h : T2 AC} {n f lo : Nat} {outs : List ZO} (hc : z_con M.2.2.2.2.1 X args V h n f lo = some outs) : z_M S ms l D K β X.1 args V h n f lo outs := z_conH_ok (θ := z_thL X.2.1 args (z_thH X.2.2.2.1 h [])) hX hM hc
end CO
