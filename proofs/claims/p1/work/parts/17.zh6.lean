/-! rows of references, writes, new cells, the script, switches -/
def z_rng (V : VS) (a : AV) (f : Nat → VS → List ZS → List ZS) : Nat → Nat → List ZS → List ZS
  | 0, _, r => r
  | c + 1, k, r => match z_ref V a (Int.ofNat k) (Int.ofNat k) with
    | some V' => f k V' (z_rng V a f c (Nat.succ k) r)
    | none => z_rng V a f c (Nat.succ k) r
theorem z_rng_in {V V' : VS} {a : AV} {f : Nat → VS → List ZS → List ZS} {st : ZS} (hf : ∀ k V r, st ∈ r → st ∈ f k V r) {c k j : Nat} {r : List ZS} (h1 : k ≤ j) (h2 : j < k + c) (hV : z_ref V a (Int.ofNat j) (Int.ofNat j) = some V') (hst : ∀ r, st ∈ f j V' r) : st ∈ z_rng V a f c k r := by
  induction c generalizing k with
  | zero => omega
  | succ c ih =>
    unfold z_rng
    by_cases e : k = j
    · subst e
      rw [hV]
      exact hst _
    · have := ih (k := Nat.succ k) (by omega) (by omega)
      cases hR : z_ref V a (Int.ofNat k) (Int.ofNat k) with
      | none => exact this
      | some W => exact hf _ _ _ this
def z_el (np : Nat) (loc : List (Nat × AV)) (stk : List AV) (h : T2 AC) (n sl : Nat) (l : List AV) : Nat → VS → List ZS → List ZS := fun k V r => match z_nth l k with
  | some v => (np, loc, v :: stk, V, h, n, sl) :: r
  | none => r
def z_all4 : List AV → Bool
  | [] => true
  | a :: l => z_and (Nat.beq a.1 4) (z_all4 l)
theorem z_all4I {l : List AV} (h : z_all4 l = true) {j : Nat} {a : AV} (ha : z_nth l j = some a) : Nat.beq a.1 4 = true := by
  induction l generalizing j with
  | nil => cases ha
  | cons d l ih =>
    obtain ⟨h1, h2⟩ := z_andI h
    cases j with
    | zero => cases ha; exact h1
    | succ j => exact ih h2 ha
def h_aald (kk np : Nat) : ZH := fun _ loc stk V h n sl => z_bd (z_p1 stk) fun a => z_bd (z_p1 a.2) fun d => z_if (z_and (z_isI a.1) (Nat.beq d.1.1 4)) (z_bd (z_g2 h d.1.2.1) fun c => z_if (z_and (Nat.beq c.1 kk) (z_and (Nat.beq (z_len c.2.2) c.2.1) (z_and (Nat.ble 2 c.2.1) (z_all4 c.2.2)))) (z_bd (z_iv V a.1) fun q => z_if (z_inb q c.2.1) (some (z_rng V a.1 (z_el np loc d.2 h n sl c.2.2) c.2.1 0 [], []))))
section LR
variable {ms : List ZM} {own mn : String} {cc : ByteArray} {nL pc np : Nat}
theorem z_at2 {l : List AV} (h : 2 ≤ z_len l) (j : Nat) : z_at l j = z_nth l j := by
  match l, h with
  | [], h => exact absurd h (by simp [z_len])
  | [a], h => exact absurd h (by simp [z_len])
  | a :: d :: k, h => rfl
theorem s_aaload {kk : Nat} {C : String} (h56 : kk = 5 ∨ kk = 6) (ht : ∀ K : Nat → ClassId, (ty6 K)[kk - 1]? = some (K (kk - 1), .object C)) (d : decode cc pc = .ok (.aaload, 1)) (hn : pc + 1 = np) : z_sound ms own mn cc nL pc (h_aald kk np) := by
  subst hn
  intro D K B b p l e R s m args below meth c Q ν0 nv0 k0 E X loc stk V h n sl res hr hS hO ν σ H locs ls vs P
  obtain ⟨a, ha, hr⟩ := z_bdI hr
  obtain ⟨g, hg, hr⟩ := z_bdI hr
  obtain ⟨hk, hr⟩ := z_ifI hr
  obtain ⟨hka, hkg⟩ := z_andI hk
  obtain ⟨cl, hc, hr⟩ := z_bdI hr
  obtain ⟨hk2, hr⟩ := z_ifI hr
  obtain ⟨hk2, hk3⟩ := z_andI hk2
  obtain ⟨hk3, hk4⟩ := z_andI hk3
  obtain ⟨hk4, hk5⟩ := z_andI hk4
  obtain ⟨q, hq, hr⟩ := z_bdI hr
  obtain ⟨hin, hr⟩ := z_ifI hr
  cases hr
  have e1 := Nat.eq_of_beq_eq_true hk2
  have e2 := Nat.eq_of_beq_eq_true hk3
  have e3 := Nat.le_of_ble_eq_true hk4
  have p7 := P.2.2.2.2.2.2.1
  rw [show stk = _ from z_p1I ha, z_p1I hg] at p7
  obtain ⟨vx, r1, rfl, q1, q2⟩ := z_fm_cons p7
  obtain ⟨vr, rest, rfl, q3, q4⟩ := z_fm_cons q2
  obtain ⟨x, rfl, hx⟩ := z_mt_i q1 hka
  obtain rfl := z_mt_r q3 hkg
  have hb := z_iv_ok P.2.2.2.1 hx hq
  obtain ⟨b1, b2, b3⟩ := z_inbI hin hb.1 hb.2
  obtain ⟨hi, f, hf, hel⟩ := z_arR P.2.2.2.2.1 hc (by rw [e1]; exact h56)
  obtain ⟨w, hw', hm⟩ := hel _ b3
  rw [z_at2 (by rw [e2]; exact e3)] at hw'
  have hw4 := z_all4I hk5 hw'
  obtain ⟨y, hy⟩ : ∃ y, f x.toNatClampNeg = some y := by
    cases hfy : f x.toNatClampNeg with
    | some y => exact ⟨y, rfl⟩
    | none => rw [hfy] at hm; have := z_mt_r hm hw4; cases this
  obtain ⟨V', v1, v2, v3⟩ := z_ref_ok (lo := Int.ofNat x.toNatClampNeg) (hi := Int.ofNat x.toNatClampNeg) P.2.2.2.1 hx (by show (x.toNatClampNeg : Int) ≤ _; omega) (by show _ ≤ (x.toNatClampNeg : Int); omega)
  rw [hy] at hm
  refine hp_aald (kk - 1) X.1 P.2.2.2.2.2.2.2 g.1.2.1 hi (by rw [e1] at hf; exact hf) (ht K) b1 hy d (hS (pc + 1, loc, w :: g.2, V', h, n, sl) ?_ ν σ H locs ls _ (z_Pb (z_Pk P ⟨hm, q4⟩) v2 v3))
  refine z_rng_in (j := x.toNatClampNeg) (fun k W r hr => ?_) (Nat.zero_le _) (by omega) v1 (fun r => ?_)
  · unfold z_el
    cases z_nth cl.2.2 k with
    | none => exact hr
    | some v => exact List.mem_cons_of_mem _ hr
  · unfold z_el
    rw [hw']
    exact List.mem_cons_self
end LR
/-- what is written into a row -/
def z_rep (a : AV) : Nat → List AV
  | 0 => []
  | n + 1 => a :: z_rep a n
def z_mh (t : Nat) (V : VS) (i : Int × Int) : List AV → Option (List AV)
  | [] => some []
  | a :: l => z_bd (z_iv V a) fun j => z_bd (z_mh t V i l) fun r => some ((t, 0, z_min i.1 j.1, z_max i.2 j.2) :: r)
def z_wr (t : Nat) (V : VS) (l : List AV) (len : Nat) (q : Int × Int) (v : AV) : Option (List AV) := match l with
  | [] => none
  | [a] => match z_and (Nat.ble len 8) (z_one q) with
    | true => some (z_put (z_rep a len) (Int.toNat q.1) v)
    | false => z_bd (z_iv V v) fun i => z_bd (z_iv V a) fun j => some [(t, 0, z_min i.1 j.1, z_max i.2 j.2)]
  | a :: d :: k => match z_one q with
    | true => some (z_put (a :: d :: k) (Int.toNat q.1) v)
    | false => z_bd (z_iv V v) fun i => z_mh t V i (a :: d :: k)
theorem z_rep_nth {a : AV} {n j : Nat} (h : j < n) : z_nth (z_rep a n) j = some a := by
  induction n generalizing j with
  | zero => omega
  | succ n ih => cases j with
    | zero => rfl
    | succ j => exact ih (by omega)
theorem z_rep_len {a : AV} {n : Nat} : z_len (z_rep a n) = n := by
  induction n with
  | zero => rfl
  | succ n ih => exact congrArg Nat.succ ih
theorem z_mh_len {t : Nat} {V : VS} {i : Int × Int} {l r : List AV} (h : z_mh t V i l = some r) : z_len r = z_len l := by
  induction l generalizing r with
  | nil => cases h; rfl
  | cons d l ih =>
    obtain ⟨w, hw', h⟩ := z_bdI h
    obtain ⟨r', hr', h⟩ := z_bdI h
    cases h
    exact congrArg Nat.succ (ih hr')
theorem z_mh_ok {t : Nat} {V : VS} {i : Int × Int} {l r : List AV} (h : z_mh t V i l = some r) {j : Nat} {a : AV} (ha : z_nth l j = some a) : z_len r = z_len l ∧ ∃ w, z_iv V a = some w ∧ z_nth r j = some (t, 0, z_min i.1 w.1, z_max i.2 w.2) := by
  refine ⟨z_mh_len h, ?_⟩
  induction l generalizing j r with
  | nil => cases ha
  | cons d l ih =>
    obtain ⟨w, hw', h⟩ := z_bdI h
    obtain ⟨r', hr', h⟩ := z_bdI h
    cases h
    cases j with
    | zero => cases ha; exact ⟨w, hw', rfl⟩
    | succ j => exact ih hr' ha
theorem z_put_at {l : List AV} {len k : Nat} {v : AV} (hl : z_len l = len) (hk : k < len) {j : Nat} (hj : j < len) : (j = k ∧ z_at (z_put l k v) j = some v) ∨ (j ≠ k ∧ z_at (z_put l k v) j = z_nth l j) := by
  by_cases h2 : 2 ≤ len
  · rw [z_at2 (by rw [z_len_put, hl]; exact h2)]
    by_cases e : j = k
    · subst e
      obtain ⟨a, ha⟩ := z_len_nth (l := l) (i := j) (by omega)
      exact Or.inl ⟨rfl, z_nth_self ha v⟩
    · exact Or.inr ⟨e, z_nth_ne _ _ (Ne.symm e)⟩
  · have e1 : len = 1 := by omega
    have e2 : j = 0 := by omega
    have e3 : k = 0 := by omega
    subst e2 e3
    left
    refine ⟨rfl, ?_⟩
    match l, hl with
    | [], hl => simp [z_len] at hl; omega
    | [a], hl => rfl
    | a :: d :: r, hl => simp [z_len] at hl; omega
theorem z_wrI {ν : Nat → Int} {B b : Nat} {V : VS} {l r : List AV} {len : Nat} {q : Int × Int} {v : AV} {f : Nat → Int32} {x : Int32} {k : Nat} (hs : z_sat ν V) (h : z_wr 0 V l len q v = some r) (h1 : q.1 ≤ k) (h2 : (k : Int) ≤ q.2) (hk : k < len) (hel : ∀ j, j < len → ∃ a, z_at l j = some a ∧ z_mt ν (z_len V) B b a (.int (f j))) (hv : z_mt ν (z_len V) B b v (.int x)) (hlen : z_len l = 1 ∨ z_len l = len) : ∀ j, j < len → ∃ a, z_at r j = some a ∧ z_mt ν (z_len V) B b a (.int (upd f k x j)) := by
  have num : ∀ {a : AV} {y : Int32}, z_mt ν (z_len V) B b a (.int y) → z_zm ν (z_len V) a y.toInt := fun {a y} hm => by
    rcases hm with ⟨g1, w, g2, g3⟩ | ⟨g1, w, g2, g3⟩ | ⟨-, g2⟩ | ⟨-, g2⟩ | ⟨-, g2⟩
    all_goals first | (cases g2; exact g3) | cases g2
  have up : ∀ j, upd f k x j = if j = k then x else f j := fun j => rfl
  have put : ∀ l' : List AV, z_len l' = len → (∀ j, j < len → ∃ a, z_nth l' j = some a ∧ z_mt ν (z_len V) B b a (.int (f j))) → r = z_put l' (Int.toNat q.1) v → Int.toNat q.1 = k → ∀ j, j < len → ∃ a, z_at r j = some a ∧ z_mt ν (z_len V) B b a (.int (upd f k x j)) := fun l' e1 e2 e3 e4 j hj => by
    rw [e3, e4]
    rcases z_put_at (v := v) e1 hk hj with ⟨g1, g2⟩ | ⟨g1, g2⟩
    · exact ⟨v, g2, by rw [up, if_pos g1]; exact hv⟩
    · obtain ⟨a, a1, a2⟩ := e2 j hj
      exact ⟨a, by rw [g2]; exact a1, by rw [up, if_neg g1]; exact a2⟩
  match l, h, hel, hlen with
  | [], h, _, _ => cases h
  | [a], h, hel, _ =>
    unfold z_wr at h
    cases ho : z_and (Nat.ble len 8) (z_one q) with
    | true =>
      rw [ho] at h
      have := z_le_iff.mp (z_andI ho).2
      cases h
      exact put (z_rep a len) z_rep_len (fun j hj => by
        obtain ⟨a', e1, e2⟩ := hel j hj
        cases e1
        exact ⟨a, z_rep_nth hj, e2⟩) rfl (by omega)
    | false =>
      rw [ho] at h
      obtain ⟨i, hi, h⟩ := z_bdI h
      obtain ⟨w, hw', h⟩ := z_bdI h
      cases h
      intro j hj
      obtain ⟨a', e1, e2⟩ := hel j hj
      cases e1
      refine ⟨_, rfl, ?_⟩
      rw [up]
      have b1 := z_iv_ok hs (num hv) hi
      have b2 := z_iv_ok hs (num e2) hw'
      by_cases g : j = k
      · rw [if_pos g]
        exact z_mkI (Int.le_trans z_min_le.1 b1.1) (Int.le_trans b1.2 z_max_le.1)
      · rw [if_neg g]
        exact z_mkI (Int.le_trans z_min_le.2.1 b2.1) (Int.le_trans b2.2 z_max_le.2.1)
  | a :: d :: g, h, hel, hlen =>
    have hlen : z_len (a :: d :: g) = len := by
      rcases hlen with e | e
      · simp [z_len] at e
      · exact e
    unfold z_wr at h
    cases ho : z_one q with
    | true =>
      rw [ho] at h
      have := z_le_iff.mp ho
      cases h
      exact put (a :: d :: g) hlen hel rfl (by omega)
    | false =>
      rw [ho] at h
      obtain ⟨i, hi, h⟩ := z_bdI h
      intro j hj
      obtain ⟨a', e1, e2⟩ := hel j hj
      have e1 : z_nth (a :: d :: g) j = some a' := e1
      obtain ⟨c1, w, c2, c3⟩ := z_mh_ok h e1
      have b1 := z_iv_ok hs (num hv) hi
      have b2 := z_iv_ok hs (num e2) c2
      refine ⟨_, (z_at2 (by rw [c1]; simp [z_len]) j).trans c3, ?_⟩
      rw [up]
      by_cases g : j = k
      · rw [if_pos g]
        exact z_mkI (Int.le_trans z_min_le.1 b1.1) (Int.le_trans b1.2 z_max_le.1)
      · rw [if_neg g]
        exact z_mkI (Int.le_trans z_min_le.2.1 b2.1) (Int.le_trans b2.2 z_max_le.2.1)
theorem z_wrL {ν : Nat → Int} {B b : Nat} {V : VS} {l r : List AV} {len : Nat} {q : Int × Int} {v : AV} {f : Nat → Int64} {x : Int64} {k : Nat} (hs : z_sat ν V) (h : z_wr 2 V l len q v = some r) (h1 : q.1 ≤ k) (h2 : (k : Int) ≤ q.2) (hk : k < len) (hel : ∀ j, j < len → ∃ a, z_at l j = some a ∧ z_mt ν (z_len V) B b a (.long (f j))) (hv : z_mt ν (z_len V) B b v (.long x)) (hlen : z_len l = 1 ∨ z_len l = len) : ∀ j, j < len → ∃ a, z_at r j = some a ∧ z_mt ν (z_len V) B b a (.long (vp_updL f k x j)) := by
  have num : ∀ {a : AV} {y : Int64}, z_mt ν (z_len V) B b a (.long y) → z_zm ν (z_len V) a y.toInt := fun {a y} hm => by
    rcases hm with ⟨g1, w, g2, g3⟩ | ⟨g1, w, g2, g3⟩ | ⟨-, g2⟩ | ⟨-, g2⟩ | ⟨-, g2⟩
    all_goals first | (cases g2; exact g3) | cases g2
  have up : ∀ j, vp_updL f k x j = if j = k then x else f j := fun j => rfl
  have put : ∀ l' : List AV, z_len l' = len → (∀ j, j < len → ∃ a, z_nth l' j = some a ∧ z_mt ν (z_len V) B b a (.long (f j))) → r = z_put l' (Int.toNat q.1) v → Int.toNat q.1 = k → ∀ j, j < len → ∃ a, z_at r j = some a ∧ z_mt ν (z_len V) B b a (.long (vp_updL f k x j)) := fun l' e1 e2 e3 e4 j hj => by
    rw [e3, e4]
    rcases z_put_at (v := v) e1 hk hj with ⟨g1, g2⟩ | ⟨g1, g2⟩
    · exact ⟨v, g2, by rw [up, if_pos g1]; exact hv⟩
    · obtain ⟨a, a1, a2⟩ := e2 j hj
      exact ⟨a, by rw [g2]; exact a1, by rw [up, if_neg g1]; exact a2⟩
  match l, h, hel, hlen with
  | [], h, _, _ => cases h
  | [a], h, hel, _ =>
    unfold z_wr at h
    cases ho : z_and (Nat.ble len 8) (z_one q) with
    | true =>
      rw [ho] at h
      have := z_le_iff.mp (z_andI ho).2
      cases h
      exact put (z_rep a len) z_rep_len (fun j hj => by
        obtain ⟨a', e1, e2⟩ := hel j hj
        cases e1
        exact ⟨a, z_rep_nth hj, e2⟩) rfl (by omega)
    | false =>
      rw [ho] at h
      obtain ⟨i, hi, h⟩ := z_bdI h
      obtain ⟨w, hw', h⟩ := z_bdI h
      cases h
      intro j hj
      obtain ⟨a', e1, e2⟩ := hel j hj
      cases e1
      refine ⟨_, rfl, ?_⟩
      rw [up]
      have b1 := z_iv_ok hs (num hv) hi
      have b2 := z_iv_ok hs (num e2) hw'
      by_cases g : j = k
      · rw [if_pos g]
        exact z_mkL (Int.le_trans z_min_le.1 b1.1) (Int.le_trans b1.2 z_max_le.1)
      · rw [if_neg g]
        exact z_mkL (Int.le_trans z_min_le.2.1 b2.1) (Int.le_trans b2.2 z_max_le.2.1)
  | a :: d :: g, h, hel, hlen =>
    have hlen : z_len (a :: d :: g) = len := by
      rcases hlen with e | e
      · simp [z_len] at e
      · exact e
    unfold z_wr at h
    cases ho : z_one q with
    | true =>
      rw [ho] at h
      have := z_le_iff.mp ho
      cases h
      exact put (a :: d :: g) hlen hel rfl (by omega)
    | false =>
      rw [ho] at h
      obtain ⟨i, hi, h⟩ := z_bdI h
      intro j hj
      obtain ⟨a', e1, e2⟩ := hel j hj
      have e1 : z_nth (a :: d :: g) j = some a' := e1
      obtain ⟨c1, w, c2, c3⟩ := z_mh_ok h e1
      have b1 := z_iv_ok hs (num hv) hi
      have b2 := z_iv_ok hs (num e2) c2
      refine ⟨_, (z_at2 (by rw [c1]; simp [z_len]) j).trans c3, ?_⟩
      rw [up]
      by_cases g : j = k
      · rw [if_pos g]
        exact z_mkL (Int.le_trans z_min_le.1 b1.1) (Int.le_trans b1.2 z_max_le.1)
      · rw [if_neg g]
        exact z_mkL (Int.le_trans z_min_le.2.1 b2.1) (Int.le_trans b2.2 z_max_le.2.1)
def z_lok (l : List AV) (len : Nat) : Bool := match Nat.beq (z_len l) 1 with
  | true => true
  | false => Nat.beq (z_len l) len
theorem z_lokI {l : List AV} {len : Nat} (h : z_lok l len = true) : z_len l = 1 ∨ z_len l = len := by
  unfold z_lok at h
  cases e : Nat.beq (z_len l) 1 with
  | true => exact Or.inl (Nat.eq_of_beq_eq_true e)
  | false => rw [e] at h; exact Or.inr (Nat.eq_of_beq_eq_true h)
/-- a value cut to what a row holds -/
def z_cv (lo hi : Int) (V : VS) (v : AV) : Option AV := z_bd (z_iv V v) fun i => match z_in i lo hi with
  | true => some v
  | false => some (0, 0, lo, hi)
def h_ast (kk t : Nat) (cv : VS → AV → Option AV) (np : Nat) : ZH := fun _ loc stk V h n sl => z_bd (z_p1 stk) fun v => z_bd (z_p1 v.2) fun a => z_bd (z_p1 a.2) fun d => z_if (z_and (z_kd (Nat.div t 2) v.1) (z_and (z_isI a.1) (Nat.beq d.1.1 4))) (z_bd (z_g2 h d.1.2.1) fun c => z_if (z_and (Nat.beq c.1 kk) (z_lok c.2.2 c.2.1)) (z_bd (z_iv V a.1) fun q => z_if (z_inb q c.2.1) (z_bd (cv V v.1) fun w => z_bd (z_wr t V c.2.2 c.2.1 q w) fun r => some ([(np, loc, d.2, V, z_s2 h d.1.2.1 (kk, c.2.1, r), n, sl)], []))))
section LT
variable {ms : List ZM} {own mn : String} {cc : ByteArray} {nL pc np : Nat}
theorem z_ast {kk t : Nat} (h99 : kk ≠ 99) {cv : VS → AV → Option AV} {D : va_G} {K : Nat → ClassId} {B b : Nat} {p : Program} {l : Launch} {e : Env} {R : Room} {s : State} {m : MethodId} {args : Array Value} {below : List Frame} {meth : Method} {c : Code} {Q : State → Prop} {ν0 : Nat → Int} {nv0 k0 : Nat} {E : ZE} {loc : List (Nat × AV)} {stk : List AV} {V : VS} {h : T2 AC} {n sl : Nat} {res : List ZS × List ZO} {ν : Nat → Int} {σ : Nat → va_E} {H : Heap} {locs : List Loc} {ls : Array Slot} {vs : List Value} (hr : h_ast kk t cv np E loc stk V h n sl = some res) (hS : ∀ st ∈ res.1, z_W D K B b p l e R s m args below meth c Q ν0 nv0 k0 nL st) (P : z_P D K B b s ν0 nv0 k0 nL loc stk V h n ν σ H locs ls vs) : ∃ (i : Nat) (x : Int32) (v : AV) (y : Value) (rest : List Value) (cl : AC) (q : Int × Int) (w : AV) (r : List AV), vs = y :: .int x :: .ref (B + i) :: rest ∧ z_kd (Nat.div t 2) v = true ∧ z_mt ν (z_len V) B b v y ∧ z_g2 h i = some cl ∧ cl.1 = kk ∧ vp_in x cl.2.1 ∧ x.toNatClampNeg < cl.2.1 ∧ q.1 ≤ (x.toNatClampNeg : Int) ∧ (x.toNatClampNeg : Int) ≤ q.2 ∧ cv V v = some w ∧ z_wr t V cl.2.2 cl.2.1 q w = some r ∧ (z_len cl.2.2 = 1 ∨ z_len cl.2.2 = cl.2.1) ∧ i < n ∧ ∀ (e' : va_E) (H : Heap) (locs : List Loc), z_mc ν (z_len V) B b K (kk, cl.2.1, r) e' → hw D B n (va_up σ i e') s H locs → W p l e R s m args below meth c H locs (n - k0) sl Q (F0 m np ls rest) := by
  obtain ⟨v, hv, hr⟩ := z_bdI hr
  obtain ⟨a, ha, hr⟩ := z_bdI hr
  obtain ⟨g, hg, hr⟩ := z_bdI hr
  obtain ⟨hk, hr⟩ := z_ifI hr
  obtain ⟨hkv, hk⟩ := z_andI hk
  obtain ⟨hka, hkg⟩ := z_andI hk
  obtain ⟨cl, hc, hr⟩ := z_bdI hr
  obtain ⟨hk2, hr⟩ := z_ifI hr
  obtain ⟨hk2, hlo⟩ := z_andI hk2
  obtain ⟨q, hq, hr⟩ := z_bdI hr
  obtain ⟨hin, hr⟩ := z_ifI hr
  obtain ⟨w, hw', hr⟩ := z_bdI hr
  obtain ⟨r, hwr, hr⟩ := z_bdI hr
  cases hr
  obtain ⟨p1, p2, p3, p4, p5, p6, p7, p8⟩ := P
  rw [z_p1I hv, z_p1I ha, z_p1I hg] at p7
  obtain ⟨y, r0, rfl, q1, q2⟩ := z_fm_cons p7
  obtain ⟨vx, r1, rfl, q3, q4⟩ := z_fm_cons q2
  obtain ⟨vr, rest, rfl, q5, q6⟩ := z_fm_cons q4
  obtain ⟨x, rfl, hx⟩ := z_mt_i q3 hka
  obtain rfl := z_mt_r q5 hkg
  have hb := z_iv_ok p4 hx hq
  obtain ⟨b1, b2, b3⟩ := z_inbI hin hb.1 hb.2
  have hk2 := Nat.eq_of_beq_eq_true hk2
  have hlt : g.1.2.1 < n := by
    rcases p5 _ _ hc with e9 | e9
    · exact absurd (hk2.symm.trans e9) h99
    · exact e9.1
  exact ⟨g.1.2.1, x, v.1, y, rest, cl, q, w, r, rfl, hkv, q1, hc, hk2, b1, b3, by rw [b2]; exact hb.1, by rw [b2]; exact hb.2, hw', hwr, z_lokI hlo, hlt, fun e' H locs hm hH => hS _ List.mem_cons_self ν _ H locs ls rest ⟨p1, p2, p3, p4, z_hm_set p5 hc hlt hm, p6, q6, hH⟩⟩
theorem s_iastore (d : decode cc pc = .ok (.iastore, 1)) (hn : pc + 1 = np) : z_sound ms own mn cc nL pc (h_ast 1 0 (fun _ v => some v) np) := by
  subst hn
  intro D K B b p l e R s m args below meth c Q ν0 nv0 k0 E X loc stk V h n sl res hr hS hO ν σ H locs ls vs P
  obtain ⟨i, x, v, y, rest, cl, q, w, r, rfl, hk, hm, hc, e1, h1, h2, h3, h4, h5, h6, h7, hi, kk⟩ := z_ast (by decide) hr hS P
  obtain ⟨y, rfl, -⟩ := z_mt_i hm hk
  obtain ⟨-, f, hf, hel⟩ := z_arI P.2.2.2.2.1 hc (Or.inl e1)
  rw [e1] at hf
  cases h5
  exact hp_iast X.1 P.2.2.2.2.2.2.2 i hi hf h1 d (fun H locs hH => kk _ H locs (Or.inr (Or.inl ⟨Or.inl rfl, _, rfl, z_wrI P.2.2.2.1 h6 h3 h4 h2 hel hm h7⟩)) hH)
theorem s_lastore (d : decode cc pc = .ok (.lastore, 1)) (hn : pc + 1 = np) : z_sound ms own mn cc nL pc (h_ast 3 2 (fun _ v => some v) np) := by
  subst hn
  intro D K B b p l e R s m args below meth c Q ν0 nv0 k0 E X loc stk V h n sl res hr hS hO ν σ H locs ls vs P
  obtain ⟨i, x, v, y, rest, cl, q, w, r, rfl, hk, hm, hc, e1, h1, h2, h3, h4, h5, h6, h7, hi, kk⟩ := z_ast (by decide) hr hS P
  obtain ⟨y, rfl, -⟩ := z_mt_l hm hk
  obtain ⟨-, f, hf, hel⟩ := z_arL P.2.2.2.2.1 hc e1
  cases h5
  exact hp_last X.1 P.2.2.2.2.2.2.2 i hi hf h1 d (fun H locs hH => kk _ H locs (Or.inr (Or.inr (Or.inl ⟨rfl, _, rfl, z_wrL P.2.2.2.1 h6 h3 h4 h2 hel hm h7⟩))) hH)
theorem z_cvI {lo hi : Int} {F : Int32 → Int32} (hF : ∀ x, lo ≤ (F x).toInt ∧ (F x).toInt ≤ hi ∧ (lo ≤ x.toInt → x.toInt ≤ hi → (F x).toInt = x.toInt)) {ν : Nat → Int} {B b : Nat} {V : VS} {v w : AV} {x : Int32} (hs : z_sat ν V) (hk : z_isI v = true) (hm : z_mt ν (z_len V) B b v (.int x)) (h : z_cv lo hi V v = some w) : z_mt ν (z_len V) B b w (.int (F x)) := by
  obtain ⟨i, hi', h⟩ := z_bdI h
  obtain ⟨y, hy, hz⟩ := z_mt_i hm hk
  cases hy
  have hb := z_iv_ok hs hz hi'
  obtain ⟨f1, f2, f3⟩ := hF x
  cases hc : z_in i lo hi with
  | false =>
    rw [hc] at h
    cases h
    exact z_mkI f1 f2
  | true =>
    rw [hc] at h
    cases h
    obtain ⟨c1, c2⟩ := z_inI hc
    exact Or.inl ⟨z_isI_iff.mp hk, F x, rfl, by rw [f3 (Int.le_trans c1 hb.1) (Int.le_trans hb.2 c2)]; exact hz⟩
theorem z_b1 (x : Int32) : (0 : Int) ≤ (vp_nar .boolean x).toInt ∧ (vp_nar .boolean x).toInt ≤ 1 ∧ ((0 : Int) ≤ x.toInt → x.toInt ≤ 1 → (vp_nar .boolean x).toInt = x.toInt) := by
  have e : vp_nar .boolean x = x &&& 1 := rfl
  rw [e]
  have := and_nn (x := x) (y := 1) (by decide)
  refine ⟨this.1, by have := this.2; exact this, fun h1 h2 => ?_⟩
  have : x = 0 ∨ x = 1 := by
    rcases (show x.toInt = 0 ∨ x.toInt = 1 by omega) with g | g
    · exact Or.inl (i_eq.mpr g)
    · exact Or.inr (i_eq.mpr g)
  rcases this with rfl | rfl <;> rfl
theorem s_bastore (d : decode cc pc = .ok (.bastore, 1)) (hn : pc + 1 = np) : z_sound ms own mn cc nL pc (h_ast 2 0 (z_cv (-128) 127) np) := by
  subst hn
  intro D K B b p l e R s m args below meth c Q ν0 nv0 k0 E X loc stk V h n sl res hr hS hO ν σ H locs ls vs P
  obtain ⟨i, x, v, y, rest, cl, q, w, r, rfl, hk, hm, hc, e1, h1, h2, h3, h4, h5, h6, h7, hi, kk⟩ := z_ast (by decide) hr hS P
  obtain ⟨y, rfl, -⟩ := z_mt_i hm hk
  obtain ⟨-, f, hf, hel⟩ := z_arI P.2.2.2.2.1 hc (Or.inr (Or.inl e1))
  rw [e1] at hf
  exact hp_bast X.1 P.2.2.2.2.2.2.2 i hi hf h1 d (fun H locs hH => kk _ H locs (Or.inr (Or.inl ⟨Or.inr (Or.inl rfl), _, rfl, z_wrI P.2.2.2.1 h6 h3 h4 h2 hel (z_cvI (F := fun x => vp_nar .byte x) z_i8 P.2.2.2.1 hk hm h5) h7⟩)) hH)
theorem s_zastore (d : decode cc pc = .ok (.bastore, 1)) (hn : pc + 1 = np) : z_sound ms own mn cc nL pc (h_ast 4 0 (z_cv 0 1) np) := by
  subst hn
  intro D K B b p l e R s m args below meth c Q ν0 nv0 k0 E X loc stk V h n sl res hr hS hO ν σ H locs ls vs P
  obtain ⟨i, x, v, y, rest, cl, q, w, r, rfl, hk, hm, hc, e1, h1, h2, h3, h4, h5, h6, h7, hi, kk⟩ := z_ast (by decide) hr hS P
  obtain ⟨y, rfl, -⟩ := z_mt_i hm hk
  obtain ⟨-, f, hf, hel⟩ := z_arI P.2.2.2.2.1 hc (Or.inr (Or.inr e1))
  rw [e1] at hf
  exact hp_zast X.1 P.2.2.2.2.2.2.2 i hi hf h1 d (fun H locs hH => kk _ H locs (Or.inr (Or.inl ⟨Or.inr (Or.inr rfl), _, rfl, z_wrI P.2.2.2.1 h6 h3 h4 h2 hel (z_cvI (F := fun x => vp_nar .boolean x) z_b1 P.2.2.2.1 hk hm h5) h7⟩)) hH)
end LT
