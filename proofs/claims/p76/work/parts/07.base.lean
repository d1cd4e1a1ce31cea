abbrev ty6 (K : Nat → ClassId) : List (ClassId × FieldType) := [(K 0, .int), (K 1, .byte), (K 2, .long), (K 3, .boolean), (K 4, .object RX6), (K 5, .object RX7)]
def KK (D : va_G) (K : Nat → ClassId) (U : State) : Prop := va_K D vwCl (ty6 K) U ∧ (∀ w ∈ nst, va_Nw w U) ∧ va_AO RX6 U ∧ va_AO RX7 U
theorem nest_on {w : Cond} (h : isNest w = true) : w.onTables = true := by cases w <;> first | rfl | (simp [isNest] at h)
theorem nest_warm {w : Cond} (h : isNest w = true) {s U : State} (hW : s.WarmedH U.vm) (hZ : va_Nw w s) : va_Nw w U := by
  cases w <;> first | (simp [isNest] at h; done) | exact va_Nw.warmF hW hZ | exact va_Nw.warmM hW hZ
theorem KK.warm {D : va_G} {K : Nat → ClassId} {s U : State} (h : KK D K s) (hW : s.WarmedH U.vm) : KK D K U := ⟨va_K.moved hW.alike h.1, fun w hw => nest_warm (List.mem_filter.mp hw).2 hW (h.2.1 w hw), va_AO.moved hW.alike h.2.2.1, va_AO.moved hW.alike h.2.2.2⟩
theorem KK.calling {D : va_G} {K : Nat → ClassId} {U : State} {g : JFrame} {mk : MethodId} {a : Array Value} (h : KK D K U) : KK D K (U.calling g mk a) := ⟨va_K.moved (u := U) (U := U.calling g mk a) (Vm.Alike.refl U.vm) h.1, fun w hw => va_Nw.same (nest_on (List.mem_filter.mp hw).2) (rfl : U.vm = (U.calling g mk a).vm) (h.2.1 w hw), va_AO.moved (u := U) (U := U.calling g mk a) (Vm.Alike.refl U.vm) h.2.2.1, va_AO.moved (u := U) (U := U.calling g mk a) (Vm.Alike.refl U.vm) h.2.2.2⟩
def wl (B n : Nat) (σ : Nat → va_E) : va_W := (List.range n).map (fun i => (B + i, σ i))
theorem wl_get {B n : Nat} {σ : Nat → va_E} {i : Nat} (hi : i < n) {e : va_E} (he : σ i = e) : (wl B n σ)[i]? = some (B + i, e) := by
  subst he
  simp [wl, List.getElem?_map, List.getElem?_range hi]
theorem wl_inv {B n : Nat} {σ : Nat → va_E} {k : Nat} {q : Nat × va_E} (h : (wl B n σ)[k]? = some q) : k < n ∧ q = (B + k, σ k) := by
  have hk : k < n := by
    have := (List.getElem?_eq_some_iff.mp h).1
    simpa [wl] using this
  exact ⟨hk, Option.some.inj (h.symm.trans (wl_get hk rfl))⟩
theorem wl_set {B n : Nat} {σ : Nat → va_E} {i : Nat} (hi : i < n) (e : va_E) : (wl B n σ).set i (B + i, e) = wl B n (va_up σ i e) := by
  apply List.ext_getElem?
  intro j
  by_cases hj : j = i
  · subst hj
    rw [List.getElem?_set_self (by simpa [wl] using hi), wl_get hi (va_up_self _ _ _)]
  · rw [List.getElem?_set_ne (Ne.symm hj)]
    by_cases hn : j < n
    · rw [wl_get hn rfl, wl_get hn (va_up_ne _ _ hj)]
    · simp [wl, hn]
theorem wl_push {B n : Nat} {σ : Nat → va_E} (e : va_E) : wl B n σ ++ [(B + n, e)] = wl B (n + 1) (va_up σ n e) := by
  apply List.ext_getElem?
  intro j
  by_cases hn : j < n
  · rw [List.getElem?_append_left (by simpa [wl] using hn), wl_get hn rfl, wl_get (by omega) (va_up_ne _ _ (by omega))]
  · by_cases hj : j = n
    · subst hj
      rw [wl_get (by omega) (va_up_self _ _ _), List.getElem?_append_right (by simp [wl])]
      simp [wl]
    · rw [List.getElem?_eq_none (by simp [wl]; omega), List.getElem?_eq_none (by simp [wl]; omega)]
abbrev fr (B : Nat) : Nat → Prop := fun q => B ≤ q
theorem wl_D {B n : Nat} {σ : Nat → va_E} : va_D (fr B) (wl B n σ) := ⟨fun i j p q h1 h2 h => by
  obtain ⟨-, rfl⟩ := wl_inv h1
  obtain ⟨-, rfl⟩ := wl_inv h2
  exact Nat.add_left_cancel h, fun k q h => by
  obtain ⟨-, rfl⟩ := wl_inv h
  exact Nat.le_add_right _ _⟩
/-- the heap holds the places 0 .. n-1 at B and on -/
def hv (D : va_G) (B n : Nat) (σ : Nat → va_E) (H : Heap) : Prop := va_P D vwCl (wl B n σ) H
theorem hv.congr {D : va_G} {B n : Nat} {σ τ : Nat → va_E} {H : Heap} (h : hv D B n σ H) (e : ∀ i, i < n → σ i = τ i) : hv D B n τ H := by
  have : wl B n σ = wl B n τ := by
    apply List.map_congr_left
    intro i hi
    rw [e i (List.mem_range.mp hi)]
  unfold hv at *
  rw [← this]; exact h
theorem up_same {σ : Nat → va_E} {i : Nat} {e : va_E} (h : σ i = e) : va_up σ i e = σ := by
  funext j
  by_cases hj : j = i
  · subst hj; rw [va_up_self, h]
  · rw [va_up_ne _ _ hj]
section HP
variable {p : Program} {l : Launch} {e : Env} {R : Room} {s : State} {m : MethodId} {args : Array Value} {below : List Frame} {meth : Method} {c : Code} {H : Heap} {locs : List Loc} {cells slots : Nat} {Q : State → Prop} {cc : ByteArray} {pc : Nat} {ls : Array Slot} {rest : List Value} {D : va_G} {K : Nat → ClassId} {B n : Nat} {σ : Nat → va_E} {own : String} {nL : Nat}
/-- what a walk stands on -/
def CX (p : Program) (s : State) (m : MethodId) (args : Array Value) (c : Code) (cc : ByteArray) (nL : Nat) (own : String) (D : va_G) (K : Nat → ClassId) : Prop := p.tables.exec = Jvm.exec ∧ c.code = cc ∧ c.maxLocals = nL ∧ s.vm.findClass own = some m.cls ∧ (∀ w ∈ bw, w.before args s = true) ∧ KK D K s
theorem CX.vk (X : CX p s m args c cc nL own D K) : va_K D vwCl (ty6 K) s := X.2.2.2.2.2.1
theorem CX.w (X : CX p s m args c cc nL own D K) {w : Cond} (h : w ∈ bw) : w.before args s = true := X.2.2.2.2.1 w h
theorem CX.nw (X : CX p s m args c cc nL own D K) {w : Cond} (h : w ∈ nst) : w.before args s = true := va_Nw.use (nest_on (List.mem_filter.mp h).2) (X.2.2.2.2.2.2.1 w h)
/-- the world of a walk: what the heap holds, and what has changed since the start -/
def hw (D : va_G) (B n : Nat) (σ : Nat → va_E) (s : State) (H : Heap) (locs : List Loc) : Prop := hv D B n σ H ∧ va_S (fr B) s.heap H locs
theorem hp_get {C : String} {T : u_T} {N ci index : Nat} {ty0 : Nat → FieldType} (X : CX p s m args c cc nL own D K) (hH : hw D B n σ s H locs) (J : CIn ci C T N ty0) (i : Nat) (hi : i < n) {fs : List Value} (he : σ i = .inr (ci, fs)) (k : Nat) (hk : k < N) {v : Value} (hv : fs[k]? = some v) (hl : Cond.fieldLink own index (T k).1 (T k).2.1 (T k).2.2.1 ∈ bw) (hd : decode cc pc = .ok (.getfield index, 3))
    (kk : W p l e R s m args below meth c H locs cells slots Q (F0 m (pc + 3) ls (v :: rest))) : W p l e R s m args below meth c H locs cells slots Q (F0 m pc ls (.ref (B + i) :: rest)) :=
  va_get X.1 X.2.1 X.2.2.2.2.1 J.2.1 X.2.2.2.1 X.vk hH.1 i (wl_get hi he) J.1 k hk (X.w hl) (fun _ h => h) hv hd kk
theorem hp_getN {C host : String} {T : u_T} {N ci index : Nat} {ty0 : Nat → FieldType} (X : CX p s m args c cc nL own D K) (hH : hw D B n σ s H locs) (J : CIn ci C T N ty0) (i : Nat) (hi : i < n) {fs : List Value} (he : σ i = .inr (ci, fs)) (k : Nat) (hk : k < N) {v : Value} (hv : fs[k]? = some v) (hl : Cond.fieldLinkNest own index (T k).1 (T k).2.1 (T k).2.2.1 host ∈ nst) (hd : decode cc pc = .ok (.getfield index, 3))
    (kk : W p l e R s m args below meth c H locs cells slots Q (F0 m (pc + 3) ls (v :: rest))) : W p l e R s m args below meth c H locs cells slots Q (F0 m pc ls (.ref (B + i) :: rest)) :=
  va_getN X.1 X.2.1 X.2.2.2.2.1 J.2.1 X.2.2.2.1 X.vk hH.1 i (wl_get hi he) J.1 k hk (X.nw hl) (fun _ h => h) hv hd kk
theorem hp_put {C : String} {T : u_T} {N ci index : Nat} {ty0 : Nat → FieldType} (X : CX p s m args c cc nL own D K) (hH : hw D B n σ s H locs) (J : CIn ci C T N ty0) (i : Nat) (hi : i < n) {fs : List Value} (he : σ i = .inr (ci, fs)) (k : Nat) (hk : k < N) (hfin : (T k).2.2.2 = false) {v : Value} (hn : narrow (ty0 k) v = v) (hfit : fits (ty0 k) v = true) (hlen : k < fs.length) (hl : Cond.fieldLink own index (T k).1 (T k).2.1 (T k).2.2.1 ∈ bw) (hd : decode cc pc = .ok (.putfield index, 3))
    (kk : ∀ (H : Heap) (locs : List Loc), hw D B n (va_up σ i (.inr (ci, fs.set k v))) s H locs → W p l e R s m args below meth c H locs cells slots Q (F0 m (pc + 3) ls rest)) : W p l e R s m args below meth c H locs cells slots Q (F0 m pc ls (v :: .ref (B + i) :: rest)) :=
  va_put X.1 X.2.1 X.2.2.2.2.1 J.2.1 ty0 J.2.2.1 J.2.2.2 X.2.2.2.1 X.vk hH.1 wl_D hH.2 i (wl_get hi he) J.1 k hk (X.w hl) (fun _ h => h) hfin (J.2.2.1 k hk) hn hfit hlen hd (fun H1 locs1 hP _ hS => kk H1 locs1 ⟨by rw [wl_set hi] at hP; exact hP, hS⟩)
theorem hp_putN {C host : String} {T : u_T} {N ci index : Nat} {ty0 : Nat → FieldType} (X : CX p s m args c cc nL own D K) (hH : hw D B n σ s H locs) (J : CIn ci C T N ty0) (i : Nat) (hi : i < n) {fs : List Value} (he : σ i = .inr (ci, fs)) (k : Nat) (hk : k < N) (hfin : (T k).2.2.2 = false) {v : Value} (hn : narrow (ty0 k) v = v) (hfit : fits (ty0 k) v = true) (hlen : k < fs.length) (hl : Cond.fieldLinkNest own index (T k).1 (T k).2.1 (T k).2.2.1 host ∈ nst) (hd : decode cc pc = .ok (.putfield index, 3))
    (kk : ∀ (H : Heap) (locs : List Loc), hw D B n (va_up σ i (.inr (ci, fs.set k v))) s H locs → W p l e R s m args below meth c H locs cells slots Q (F0 m (pc + 3) ls rest)) : W p l e R s m args below meth c H locs cells slots Q (F0 m pc ls (v :: .ref (B + i) :: rest)) :=
  va_putN X.1 X.2.1 X.2.2.2.2.1 J.2.1 ty0 J.2.2.1 J.2.2.2 X.2.2.2.1 X.vk hH.1 wl_D hH.2 i (wl_get hi he) J.1 k hk (X.nw hl) (fun _ h => h) hfin (J.2.2.1 k hk) hn hfit hlen hd (fun H1 locs1 hP _ hS => kk H1 locs1 ⟨by rw [wl_set hi] at hP; exact hP, hS⟩)
theorem hp_putF {C : String} {T : u_T} {N ci index : Nat} {ty0 : Nat → FieldType} (X : CX p s m args c cc nL own D K) (hH : hw D B n σ s H locs) (J : CIn ci C T N ty0) (i : Nat) (hi : i < n) {fs : List Value} (he : σ i = .inr (ci, fs)) (k : Nat) (hk : k < N) (hfin : (T k).2.2.2 = true) (hin2 : meth.name = "<init>") (hdecl : (T k).1 = own) {v : Value} (hn : narrow (ty0 k) v = v) (hfit : fits (ty0 k) v = true) (hlen : k < fs.length) (hl : Cond.fieldLink own index (T k).1 (T k).2.1 (T k).2.2.1 ∈ bw) (hd : decode cc pc = .ok (.putfield index, 3))
    (kk : ∀ (H : Heap) (locs : List Loc), hw D B n (va_up σ i (.inr (ci, fs.set k v))) s H locs → W p l e R s m args below meth c H locs cells slots Q (F0 m (pc + 3) ls rest)) : W p l e R s m args below meth c H locs cells slots Q (F0 m pc ls (v :: .ref (B + i) :: rest)) :=
  va_putF X.1 X.2.1 X.2.2.2.2.1 J.2.1 ty0 J.2.2.1 J.2.2.2 X.2.2.2.1 X.vk hH.1 wl_D hH.2 i (wl_get hi he) J.1 k hk (X.w hl) (fun _ h => h) hfin hin2 hdecl (J.2.2.1 k hk) hn hfit hlen hd (fun H1 locs1 hP _ hS => kk H1 locs1 ⟨by rw [wl_set hi] at hP; exact hP, hS⟩)
theorem hp_iald (X : CX p s m args c cc nL own D K) (hH : hw D B n σ s H locs) (i : Nat) (hi : i < n) {z : Nat} {f : Nat → Int32} (he : σ i = .inl (K 0, z, .inl f)) {j : Int32} (hin : vp_in j z) {v : Int32} (hv : f j.toNatClampNeg = v) (hd : decode cc pc = .ok (.iaload, 1))
    (kk : W p l e R s m args below meth c H locs cells slots Q (F0 m (pc + 1) ls (.int v :: rest))) : W p l e R s m args below meth c H locs cells slots Q (F0 m pc ls (.int j :: .ref (B + i) :: rest)) :=
  va_iald X.1 X.2.1 X.vk hH.1 i 0 (wl_get hi he) rfl hin hd (by rw [hv]; exact kk)
theorem hp_bald (X : CX p s m args c cc nL own D K) (hH : hw D B n σ s H locs) (i : Nat) (hi : i < n) {z : Nat} {f : Nat → Int32} (he : σ i = .inl (K 1, z, .inl f)) {j : Int32} (hin : vp_in j z) {v : Int32} (hv : f j.toNatClampNeg = v) (hd : decode cc pc = .ok (.baload, 1))
    (kk : W p l e R s m args below meth c H locs cells slots Q (F0 m (pc + 1) ls (.int v :: rest))) : W p l e R s m args below meth c H locs cells slots Q (F0 m pc ls (.int j :: .ref (B + i) :: rest)) :=
  va_bald X.1 X.2.1 X.vk hH.1 i 1 (wl_get hi he) rfl hin hd (by rw [hv]; exact kk)
theorem hp_zald (X : CX p s m args c cc nL own D K) (hH : hw D B n σ s H locs) (i : Nat) (hi : i < n) {z : Nat} {f : Nat → Int32} (he : σ i = .inl (K 3, z, .inl f)) {j : Int32} (hin : vp_in j z) {v : Int32} (hv : f j.toNatClampNeg = v) (hd : decode cc pc = .ok (.baload, 1))
    (kk : W p l e R s m args below meth c H locs cells slots Q (F0 m (pc + 1) ls (.int v :: rest))) : W p l e R s m args below meth c H locs cells slots Q (F0 m pc ls (.int j :: .ref (B + i) :: rest)) :=
  va_zald X.1 X.2.1 X.vk hH.1 i 3 (wl_get hi he) rfl hin hd (by rw [hv]; exact kk)
theorem hp_lald (X : CX p s m args c cc nL own D K) (hH : hw D B n σ s H locs) (i : Nat) (hi : i < n) {z : Nat} {f : Nat → Int64} (he : σ i = .inl (K 2, z, .inr (.inl f))) {j : Int32} (hin : vp_in j z) {v : Int64} (hv : f j.toNatClampNeg = v) (hd : decode cc pc = .ok (.laload, 1))
    (kk : W p l e R s m args below meth c H locs cells slots Q (F0 m (pc + 1) ls (.long v :: rest))) : W p l e R s m args below meth c H locs cells slots Q (F0 m pc ls (.int j :: .ref (B + i) :: rest)) :=
  va_lald X.1 X.2.1 X.vk hH.1 i 2 (wl_get hi he) rfl hin hd (by rw [hv]; exact kk)
theorem hp_aald (t0 : Nat) {C : String} (X : CX p s m args c cc nL own D K) (hH : hw D B n σ s H locs) (i : Nat) (hi : i < n) {z : Nat} {cA : ClassId} {f : Nat → Option Nat} (he : σ i = .inl (cA, z, .inr (.inr (.inr (.inr f))))) (ht : (ty6 K)[t0]? = some (cA, .object C)) {j : Int32} (hin : vp_in j z) {a : Nat} (hf : f j.toNatClampNeg = some a) (hd : decode cc pc = .ok (.aaload, 1))
    (kk : W p l e R s m args below meth c H locs cells slots Q (F0 m (pc + 1) ls (.ref a :: rest))) : W p l e R s m args below meth c H locs cells slots Q (F0 m pc ls (.int j :: .ref (B + i) :: rest)) :=
  va_aldq X.1 X.2.1 X.vk hH.1 i t0 (wl_get hi he) ht hin hd (by rw [hf]; exact kk)
theorem hp_iast (X : CX p s m args c cc nL own D K) (hH : hw D B n σ s H locs) (i : Nat) (hi : i < n) {z : Nat} {f : Nat → Int32} (he : σ i = .inl (K 0, z, .inl f)) {j x : Int32} (hin : vp_in j z) (hd : decode cc pc = .ok (.iastore, 1))
    (kk : ∀ (H : Heap) (locs : List Loc), hw D B n (va_up σ i (.inl (K 0, z, .inl (upd f j.toNatClampNeg x)))) s H locs → W p l e R s m args below meth c H locs cells slots Q (F0 m (pc + 1) ls rest)) : W p l e R s m args below meth c H locs cells slots Q (F0 m pc ls (.int x :: .int j :: .ref (B + i) :: rest)) :=
  va_iast X.1 X.2.1 X.vk hH.1 wl_D hH.2 i 0 (wl_get hi he) rfl hin hd (fun H1 locs1 hP _ hS => kk H1 locs1 ⟨by rw [wl_set hi] at hP; exact hP, hS⟩)
theorem hp_bast (X : CX p s m args c cc nL own D K) (hH : hw D B n σ s H locs) (i : Nat) (hi : i < n) {z : Nat} {f : Nat → Int32} (he : σ i = .inl (K 1, z, .inl f)) {j x : Int32} (hin : vp_in j z) (hd : decode cc pc = .ok (.bastore, 1))
    (kk : ∀ (H : Heap) (locs : List Loc), hw D B n (va_up σ i (.inl (K 1, z, .inl (upd f j.toNatClampNeg (vp_nar .byte x))))) s H locs → W p l e R s m args below meth c H locs cells slots Q (F0 m (pc + 1) ls rest)) : W p l e R s m args below meth c H locs cells slots Q (F0 m pc ls (.int x :: .int j :: .ref (B + i) :: rest)) :=
  va_bast X.1 X.2.1 X.vk hH.1 wl_D hH.2 i 1 (wl_get hi he) rfl hin hd (fun H1 locs1 hP _ hS => kk H1 locs1 ⟨by rw [wl_set hi] at hP; exact hP, hS⟩)
theorem hp_zast (X : CX p s m args c cc nL own D K) (hH : hw D B n σ s H locs) (i : Nat) (hi : i < n) {z : Nat} {f : Nat → Int32} (he : σ i = .inl (K 3, z, .inl f)) {j x : Int32} (hin : vp_in j z) (hd : decode cc pc = .ok (.bastore, 1))
    (kk : ∀ (H : Heap) (locs : List Loc), hw D B n (va_up σ i (.inl (K 3, z, .inl (upd f j.toNatClampNeg (vp_nar .boolean x))))) s H locs → W p l e R s m args below meth c H locs cells slots Q (F0 m (pc + 1) ls rest)) : W p l e R s m args below meth c H locs cells slots Q (F0 m pc ls (.int x :: .int j :: .ref (B + i) :: rest)) :=
  va_zast X.1 X.2.1 X.vk hH.1 wl_D hH.2 i 3 (wl_get hi he) rfl hin hd (fun H1 locs1 hP _ hS => kk H1 locs1 ⟨by rw [wl_set hi] at hP; exact hP, hS⟩)
theorem hp_last (X : CX p s m args c cc nL own D K) (hH : hw D B n σ s H locs) (i : Nat) (hi : i < n) {z : Nat} {f : Nat → Int64} (he : σ i = .inl (K 2, z, .inr (.inl f))) {j : Int32} {x : Int64} (hin : vp_in j z) (hd : decode cc pc = .ok (.lastore, 1))
    (kk : ∀ (H : Heap) (locs : List Loc), hw D B n (va_up σ i (.inl (K 2, z, .inr (.inl (vp_updL f j.toNatClampNeg x))))) s H locs → W p l e R s m args below meth c H locs cells slots Q (F0 m (pc + 1) ls rest)) : W p l e R s m args below meth c H locs cells slots Q (F0 m pc ls (.long x :: .int j :: .ref (B + i) :: rest)) :=
  va_last X.1 X.2.1 X.vk hH.1 wl_D hH.2 i 2 (wl_get hi he) rfl hin hd (fun H1 locs1 hP _ hS => kk H1 locs1 ⟨by rw [wl_set hi] at hP; exact hP, hS⟩)
theorem hp_aast (t0 ci : Nat) {r : vw_C} (X : CX p s m args c cc nL own D K) (hH : hw D B n σ s H locs) (i k : Nat) (hi : i < n) (hk : k < n) {z : Nat} {cA : ClassId} {f : Nat → Option Nat} (he : σ i = .inl (cA, z, .inr (.inr (.inr (.inr f))))) (ht : (ty6 K)[t0]? = some (cA, .object r.1)) {vs : List Value} (hv : σ k = .inr (ci, vs)) (hc : vwCl[ci]? = some r) {j : Int32} (hin : vp_in j z) (hd : decode cc pc = .ok (.aastore, 1))
    (kk : ∀ (H : Heap) (locs : List Loc), hw D B n (va_up σ i (.inl (cA, z, .inr (.inr (.inr (.inr (va_up f j.toNatClampNeg (some (B + k))))))))) s H locs → W p l e R s m args below meth c H locs cells slots Q (F0 m (pc + 1) ls rest)) : W p l e R s m args below meth c H locs cells slots Q (F0 m pc ls (.ref (B + k) :: .int j :: .ref (B + i) :: rest)) :=
  va_astq X.1 X.2.1 X.vk hH.1 wl_D hH.2 i t0 k ci (wl_get hi he) ht (wl_get hk hv) hc hin hd (fun H1 locs1 hP _ hS => kk H1 locs1 ⟨by rw [wl_set hi] at hP; exact hP, hS⟩)
theorem hp_alen (t0 : Nat) {ty : FieldType} (X : CX p s m args c cc nL own D K) (hH : hw D B n σ s H locs) (i : Nat) (hi : i < n) {cA : ClassId} {x : vp_A} (he : σ i = .inl (cA, x)) (ht : (ty6 K)[t0]? = some (cA, ty)) {v : Int32} (hv : Int32.ofNat x.1 = v) (hd : decode cc pc = .ok (.arraylength, 1))
    (kk : W p l e R s m args below meth c H locs cells slots Q (F0 m (pc + 1) ls (.int v :: rest))) : W p l e R s m args below meth c H locs cells slots Q (F0 m pc ls (.ref (B + i) :: rest)) :=
  va_alen X.1 X.2.1 X.vk hH.1 i t0 (wl_get hi he) ht hv hd kk
/-- the heap's size, by the room that is used -/
theorem hp_sz {g : JFrame} (kk : s.heap.size ≤ H.size → H.size ≤ s.heap.size + cells → W p l e R s m args below meth c H locs cells slots Q g) : W p l e R s m args below meth c H locs cells slots Q g := by
  intro T hT X
  have h1 : s.heap.size ≤ T.heap.size := X.same.2.1
  have h2 : T.heap.size ≤ s.heap.size + cells := X.same.2.2.1
  rw [hT] at h1 h2
  exact kk h1 h2 T hT X
theorem hv.size {H : Heap} (h : hv D B n σ H) (hB : B ≤ H.size) : B + n ≤ H.size := by
  cases n with
  | zero => exact hB
  | succ k =>
    have := (h k _ (wl_get (Nat.lt_succ_self k) rfl)).lt
    exact this
/-- new cells: the next place is the next address -/
theorem hp_q {q : Nat} {E : va_E} {H1 : Heap} (hP : va_P D vwCl (wl B n σ ++ [(q, E)]) H1) (hD : va_D (fr B) (wl B n σ ++ [(q, E)])) (hz : H1.size ≤ B + n + 1) : q = B + n := by
  have hlen : (wl B n σ).length = n := by simp [wl]
  have hq : (wl B n σ ++ [(q, E)])[n]? = some (q, E) := by rw [List.getElem?_append_right (by omega), hlen]; simp
  have h1 : q < H1.size := (hP n _ hq).lt
  have h2 : B ≤ q := hD.2 n _ hq
  rcases Nat.lt_or_ge q (B + n) with h | h
  · have h3 : q - B < n := by omega
    have h4 : (wl B n σ ++ [(q, E)])[q - B]? = some (q, σ (q - B)) := by
      rw [List.getElem?_append_left (by omega), wl_get h3 rfl]
      congr 2
      omega
    have := hD.1 n (q - B) _ _ hq h4 rfl
    omega
  · omega
theorem hp_new {C : String} {T : u_T} {N ci index : Nat} {ty0 : Nat → FieldType} {k0 : Nat} (X : CX p s m args c cc nL own D K) (hs : s.heap.size = B + k0) (hcn : k0 + cells = n) (hH : hw D B n σ s H locs) (J : CIn ci C T N ty0) (hcl : Cond.classLink own index C ∈ bw) (hinst : Cond.instantiable C N ∈ bw) (hini : Cond.initialized C ∈ bw) {fs : List Value} (hfs : ∀ j, j < N → defaultValue (ty0 j) = vp_V fs j) (h1 : cells + 1 ≤ R.cells) (h2 : slots + N ≤ R.slots) (hd : decode cc pc = .ok (.new index, 3))
    (kk : ∀ H : Heap, hw D B (n + 1) (va_up σ n (.inr (ci, fs))) s H locs → W p l e R s m args below meth c H locs (cells + 1) (slots + N) Q (F0 m (pc + 3) ls (.ref (B + n) :: rest))) : W p l e R s m args below meth c H locs cells slots Q (F0 m pc ls rest) :=
  va_new X.1 X.2.1 X.2.2.2.2.1 J.2.1 ty0 J.2.2.1 X.2.2.2.1 (X.w hcl) (X.w hinst) (X.w hini) X.vk hH.1 wl_D hH.2 (fun q h => by show B ≤ q; omega) J.1 hfs h1 h2 hd (fun q H1 hP hD hS => hp_sz (fun _ z2 => by
    have e := hp_q hP hD (by omega)
    subst e
    refine kk H1 ⟨?_, hS⟩
    rw [wl_push] at hP
    exact hP))
theorem K_eq {s : State} {cA : ClassId} {tys : List (ClassId × FieldType)} {cl : List vw_C} {D : va_G} {ty : FieldType} {t0 : Nat} {cB : ClassId} (h : va_K D cl (tys ++ [(cA, ty)]) s) (h2 : tys[t0]? = some (cB, ty)) : cA = cB := by
  have hl : (tys ++ [(cA, ty)])[tys.length]? = some (cA, ty) := by simp
  have a1 := (h.2 _ _ hl).2
  have a2 := (h.2 t0 (cB, ty) (by rw [List.getElem?_append_left (List.getElem?_eq_some_iff.mp h2).1]; exact h2)).2
  cases ty with
  | object C =>
    obtain ⟨_, _, _, _, _, e1⟩ := a1
    obtain ⟨_, _, _, _, _, e2⟩ := a2
    exact Option.some.inj (e1.symm.trans e2)
  | _ => exact Option.some.inj (Eq.trans (Eq.symm a1) a2)
theorem hp_newa (t0 : Nat) {atype : ArrayType} {ty : FieldType} {k0 : Nat} {cA : ClassId} (X : CX p s m args c cc nL own D K) (hs : s.heap.size = B + k0) (hcn : k0 + cells = n) (hH : hw D B n σ s H locs) (hty : newarray.typeOf atype = ty) (hac : Cond.arrayClass ty ∈ bw) (ht : (ty6 K)[t0]? = some (cA, ty)) {x : Int32} {N' : Nat} {a0 : vp_A} (ha : ∀ cA : ClassId, vp_cell cA a0 = arrV cA N' (fun _ => defaultValue ty)) (hn : ¬ x < 0) (hN : x.toNatClampNeg = N') (hby : N' * componentBytes ty ≤ 536870912) (h1 : cells + 1 ≤ R.cells) (h2 : slots + N' ≤ R.slots) (hd : decode cc pc = .ok (.newarray atype, 2))
    (kk : ∀ H : Heap, hw D B (n + 1) (va_up σ n (.inl (cA, a0))) s H locs → W p l e R s m args below meth c H locs (cells + 1) (slots + N') Q (F0 m (pc + 2) ls (.ref (B + n) :: rest))) : W p l e R s m args below meth c H locs cells slots Q (F0 m pc ls (.int x :: rest)) :=
  va_newa X.1 X.2.1 (by rw [hty]; exact X.w hac) hty X.vk hH.1 wl_D hH.2 (fun q h => by show B ≤ q; omega) ha hn hN hby h1 h2 hd (fun q cA' H1 hK hP hD hS => hp_sz (fun _ z2 => by
    have e := hp_q hP hD (by omega)
    subst e
    have e2 := K_eq hK ht
    subst e2
    refine kk H1 ⟨?_, hS⟩
    rw [wl_push] at hP
    exact hP))
theorem hp_newq (t0 : Nat) {C : String} {index : Nat} {k0 : Nat} {cA : ClassId} (X : CX p s m args c cc nL own D K) (hs : s.heap.size = B + k0) (hcn : k0 + cells = n) (hH : hw D B n σ s H locs) (hcl : Cond.classLink own index C ∈ bw) (hao : va_AO C s) (ht : (ty6 K)[t0]? = some (cA, .object C)) {x : Int32} {N' : Nat} (hn : ¬ x < 0) (hN : x.toNatClampNeg = N') (hby : N' * 4 ≤ 536870912) (h1 : cells + 1 ≤ R.cells) (h2 : slots + N' ≤ R.slots) (hd : decode cc pc = .ok (.anewarray index, 3))
    (kk : ∀ H : Heap, hw D B (n + 1) (va_up σ n (.inl (cA, N', .inr (.inr (.inr (.inr (fun _ => none))))))) s H locs → W p l e R s m args below meth c H locs (cells + 1) (slots + N') Q (F0 m (pc + 3) ls (.ref (B + n) :: rest))) : W p l e R s m args below meth c H locs cells slots Q (F0 m pc ls (.int x :: rest)) :=
  va_newq X.1 X.2.1 X.2.2.2.1 (X.w hcl) hao X.vk hH.1 wl_D hH.2 (fun q h => by show B ≤ q; omega) hn hN hby h1 h2 hd (fun q cA' H1 hK hP hD hS => hp_sz (fun _ z2 => by
    have e := hp_q hP hD (by omega)
    subst e
    have e2 := K_eq hK ht
    subst e2
    refine kk H1 ⟨?_, hS⟩
    rw [wl_push] at hP
    exact hP))
end HP
