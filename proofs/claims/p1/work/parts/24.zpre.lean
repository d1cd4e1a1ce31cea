/-! the law on fresh objects: up to its switch, then case by case -/
def z_hr : List AC := [(99, 0, []), (99, 0, []), (99, 0, []), (99, 0, []), (99, 0, []), (99, 0, []), (99, 0, []), (99, 0, []), (99, 0, []), (99, 0, []), (99, 0, []), (99, 0, []), (99, 0, []), (99, 0, []), (99, 0, []), (99, 0, [])]
def z_h0 : T2 AC := [z_hr, z_hr, z_hr, z_hr, z_hr, z_hr, z_hr, z_hr, z_hr, z_hr]
def z_V0 (lo hi : Int) : VS := [(z_mn, z_mx), (z_mn, z_mx), (z_mn, z_mx), (z_mn, z_mx), (z_mn, z_mx), (z_mn, z_mx), (lo, hi)]
def z_E0 : ZE := (z_call z_PT 12, 15, 562, 600000, 7302250, true)
def z_S0 (V : VS) : ZS := (0, [(0, (7, 0, 0, 0))], [], V, z_h0, 0, 0)
/-- every end is a 1 -/
def z_all1 : List ZO → Bool
  | [] => true
  | o :: l => z_and (z_and (Nat.beq o.1 1) (z_and (z_isI o.2.1) (z_and (Nat.ble o.2.2.2.2.1 600000) (Nat.ble o.2.2.2.2.2 7302250)))) (z_and (match z_iv o.2.2.1 o.2.1 with
    | some i => z_and (z_le 1 i.1) (z_le i.2 1)
    | none => false) (z_all1 l))
def z_fin (o : Option (List ZS × List ZO)) : Bool := match o with
  | none => false
  | some r => match r.1 with
    | [] => z_all1 r.2
    | _ :: _ => false
def z_tks (code : T2 ZH) (E : ZE) : Nat → List ZS × List ZO → Option (List ZS × List ZO)
  | 0, t => some t
  | k + 1, t => z_bd (z_tick code E t) (z_tks code E k)
def z_pre : Option (List ZS × List ZO) := z_tks zk_L_law z_E0 22 ([z_S0 (z_V0 6 6)], [])
def z_preok : Bool := match z_pre with
  | none => false
  | some r => z_and (Nat.beq (z_len r.1) 76) (Nat.beq (z_len r.2) 0)
def z_case (i : Nat) : Bool := match z_pre with
  | none => false
  | some r => match z_nth r.1 i with
    | none => false
    | some st => z_fin (z_iter zk_L_law z_E0 14 ([st], []))
def z_cases : Nat → Nat → Bool
  | _, 0 => true
  | i, k + 1 => z_and (z_case i) (z_cases (Nat.succ i) k)
theorem zc_short : z_fin (z_iter zk_L_law z_E0 8 ([z_S0 (z_V0 0 5)], [])) = true := by decide +kernel
theorem zc_pre : z_preok = true := by decide +kernel
