def z_hr : List AC := [(99, 0, []), (99, 0, []), (99, 0, []), (99, 0, []), (99, 0, []), (99, 0, []), (99, 0, []), (99, 0, []), (99, 0, []), (99, 0, []), (99, 0, []), (99, 0, []), (99, 0, []), (99, 0, []), (99, 0, []), (99, 0, [])]
def z_h0 : T2 AC := [z_hr, z_hr, z_hr, z_hr, z_hr, z_hr, z_hr, z_hr, z_hr, z_hr]
def z_V0 (lo hi : Int) : VS := [(z_mn, z_mx), (z_mn, z_mx), (z_mn, z_mx), (z_mn, z_mx), (z_mn, z_mx), (z_mn, z_mx), (lo, hi)]
def z_E0 : ZE := (z_call z_PT 12, 15, 562, 600000, 7302250, true)
def z_S0 (V : VS) : ZS := (0, [(0, (7, 0, 0, 0))], [], V, z_h0, 0, 0)
/-- every end is a 1 -/
def z_all1 : List ZO → Bool
  | [] => true
  | o :: l => z_and (z_and (Nat.beq o.1 1) (z_isI o.2.1)) (z_and (match z_iv o.2.2.1 o.2.1 with
    | some i => z_and (z_le 1 i.1) (z_le i.2 1)
    | none => false) (z_all1 l))
def z_fin (o : Option (List ZS × List ZO)) : Bool := match o with
  | none => false
  | some r => match r.1 with
    | [] => z_all1 r.2
    | _ :: _ => false
theorem zz_t2 : z_fin (z_iter zk_L_law z_E0 8 ([z_S0 (z_V0 0 5)], [])) = true := by decide +kernel
theorem zz_t3 : z_fin (z_iter zk_L_law z_E0 14 ([z_S0 (z_V0 6 6)], [])) = true := by decide +kernel
