/-! a first contract: the class's atWorst -/
def zx1_V : VS := ([(0, 15)], [], [])
def zx1_any : AV := (1, 0, z_mn, z_mx, [])
def zx1_h : T2 AC := [[(100, 2, [zx1_any, zx1_any, zx1_any, (4, 1, 0, 0, [])]), (101, 1600, [zx1_any])]]
def zx1_X (q : Nat) : ZX := (q, [(4, 0, 0, 0, []), (0, 0, 0, 0, [(1, 0)])], zx1_V, zx1_h, 2, 5, 300, [(1, (0, 0, 0, 0, [(1, 1)]), ([(0, 15), (0, z_mx)], [], []), zx1_h, 2, 0, [], 0)])
def zx1_C : List ZCut := [(4, (([(0, 15), (0, z_mx), (0, 100)], [], []), [(0, (4, 0, 0, 0, [])), (1, (0, 0, 0, 0, [(1, 0)])), (2, (0, 0, 0, 0, [(1, 1)])), (3, (0, 0, 0, 0, [(1, 2)]))], zx1_h), [(100, [(-1, 2)])], zh_X2_atWorst_0)]
def zx1_t (q : Nat) : Bool := match z_g2 z_PT q with
  | none => false
  | some M => z_chkX (z_call z_PT [] 3) M (zx1_X q) zx1_C 8 8 100 2 1
theorem zx1_ok : zx1_t 31 = true := by decide +kernel
theorem zx1_okX {l : Launch} {D : va_G} {K : Nat → ClassId} {β : ZB} : z_okX z_SS z_ms l D K β (zx1_X 31) := by
  have h := zx1_ok
  unfold zx1_t at h
  cases hM : z_g2 z_PT 31 with
  | none => rw [hM] at h; cases h
  | some M =>
    rw [hM] at h
    refine z_chkX_ok (z_call_ok (z_glG z_PTok) (fun q L hL => by cases hL) 3) (z_glG z_PTok 31 M hM) ?_ h
    cases hM
    intro j C hj y bytes ret hq
    have hq : z_nth z_ms 31 = some (y, bytes, _, ret, _, _, _) := hq
    rw [zq_X2_atWorst] at hq
    cases hq
    match j, hj with
    | 0, hj => cases hj; exact zhs_X2_atWorst_0
    | j + 1, hj => cases hj
