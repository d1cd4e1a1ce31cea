theorem zl150_1 : z_ckK z_LE zk_L_law zLC 1 3082 144 9169 16 z_ok1 zLT150_1 4 4 zLC150 = true := by decide +kernel
theorem zl150_3 : z_ckK z_LE zk_L_law zLC 1 3082 144 9169 16 z_ok1 zLT150_3 12 4 zLC150 = true := by decide +kernel
theorem zl150_6 : z_ckK z_LE zk_L_law zLC 1 3082 144 9169 16 z_ok1 zLT150_6 25 3 zLC150 = true := by decide +kernel
theorem zl150_0 : z_ckK z_LE zk_L_law zLC 1 3082 144 9169 16 z_ok1 zLT150_0 0 4 zLC150 = true := by decide +kernel
theorem zl56 : z_chkC zk_L_law (z_LE zLT) zLC 1 3082 144 9169 16 2 z_ok1 zLC56 = true := by decide +kernel
theorem zl2 : z_chkC zk_L_law (z_LE zLT) zLC 1 3082 144 9169 16 2 z_ok1 zLC2 = true := by decide +kernel
theorem zl108 : z_chkC zk_L_law (z_LE zLT) zLC 1 3082 144 9169 16 2 z_ok1 zLC108 = true := by decide +kernel
theorem zl128 : z_chkC zk_L_law (z_LE zLT) zLC 1 3082 144 9169 16 2 z_ok1 zLC128 = true := by decide +kernel
theorem zl120 : z_chkC zk_L_law (z_LE zLT) zLC 1 3082 144 9169 16 2 z_ok1 zLC120 = true := by decide +kernel
theorem zl68 : z_chkC zk_L_law (z_LE zLT) zLC 1 3082 144 9169 16 2 z_ok1 zLC68 = true := by decide +kernel
theorem zl144 : z_chkC zk_L_law (z_LE zLT) zLC 1 3082 144 9169 16 2 z_ok1 zLC144 = true := by decide +kernel
theorem zl142 : z_chkC zk_L_law (z_LE zLT) zLC 1 3082 144 9169 16 2 z_ok1 zLC142 = true := by decide +kernel
theorem zl14 : z_chkC zk_L_law (z_LE zLT) zLC 1 3082 144 9169 16 2 z_ok1 zLC14 = true := by decide +kernel
theorem zl26 : z_chkC zk_L_law (z_LE zLT) zLC 1 3082 144 9169 16 2 z_ok1 zLC26 = true := by decide +kernel
theorem zl54 : z_chkC zk_L_law (z_LE zLT) zLC 1 3082 144 9169 16 2 z_ok1 zLC54 = true := by decide +kernel
theorem zl118 : z_chkC zk_L_law (z_LE zLT) zLC 1 3082 144 9169 16 2 z_ok1 zLC118 = true := by decide +kernel
theorem zl4 : z_chkC zk_L_law (z_LE zLT) zLC 1 3082 144 9169 16 2 z_ok1 zLC4 = true := by decide +kernel
theorem zl24 : z_chkC zk_L_law (z_LE zLT) zLC 1 3082 144 9169 16 2 z_ok1 zLC24 = true := by decide +kernel
theorem zl32 : z_chkC zk_L_law (z_LE zLT) zLC 1 3082 144 9169 16 2 z_ok1 zLC32 = true := by decide +kernel
theorem zl58 : z_chkC zk_L_law (z_LE zLT) zLC 1 3082 144 9169 16 2 z_ok1 zLC58 = true := by decide +kernel
theorem zl74 : z_chkC zk_L_law (z_LE zLT) zLC 1 3082 144 9169 16 2 z_ok1 zLC74 = true := by decide +kernel
theorem zl94 : z_chkC zk_L_law (z_LE zLT) zLC 1 3082 144 9169 16 2 z_ok1 zLC94 = true := by decide +kernel
theorem zl114 : z_chkC zk_L_law (z_LE zLT) zLC 1 3082 144 9169 16 2 z_ok1 zLC114 = true := by decide +kernel
theorem zl18 : z_chkC zk_L_law (z_LE zLT) zLC 1 3082 144 9169 16 2 z_ok1 zLC18 = true := by decide +kernel
theorem zl40 : z_chkC zk_L_law (z_LE zLT) zLC 1 3082 144 9169 16 2 z_ok1 zLC40 = true := by decide +kernel
theorem zl60 : z_chkC zk_L_law (z_LE zLT) zLC 1 3082 144 9169 16 2 z_ok1 zLC60 = true := by decide +kernel
theorem zl80 : z_chkC zk_L_law (z_LE zLT) zLC 1 3082 144 9169 16 2 z_ok1 zLC80 = true := by decide +kernel
theorem zl88 : z_chkC zk_L_law (z_LE zLT) zLC 1 3082 144 9169 16 2 z_ok1 zLC88 = true := by decide +kernel
theorem zl100 : z_chkC zk_L_law (z_LE zLT) zLC 1 3082 144 9169 16 2 z_ok1 zLC100 = true := by decide +kernel
