theorem zl150_0 : z_ckK zk_L_law (z_LE zLT) zLC 1 3082 144 9169 16 z_ok1 0 10 zLC150 = true := by decide +kernel
theorem zl151_0 : z_ckK zk_L_law (z_LE zLT) zLC 1 3082 144 9169 16 z_ok1 0 10 zLC151 = true := by decide +kernel
theorem zl128 : z_chkC zk_L_law (z_LE zLT) zLC 1 3082 144 9169 16 2 z_ok1 zLC128 = true := by decide +kernel
theorem zl120 : z_chkC zk_L_law (z_LE zLT) zLC 1 3082 144 9169 16 2 z_ok1 zLC120 = true := by decide +kernel
theorem zl68 : z_chkC zk_L_law (z_LE zLT) zLC 1 3082 144 9169 16 2 z_ok1 zLC68 = true := by decide +kernel
theorem zl144 : z_chkC zk_L_law (z_LE zLT) zLC 1 3082 144 9169 16 2 z_ok1 zLC144 = true := by decide +kernel
theorem zl10 : z_chkC zk_L_law (z_LE zLT) zLC 1 3082 144 9169 16 2 z_ok1 zLC10 = true := by decide +kernel
theorem zl14 : z_chkC zk_L_law (z_LE zLT) zLC 1 3082 144 9169 16 2 z_ok1 zLC14 = true := by decide +kernel
theorem zl26 : z_chkC zk_L_law (z_LE zLT) zLC 1 3082 144 9169 16 2 z_ok1 zLC26 = true := by decide +kernel
theorem zl54 : z_chkC zk_L_law (z_LE zLT) zLC 1 3082 144 9169 16 2 z_ok1 zLC54 = true := by decide +kernel
theorem zl118 : z_chkC zk_L_law (z_LE zLT) zLC 1 3082 144 9169 16 2 z_ok1 zLC118 = true := by decide +kernel
theorem zl4 : z_chkC zk_L_law (z_LE zLT) zLC 1 3082 144 9169 16 2 z_ok1 zLC4 = true := by decide +kernel
theorem zl24 : z_chkC zk_L_law (z_LE zLT) zLC 1 3082 144 9169 16 2 z_ok1 zLC24 = true := by decide +kernel
theorem zl32 : z_chkC zk_L_law (z_LE zLT) zLC 1 3082 144 9169 16 2 z_ok1 zLC32 = true := by decide +kernel
theorem zl58 : z_chkC zk_L_law (z_LE zLT) zLC 1 3082 144 9169 16 2 z_ok1 zLC58 = true := by decide +kernel
theorem zl74 : z_chkC zk_L_law (z_LE zLT) zLC 1 3082 144 9169 16 2 z_ok1 zLC74 = true := by decide +kernel
theorem zl94 : z_chkC zk_L_law (z_LE zLT) zLC 1 3082 144 9169 16 2 z_ok1 zLC94 = true := by decide +kernel
theorem zl114 : z_chkC zk_L_law (z_LE zLT) zLC 1 3082 144 9169 16 2 z_ok1 zLC114 = true := by decide +kernel
theorem zl18 : z_chkC zk_L_law (z_LE zLT) zLC 1 3082 144 9169 16 2 z_ok1 zLC18 = true := by decide +kernel
theorem zl42 : z_chkC zk_L_law (z_LE zLT) zLC 1 3082 144 9169 16 2 z_ok1 zLC42 = true := by decide +kernel
theorem zl70 : z_chkC zk_L_law (z_LE zLT) zLC 1 3082 144 9169 16 2 z_ok1 zLC70 = true := by decide +kernel
theorem zl82 : z_chkC zk_L_law (z_LE zLT) zLC 1 3082 144 9169 16 2 z_ok1 zLC82 = true := by decide +kernel
theorem zl90 : z_chkC zk_L_law (z_LE zLT) zLC 1 3082 144 9169 16 2 z_ok1 zLC90 = true := by decide +kernel
theorem zl132 : z_chkC zk_L_law (z_LE zLT) zLC 1 3082 144 9169 16 2 z_ok1 zLC132 = true := by decide +kernel
