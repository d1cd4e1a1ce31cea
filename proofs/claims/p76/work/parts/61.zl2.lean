theorem zl150_0 : z_ckK zk_L_law (z_LE zLT) zLC 1 3082 144 9169 16 z_ok1 0 10 zLC150 = true := by decide +kernel
theorem zl151_0 : z_ckK zk_L_law (z_LE zLT) zLC 1 3082 144 9169 16 z_ok1 0 10 zLC151 = true := by decide +kernel
theorem zl126 : z_chkC zk_L_law (z_LE zLT) zLC 1 3082 144 9169 16 2 z_ok1 zLC126 = true := by decide +kernel
theorem zl0 : z_chkC zk_L_law (z_LE zLT) zLC 1 3082 144 9169 16 2 z_ok1 zLC0 = true := by decide +kernel
theorem zl68 : z_chkC zk_L_law (z_LE zLT) zLC 1 3082 144 9169 16 2 z_ok1 zLC68 = true := by decide +kernel
theorem zl144 : z_chkC zk_L_law (z_LE zLT) zLC 1 3082 144 9169 16 2 z_ok1 zLC144 = true := by decide +kernel
theorem zl142 : z_chkC zk_L_law (z_LE zLT) zLC 1 3082 144 9169 16 2 z_ok1 zLC142 = true := by decide +kernel
theorem zl20 : z_chkC zk_L_law (z_LE zLT) zLC 1 3082 144 9169 16 2 z_ok1 zLC20 = true := by decide +kernel
theorem zl48 : z_chkC zk_L_law (z_LE zLT) zLC 1 3082 144 9169 16 2 z_ok1 zLC48 = true := by decide +kernel
theorem zl62 : z_chkC zk_L_law (z_LE zLT) zLC 1 3082 144 9169 16 2 z_ok1 zLC62 = true := by decide +kernel
theorem zl134 : z_chkC zk_L_law (z_LE zLT) zLC 1 3082 144 9169 16 2 z_ok1 zLC134 = true := by decide +kernel
theorem zl8 : z_chkC zk_L_law (z_LE zLT) zLC 1 3082 144 9169 16 2 z_ok1 zLC8 = true := by decide +kernel
theorem zl24 : z_chkC zk_L_law (z_LE zLT) zLC 1 3082 144 9169 16 2 z_ok1 zLC24 = true := by decide +kernel
theorem zl32 : z_chkC zk_L_law (z_LE zLT) zLC 1 3082 144 9169 16 2 z_ok1 zLC32 = true := by decide +kernel
theorem zl58 : z_chkC zk_L_law (z_LE zLT) zLC 1 3082 144 9169 16 2 z_ok1 zLC58 = true := by decide +kernel
theorem zl74 : z_chkC zk_L_law (z_LE zLT) zLC 1 3082 144 9169 16 2 z_ok1 zLC74 = true := by decide +kernel
theorem zl94 : z_chkC zk_L_law (z_LE zLT) zLC 1 3082 144 9169 16 2 z_ok1 zLC94 = true := by decide +kernel
theorem zl114 : z_chkC zk_L_law (z_LE zLT) zLC 1 3082 144 9169 16 2 z_ok1 zLC114 = true := by decide +kernel
theorem zl18 : z_chkC zk_L_law (z_LE zLT) zLC 1 3082 144 9169 16 2 z_ok1 zLC18 = true := by decide +kernel
theorem zl42 : z_chkC zk_L_law (z_LE zLT) zLC 1 3082 144 9169 16 2 z_ok1 zLC42 = true := by decide +kernel
theorem zl70 : z_chkC zk_L_law (z_LE zLT) zLC 1 3082 144 9169 16 2 z_ok1 zLC70 = true := by decide +kernel
theorem zl82 : z_chkC zk_L_law (z_LE zLT) zLC 1 3082 144 9169 16 2 z_ok1 zLC82 = true := by decide +kernel
theorem zl90 : z_chkC zk_L_law (z_LE zLT) zLC 1 3082 144 9169 16 2 z_ok1 zLC90 = true := by decide +kernel
theorem zl132 : z_chkC zk_L_law (z_LE zLT) zLC 1 3082 144 9169 16 2 z_ok1 zLC132 = true := by decide +kernel
