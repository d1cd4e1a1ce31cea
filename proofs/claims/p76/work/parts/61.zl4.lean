theorem zl150_5 : z_ckK z_LE zk_L_law zLC 1 3082 144 9169 16 z_ok1 zLT150_5 20 5 zLC150 = true := by decide +kernel
theorem zl150_9 : z_ckK z_LE zk_L_law zLC 1 3082 144 9169 16 z_ok1 zLT150_9 36 3 zLC150 = true := by decide +kernel
theorem zl148 : z_chkC zk_L_law (z_LE zLT) zLC 1 3082 144 9169 16 2 z_ok1 zLC148 = true := by decide +kernel
theorem zl150_8 : z_ckK z_LE zk_L_law zLC 1 3082 144 9169 16 z_ok1 zLT150_8 32 4 zLC150 = true := by decide +kernel
theorem zl46 : z_chkC zk_L_law (z_LE zLT) zLC 1 3082 144 9169 16 2 z_ok1 zLC46 = true := by decide +kernel
theorem zl104 : z_chkC zk_L_law (z_LE zLT) zLC 1 3082 144 9169 16 2 z_ok1 zLC104 = true := by decide +kernel
theorem zl52 : z_chkC zk_L_law (z_LE zLT) zLC 1 3082 144 9169 16 2 z_ok1 zLC52 = true := by decide +kernel
theorem zl110 : z_chkC zk_L_law (z_LE zLT) zLC 1 3082 144 9169 16 2 z_ok1 zLC110 = true := by decide +kernel
theorem zl138 : z_chkC zk_L_law (z_LE zLT) zLC 1 3082 144 9169 16 2 z_ok1 zLC138 = true := by decide +kernel
theorem zl122 : z_chkC zk_L_law (z_LE zLT) zLC 1 3082 144 9169 16 2 z_ok1 zLC122 = true := by decide +kernel
theorem zl112 : z_chkC zk_L_law (z_LE zLT) zLC 1 3082 144 9169 16 2 z_ok1 zLC112 = true := by decide +kernel
theorem zl136 : z_chkC zk_L_law (z_LE zLT) zLC 1 3082 144 9169 16 2 z_ok1 zLC136 = true := by decide +kernel
theorem zl12 : z_chkC zk_L_law (z_LE zLT) zLC 1 3082 144 9169 16 2 z_ok1 zLC12 = true := by decide +kernel
theorem zl22 : z_chkC zk_L_law (z_LE zLT) zLC 1 3082 144 9169 16 2 z_ok1 zLC22 = true := by decide +kernel
theorem zl50 : z_chkC zk_L_law (z_LE zLT) zLC 1 3082 144 9169 16 2 z_ok1 zLC50 = true := by decide +kernel
theorem zl116 : z_chkC zk_L_law (z_LE zLT) zLC 1 3082 144 9169 16 2 z_ok1 zLC116 = true := by decide +kernel
theorem zl130 : z_chkC zk_L_law (z_LE zLT) zLC 1 3082 144 9169 16 2 z_ok1 zLC130 = true := by decide +kernel
theorem zl16 : z_chkC zk_L_law (z_LE zLT) zLC 1 3082 144 9169 16 2 z_ok1 zLC16 = true := by decide +kernel
theorem zl30 : z_chkC zk_L_law (z_LE zLT) zLC 1 3082 144 9169 16 2 z_ok1 zLC30 = true := by decide +kernel
theorem zl38 : z_chkC zk_L_law (z_LE zLT) zLC 1 3082 144 9169 16 2 z_ok1 zLC38 = true := by decide +kernel
theorem zl66 : z_chkC zk_L_law (z_LE zLT) zLC 1 3082 144 9169 16 2 z_ok1 zLC66 = true := by decide +kernel
theorem zl84 : z_chkC zk_L_law (z_LE zLT) zLC 1 3082 144 9169 16 2 z_ok1 zLC84 = true := by decide +kernel
theorem zl98 : z_chkC zk_L_law (z_LE zLT) zLC 1 3082 144 9169 16 2 z_ok1 zLC98 = true := by decide +kernel
theorem zl6 : z_chkC zk_L_law (z_LE zLT) zLC 1 3082 144 9169 16 2 z_ok1 zLC6 = true := by decide +kernel
theorem zl42 : z_chkC zk_L_law (z_LE zLT) zLC 1 3082 144 9169 16 2 z_ok1 zLC42 = true := by decide +kernel
theorem zl70 : z_chkC zk_L_law (z_LE zLT) zLC 1 3082 144 9169 16 2 z_ok1 zLC70 = true := by decide +kernel
theorem zl82 : z_chkC zk_L_law (z_LE zLT) zLC 1 3082 144 9169 16 2 z_ok1 zLC82 = true := by decide +kernel
theorem zl90 : z_chkC zk_L_law (z_LE zLT) zLC 1 3082 144 9169 16 2 z_ok1 zLC90 = true := by decide +kernel
theorem zl132 : z_chkC zk_L_law (z_LE zLT) zLC 1 3082 144 9169 16 2 z_ok1 zLC132 = true := by decide +kernel
