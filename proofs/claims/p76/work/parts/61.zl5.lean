theorem zl150_3 : z_ckK zk_L_law (z_LE zLT) zLC 1 3082 144 9169 16 z_ok1 30 10 zLC150 = true := by decide +kernel
theorem zl151_3 : z_ckK zk_L_law (z_LE zLT) zLC 1 3082 144 9169 16 z_ok1 30 10 zLC151 = true := by decide +kernel
theorem zl129 : z_chkC zk_L_law (z_LE zLT) zLC 1 3082 144 9169 16 2 z_ok1 zLC129 = true := by decide +kernel
theorem zl121 : z_chkC zk_L_law (z_LE zLT) zLC 1 3082 144 9169 16 2 z_ok1 zLC121 = true := by decide +kernel
theorem zl37 : z_chkC zk_L_law (z_LE zLT) zLC 1 3082 144 9169 16 2 z_ok1 zLC37 = true := by decide +kernel
theorem zl113 : z_chkC zk_L_law (z_LE zLT) zLC 1 3082 144 9169 16 2 z_ok1 zLC113 = true := by decide +kernel
theorem zl137 : z_chkC zk_L_law (z_LE zLT) zLC 1 3082 144 9169 16 2 z_ok1 zLC137 = true := by decide +kernel
theorem zl15 : z_chkC zk_L_law (z_LE zLT) zLC 1 3082 144 9169 16 2 z_ok1 zLC15 = true := by decide +kernel
theorem zl27 : z_chkC zk_L_law (z_LE zLT) zLC 1 3082 144 9169 16 2 z_ok1 zLC27 = true := by decide +kernel
theorem zl55 : z_chkC zk_L_law (z_LE zLT) zLC 1 3082 144 9169 16 2 z_ok1 zLC55 = true := by decide +kernel
theorem zl119 : z_chkC zk_L_law (z_LE zLT) zLC 1 3082 144 9169 16 2 z_ok1 zLC119 = true := by decide +kernel
theorem zl5 : z_chkC zk_L_law (z_LE zLT) zLC 1 3082 144 9169 16 2 z_ok1 zLC5 = true := by decide +kernel
theorem zl17 : z_chkC zk_L_law (z_LE zLT) zLC 1 3082 144 9169 16 2 z_ok1 zLC17 = true := by decide +kernel
theorem zl31 : z_chkC zk_L_law (z_LE zLT) zLC 1 3082 144 9169 16 2 z_ok1 zLC31 = true := by decide +kernel
theorem zl39 : z_chkC zk_L_law (z_LE zLT) zLC 1 3082 144 9169 16 2 z_ok1 zLC39 = true := by decide +kernel
theorem zl67 : z_chkC zk_L_law (z_LE zLT) zLC 1 3082 144 9169 16 2 z_ok1 zLC67 = true := by decide +kernel
theorem zl85 : z_chkC zk_L_law (z_LE zLT) zLC 1 3082 144 9169 16 2 z_ok1 zLC85 = true := by decide +kernel
theorem zl99 : z_chkC zk_L_law (z_LE zLT) zLC 1 3082 144 9169 16 2 z_ok1 zLC99 = true := by decide +kernel
theorem zl7 : z_chkC zk_L_law (z_LE zLT) zLC 1 3082 144 9169 16 2 z_ok1 zLC7 = true := by decide +kernel
theorem zl45 : z_chkC zk_L_law (z_LE zLT) zLC 1 3082 144 9169 16 2 z_ok1 zLC45 = true := by decide +kernel
theorem zl79 : z_chkC zk_L_law (z_LE zLT) zLC 1 3082 144 9169 16 2 z_ok1 zLC79 = true := by decide +kernel
theorem zl87 : z_chkC zk_L_law (z_LE zLT) zLC 1 3082 144 9169 16 2 z_ok1 zLC87 = true := by decide +kernel
theorem zl93 : z_chkC zk_L_law (z_LE zLT) zLC 1 3082 144 9169 16 2 z_ok1 zLC93 = true := by decide +kernel
theorem zl151_t : z_ckT 1 3082 2 zLC151 = true := by decide +kernel
