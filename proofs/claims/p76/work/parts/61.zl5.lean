theorem zl151_5 : z_ckK z_LE zk_L_law zLC 1 3082 144 9169 16 z_ok1 zLT151_5 20 5 zLC151 = true := by decide +kernel
theorem zl151_9 : z_ckK z_LE zk_L_law zLC 1 3082 144 9169 16 z_ok1 zLT151_9 36 3 zLC151 = true := by decide +kernel
theorem zl149 : z_chkC zk_L_law (z_LE zLT) zLC 1 3082 144 9169 16 2 z_ok1 zLC149 = true := by decide +kernel
theorem zl151_8 : z_ckK z_LE zk_L_law zLC 1 3082 144 9169 16 z_ok1 zLT151_8 32 4 zLC151 = true := by decide +kernel
theorem zl47 : z_chkC zk_L_law (z_LE zLT) zLC 1 3082 144 9169 16 2 z_ok1 zLC47 = true := by decide +kernel
theorem zl105 : z_chkC zk_L_law (z_LE zLT) zLC 1 3082 144 9169 16 2 z_ok1 zLC105 = true := by decide +kernel
theorem zl53 : z_chkC zk_L_law (z_LE zLT) zLC 1 3082 144 9169 16 2 z_ok1 zLC53 = true := by decide +kernel
theorem zl111 : z_chkC zk_L_law (z_LE zLT) zLC 1 3082 144 9169 16 2 z_ok1 zLC111 = true := by decide +kernel
theorem zl139 : z_chkC zk_L_law (z_LE zLT) zLC 1 3082 144 9169 16 2 z_ok1 zLC139 = true := by decide +kernel
theorem zl123 : z_chkC zk_L_law (z_LE zLT) zLC 1 3082 144 9169 16 2 z_ok1 zLC123 = true := by decide +kernel
theorem zl113 : z_chkC zk_L_law (z_LE zLT) zLC 1 3082 144 9169 16 2 z_ok1 zLC113 = true := by decide +kernel
theorem zl137 : z_chkC zk_L_law (z_LE zLT) zLC 1 3082 144 9169 16 2 z_ok1 zLC137 = true := by decide +kernel
theorem zl13 : z_chkC zk_L_law (z_LE zLT) zLC 1 3082 144 9169 16 2 z_ok1 zLC13 = true := by decide +kernel
theorem zl23 : z_chkC zk_L_law (z_LE zLT) zLC 1 3082 144 9169 16 2 z_ok1 zLC23 = true := by decide +kernel
theorem zl51 : z_chkC zk_L_law (z_LE zLT) zLC 1 3082 144 9169 16 2 z_ok1 zLC51 = true := by decide +kernel
theorem zl117 : z_chkC zk_L_law (z_LE zLT) zLC 1 3082 144 9169 16 2 z_ok1 zLC117 = true := by decide +kernel
theorem zl131 : z_chkC zk_L_law (z_LE zLT) zLC 1 3082 144 9169 16 2 z_ok1 zLC131 = true := by decide +kernel
theorem zl17 : z_chkC zk_L_law (z_LE zLT) zLC 1 3082 144 9169 16 2 z_ok1 zLC17 = true := by decide +kernel
theorem zl31 : z_chkC zk_L_law (z_LE zLT) zLC 1 3082 144 9169 16 2 z_ok1 zLC31 = true := by decide +kernel
theorem zl39 : z_chkC zk_L_law (z_LE zLT) zLC 1 3082 144 9169 16 2 z_ok1 zLC39 = true := by decide +kernel
theorem zl67 : z_chkC zk_L_law (z_LE zLT) zLC 1 3082 144 9169 16 2 z_ok1 zLC67 = true := by decide +kernel
theorem zl85 : z_chkC zk_L_law (z_LE zLT) zLC 1 3082 144 9169 16 2 z_ok1 zLC85 = true := by decide +kernel
theorem zl99 : z_chkC zk_L_law (z_LE zLT) zLC 1 3082 144 9169 16 2 z_ok1 zLC99 = true := by decide +kernel
theorem zl7 : z_chkC zk_L_law (z_LE zLT) zLC 1 3082 144 9169 16 2 z_ok1 zLC7 = true := by decide +kernel
theorem zl43 : z_chkC zk_L_law (z_LE zLT) zLC 1 3082 144 9169 16 2 z_ok1 zLC43 = true := by decide +kernel
theorem zl71 : z_chkC zk_L_law (z_LE zLT) zLC 1 3082 144 9169 16 2 z_ok1 zLC71 = true := by decide +kernel
theorem zl83 : z_chkC zk_L_law (z_LE zLT) zLC 1 3082 144 9169 16 2 z_ok1 zLC83 = true := by decide +kernel
theorem zl91 : z_chkC zk_L_law (z_LE zLT) zLC 1 3082 144 9169 16 2 z_ok1 zLC91 = true := by decide +kernel
theorem zl133 : z_chkC zk_L_law (z_LE zLT) zLC 1 3082 144 9169 16 2 z_ok1 zLC133 = true := by decide +kernel
