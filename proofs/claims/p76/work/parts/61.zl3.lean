theorem zl150_1 : z_ckK zk_L_law (z_LE zLT) zLC 1 3082 144 9169 16 z_ok1 10 10 zLC150 = true := by decide +kernel
theorem zl151_1 : z_ckK zk_L_law (z_LE zLT) zLC 1 3082 144 9169 16 z_ok1 10 10 zLC151 = true := by decide +kernel
theorem zl127 : z_chkC zk_L_law (z_LE zLT) zLC 1 3082 144 9169 16 2 z_ok1 zLC127 = true := by decide +kernel
theorem zl1 : z_chkC zk_L_law (z_LE zLT) zLC 1 3082 144 9169 16 2 z_ok1 zLC1 = true := by decide +kernel
theorem zl69 : z_chkC zk_L_law (z_LE zLT) zLC 1 3082 144 9169 16 2 z_ok1 zLC69 = true := by decide +kernel
theorem zl145 : z_chkC zk_L_law (z_LE zLT) zLC 1 3082 144 9169 16 2 z_ok1 zLC145 = true := by decide +kernel
theorem zl143 : z_chkC zk_L_law (z_LE zLT) zLC 1 3082 144 9169 16 2 z_ok1 zLC143 = true := by decide +kernel
theorem zl21 : z_chkC zk_L_law (z_LE zLT) zLC 1 3082 144 9169 16 2 z_ok1 zLC21 = true := by decide +kernel
theorem zl49 : z_chkC zk_L_law (z_LE zLT) zLC 1 3082 144 9169 16 2 z_ok1 zLC49 = true := by decide +kernel
theorem zl63 : z_chkC zk_L_law (z_LE zLT) zLC 1 3082 144 9169 16 2 z_ok1 zLC63 = true := by decide +kernel
theorem zl135 : z_chkC zk_L_law (z_LE zLT) zLC 1 3082 144 9169 16 2 z_ok1 zLC135 = true := by decide +kernel
theorem zl9 : z_chkC zk_L_law (z_LE zLT) zLC 1 3082 144 9169 16 2 z_ok1 zLC9 = true := by decide +kernel
theorem zl25 : z_chkC zk_L_law (z_LE zLT) zLC 1 3082 144 9169 16 2 z_ok1 zLC25 = true := by decide +kernel
theorem zl33 : z_chkC zk_L_law (z_LE zLT) zLC 1 3082 144 9169 16 2 z_ok1 zLC33 = true := by decide +kernel
theorem zl59 : z_chkC zk_L_law (z_LE zLT) zLC 1 3082 144 9169 16 2 z_ok1 zLC59 = true := by decide +kernel
theorem zl75 : z_chkC zk_L_law (z_LE zLT) zLC 1 3082 144 9169 16 2 z_ok1 zLC75 = true := by decide +kernel
theorem zl95 : z_chkC zk_L_law (z_LE zLT) zLC 1 3082 144 9169 16 2 z_ok1 zLC95 = true := by decide +kernel
theorem zl115 : z_chkC zk_L_law (z_LE zLT) zLC 1 3082 144 9169 16 2 z_ok1 zLC115 = true := by decide +kernel
theorem zl19 : z_chkC zk_L_law (z_LE zLT) zLC 1 3082 144 9169 16 2 z_ok1 zLC19 = true := by decide +kernel
theorem zl43 : z_chkC zk_L_law (z_LE zLT) zLC 1 3082 144 9169 16 2 z_ok1 zLC43 = true := by decide +kernel
theorem zl71 : z_chkC zk_L_law (z_LE zLT) zLC 1 3082 144 9169 16 2 z_ok1 zLC71 = true := by decide +kernel
theorem zl83 : z_chkC zk_L_law (z_LE zLT) zLC 1 3082 144 9169 16 2 z_ok1 zLC83 = true := by decide +kernel
theorem zl91 : z_chkC zk_L_law (z_LE zLT) zLC 1 3082 144 9169 16 2 z_ok1 zLC91 = true := by decide +kernel
theorem zl133 : z_chkC zk_L_law (z_LE zLT) zLC 1 3082 144 9169 16 2 z_ok1 zLC133 = true := by decide +kernel
