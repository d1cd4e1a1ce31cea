theorem zl150_1 : z_ckK zk_L_law (z_LE zLT) zLC 1 3082 144 9169 16 z_ok1 10 10 zLC150 = true := by decide +kernel
theorem zl151_1 : z_ckK zk_L_law (z_LE zLT) zLC 1 3082 144 9169 16 z_ok1 10 10 zLC151 = true := by decide +kernel
theorem zl129 : z_chkC zk_L_law (z_LE zLT) zLC 1 3082 144 9169 16 2 z_ok1 zLC129 = true := by decide +kernel
theorem zl121 : z_chkC zk_L_law (z_LE zLT) zLC 1 3082 144 9169 16 2 z_ok1 zLC121 = true := by decide +kernel
theorem zl69 : z_chkC zk_L_law (z_LE zLT) zLC 1 3082 144 9169 16 2 z_ok1 zLC69 = true := by decide +kernel
theorem zl145 : z_chkC zk_L_law (z_LE zLT) zLC 1 3082 144 9169 16 2 z_ok1 zLC145 = true := by decide +kernel
theorem zl11 : z_chkC zk_L_law (z_LE zLT) zLC 1 3082 144 9169 16 2 z_ok1 zLC11 = true := by decide +kernel
theorem zl15 : z_chkC zk_L_law (z_LE zLT) zLC 1 3082 144 9169 16 2 z_ok1 zLC15 = true := by decide +kernel
theorem zl27 : z_chkC zk_L_law (z_LE zLT) zLC 1 3082 144 9169 16 2 z_ok1 zLC27 = true := by decide +kernel
theorem zl55 : z_chkC zk_L_law (z_LE zLT) zLC 1 3082 144 9169 16 2 z_ok1 zLC55 = true := by decide +kernel
theorem zl119 : z_chkC zk_L_law (z_LE zLT) zLC 1 3082 144 9169 16 2 z_ok1 zLC119 = true := by decide +kernel
theorem zl5 : z_chkC zk_L_law (z_LE zLT) zLC 1 3082 144 9169 16 2 z_ok1 zLC5 = true := by decide +kernel
theorem zl25 : z_chkC zk_L_law (z_LE zLT) zLC 1 3082 144 9169 16 2 z_ok1 zLC25 = true := by decide +kernel
theorem zl33 : z_chkC zk_L_law (z_LE zLT) zLC 1 3082 144 9169 16 2 z_ok1 zLC33 = true := by decide +kernel
theorem zl59 : z_chkC zk_L_law (z_LE zLT) zLC 1 3082 144 9169 16 2 z_ok1 zLC59 = true := by decide +kernel
theorem zl75 : z_chkC zk_L_law (z_LE zLT) zLC 1 3082 144 9169 16 2 z_ok1 zLC75 = true := by decide +kernel
theorem zl95 : z_chkC zk_L_law (z_LE zLT) zLC 1 3082 144 9169 16 2 z_ok1 zLC95 = true := by decide +kernel
theorem zl115 : z_chkC zk_L_law (z_LE zLT) zLC 1 3082 144 9169 16 2 z_ok1 zLC115 = true := by decide +kernel
theorem zl19 : z_chkC zk_L_law (z_LE zLT) zLC 1 3082 144 9169 16 2 z_ok1 zLC19 = true := by decide +kernel
theorem zl43 : z_chkC zk_L_law (z_LE zLT) zLC 1 3082 144 9169 16 2 z_ok1 zLC43 = true := by decide +kernel
theorem zl71 : z_chkC zk_L_law (z_LE zLT) zLC 1 3082 144 9169 16 2 z_ok1 zLC71 = true := by decide +kernel
theorem zl83 : z_chkC zk_L_law (z_LE zLT) zLC 1 3082 144 9169 16 2 z_ok1 zLC83 = true := by decide +kernel
theorem zl91 : z_chkC zk_L_law (z_LE zLT) zLC 1 3082 144 9169 16 2 z_ok1 zLC91 = true := by decide +kernel
theorem zl133 : z_chkC zk_L_law (z_LE zLT) zLC 1 3082 144 9169 16 2 z_ok1 zLC133 = true := by decide +kernel
