theorem zl150_4 : z_ckK z_LE zk_L_law zLC 1 3082 144 9169 16 z_ok1 zLT150_4 16 4 zLC150 = true := by decide +kernel
theorem zl151_3 : z_ckK z_LE zk_L_law zLC 1 3082 144 9169 16 z_ok1 zLT151_3 12 4 zLC151 = true := by decide +kernel
theorem zl151_6 : z_ckK z_LE zk_L_law zLC 1 3082 144 9169 16 z_ok1 zLT151_6 25 3 zLC151 = true := by decide +kernel
theorem zl151_0 : z_ckK z_LE zk_L_law zLC 1 3082 144 9169 16 z_ok1 zLT151_0 0 4 zLC151 = true := by decide +kernel
theorem zl57 : z_chkC zk_L_law (z_LE zLT) zLC 1 3082 144 9169 16 2 z_ok1 zLC57 = true := by decide +kernel
theorem zl3 : z_chkC zk_L_law (z_LE zLT) zLC 1 3082 144 9169 16 2 z_ok1 zLC3 = true := by decide +kernel
theorem zl109 : z_chkC zk_L_law (z_LE zLT) zLC 1 3082 144 9169 16 2 z_ok1 zLC109 = true := by decide +kernel
theorem zl129 : z_chkC zk_L_law (z_LE zLT) zLC 1 3082 144 9169 16 2 z_ok1 zLC129 = true := by decide +kernel
theorem zl121 : z_chkC zk_L_law (z_LE zLT) zLC 1 3082 144 9169 16 2 z_ok1 zLC121 = true := by decide +kernel
theorem zl69 : z_chkC zk_L_law (z_LE zLT) zLC 1 3082 144 9169 16 2 z_ok1 zLC69 = true := by decide +kernel
theorem zl145 : z_chkC zk_L_law (z_LE zLT) zLC 1 3082 144 9169 16 2 z_ok1 zLC145 = true := by decide +kernel
theorem zl143 : z_chkC zk_L_law (z_LE zLT) zLC 1 3082 144 9169 16 2 z_ok1 zLC143 = true := by decide +kernel
theorem zl15 : z_chkC zk_L_law (z_LE zLT) zLC 1 3082 144 9169 16 2 z_ok1 zLC15 = true := by decide +kernel
theorem zl27 : z_chkC zk_L_law (z_LE zLT) zLC 1 3082 144 9169 16 2 z_ok1 zLC27 = true := by decide +kernel
theorem zl55 : z_chkC zk_L_law (z_LE zLT) zLC 1 3082 144 9169 16 2 z_ok1 zLC55 = true := by decide +kernel
theorem zl119 : z_chkC zk_L_law (z_LE zLT) zLC 1 3082 144 9169 16 2 z_ok1 zLC119 = true := by decide +kernel
theorem zl5 : z_chkC zk_L_law (z_LE zLT) zLC 1 3082 144 9169 16 2 z_ok1 zLC5 = true := by decide +kernel
theorem zl25 : z_chkC zk_L_law (z_LE zLT) zLC 1 3082 144 9169 16 2 z_ok1 zLC25 = true := by decide +kernel
theorem zl33 : z_chkC zk_L_law (z_LE zLT) zLC 1 3082 144 9169 16 2 z_ok1 zLC33 = true := by decide +kernel
theorem zl59 : z_chkC zk_L_law (z_LE zLT) zLC 1 3082 144 9169 16 2 z_ok1 zLC59 = true := by decide +kernel
theorem zl75 : z_chkC zk_L_law (z_LE zLT) zLC 1 3082 144 9169 16 2 z_ok1 zLC75 = true := by decide +kernel
theorem zl95 : z_chkC zk_L_law (z_LE zLT) zLC 1 3082 144 9169 16 2 z_ok1 zLC95 = true := by decide +kernel
theorem zl115 : z_chkC zk_L_law (z_LE zLT) zLC 1 3082 144 9169 16 2 z_ok1 zLC115 = true := by decide +kernel
theorem zl19 : z_chkC zk_L_law (z_LE zLT) zLC 1 3082 144 9169 16 2 z_ok1 zLC19 = true := by decide +kernel
theorem zl41 : z_chkC zk_L_law (z_LE zLT) zLC 1 3082 144 9169 16 2 z_ok1 zLC41 = true := by decide +kernel
theorem zl61 : z_chkC zk_L_law (z_LE zLT) zLC 1 3082 144 9169 16 2 z_ok1 zLC61 = true := by decide +kernel
theorem zl81 : z_chkC zk_L_law (z_LE zLT) zLC 1 3082 144 9169 16 2 z_ok1 zLC81 = true := by decide +kernel
theorem zl89 : z_chkC zk_L_law (z_LE zLT) zLC 1 3082 144 9169 16 2 z_ok1 zLC89 = true := by decide +kernel
theorem zl101 : z_chkC zk_L_law (z_LE zLT) zLC 1 3082 144 9169 16 2 z_ok1 zLC101 = true := by decide +kernel
