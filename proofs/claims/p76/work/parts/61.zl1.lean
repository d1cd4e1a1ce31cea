theorem zl150_1 : z_ckK z_LE zk_L_law zLC 1 3082 144 9169 16 z_ok1 zLT150_1 10 10 zLC150 = true := by decide +kernel
theorem zl151_3 : z_ckK z_LE zk_L_law zLC 1 3082 144 9169 16 z_ok1 zLT151_3 30 10 zLC151 = true := by decide +kernel
theorem zl125 : z_chkC zk_L_law (z_LE zLT) zLC 1 3082 144 9169 16 2 z_ok1 zLC125 = true := by decide +kernel
theorem zl11 : z_chkC zk_L_law (z_LE zLT) zLC 1 3082 144 9169 16 2 z_ok1 zLC11 = true := by decide +kernel
theorem zl21 : z_chkC zk_L_law (z_LE zLT) zLC 1 3082 144 9169 16 2 z_ok1 zLC21 = true := by decide +kernel
theorem zl49 : z_chkC zk_L_law (z_LE zLT) zLC 1 3082 144 9169 16 2 z_ok1 zLC49 = true := by decide +kernel
theorem zl63 : z_chkC zk_L_law (z_LE zLT) zLC 1 3082 144 9169 16 2 z_ok1 zLC63 = true := by decide +kernel
theorem zl135 : z_chkC zk_L_law (z_LE zLT) zLC 1 3082 144 9169 16 2 z_ok1 zLC135 = true := by decide +kernel
theorem zl9 : z_chkC zk_L_law (z_LE zLT) zLC 1 3082 144 9169 16 2 z_ok1 zLC9 = true := by decide +kernel
theorem zl29 : z_chkC zk_L_law (z_LE zLT) zLC 1 3082 144 9169 16 2 z_ok1 zLC29 = true := by decide +kernel
theorem zl35 : z_chkC zk_L_law (z_LE zLT) zLC 1 3082 144 9169 16 2 z_ok1 zLC35 = true := by decide +kernel
theorem zl65 : z_chkC zk_L_law (z_LE zLT) zLC 1 3082 144 9169 16 2 z_ok1 zLC65 = true := by decide +kernel
theorem zl77 : z_chkC zk_L_law (z_LE zLT) zLC 1 3082 144 9169 16 2 z_ok1 zLC77 = true := by decide +kernel
theorem zl97 : z_chkC zk_L_law (z_LE zLT) zLC 1 3082 144 9169 16 2 z_ok1 zLC97 = true := by decide +kernel
theorem zl141 : z_chkC zk_L_law (z_LE zLT) zLC 1 3082 144 9169 16 2 z_ok1 zLC141 = true := by decide +kernel
theorem zl41 : z_chkC zk_L_law (z_LE zLT) zLC 1 3082 144 9169 16 2 z_ok1 zLC41 = true := by decide +kernel
theorem zl61 : z_chkC zk_L_law (z_LE zLT) zLC 1 3082 144 9169 16 2 z_ok1 zLC61 = true := by decide +kernel
theorem zl81 : z_chkC zk_L_law (z_LE zLT) zLC 1 3082 144 9169 16 2 z_ok1 zLC81 = true := by decide +kernel
theorem zl89 : z_chkC zk_L_law (z_LE zLT) zLC 1 3082 144 9169 16 2 z_ok1 zLC89 = true := by decide +kernel
theorem zl101 : z_chkC zk_L_law (z_LE zLT) zLC 1 3082 144 9169 16 2 z_ok1 zLC101 = true := by decide +kernel
