theorem zl151_4 : z_ckK z_LE zk_L_law zLC 1 3082 144 9169 16 z_ok1 zLT151_4 16 4 zLC151 = true := by decide +kernel
theorem zl150_7 : z_ckK z_LE zk_L_law zLC 1 3082 144 9169 16 z_ok1 zLT150_7 28 4 zLC150 = true := by decide +kernel
theorem zl151_7 : z_ckK z_LE zk_L_law zLC 1 3082 144 9169 16 z_ok1 zLT151_7 28 4 zLC151 = true := by decide +kernel
theorem zl151_10 : z_ckK z_LE zk_L_law zLC 1 3082 144 9169 16 z_ok1 zLT151_10 39 0 zLC151 = true := by decide +kernel
theorem zl147 : z_chkC zk_L_law (z_LE zLT) zLC 1 3082 144 9169 16 2 z_ok1 zLC147 = true := by decide +kernel
theorem zl107 : z_chkC zk_L_law (z_LE zLT) zLC 1 3082 144 9169 16 2 z_ok1 zLC107 = true := by decide +kernel
theorem zl103 : z_chkC zk_L_law (z_LE zLT) zLC 1 3082 144 9169 16 2 z_ok1 zLC103 = true := by decide +kernel
theorem zl127 : z_chkC zk_L_law (z_LE zLT) zLC 1 3082 144 9169 16 2 z_ok1 zLC127 = true := by decide +kernel
theorem zl1 : z_chkC zk_L_law (z_LE zLT) zLC 1 3082 144 9169 16 2 z_ok1 zLC1 = true := by decide +kernel
theorem zl37 : z_chkC zk_L_law (z_LE zLT) zLC 1 3082 144 9169 16 2 z_ok1 zLC37 = true := by decide +kernel
theorem zl73 : z_chkC zk_L_law (z_LE zLT) zLC 1 3082 144 9169 16 2 z_ok1 zLC73 = true := by decide +kernel
theorem zl125 : z_chkC zk_L_law (z_LE zLT) zLC 1 3082 144 9169 16 2 z_ok1 zLC125 = true := by decide +kernel
theorem zl11 : z_chkC zk_L_law (z_LE zLT) zLC 1 3082 144 9169 16 2 z_ok1 zLC11 = true := by decide +kernel
theorem zl21 : z_chkC zk_L_law (z_LE zLT) zLC 1 3082 144 9169 16 2 z_ok1 zLC21 = true := by decide +kernel
theorem zl49 : z_chkC zk_L_law (z_LE zLT) zLC 1 3082 144 9169 16 2 z_ok1 zLC49 = true := by decide +kernel
theorem zl63 : z_chkC zk_L_law (z_LE zLT) zLC 1 3082 144 9169 16 2 z_ok1 zLC63 = true := by decide +kernel
theorem zl135 : z_chkC zk_L_law (z_LE zLT) zLC 1 3082 144 9169 16 2 z_ok1 zLC135 = true := by decide +kernel
theorem zl9 : z_chkC zk_L_law (z_LE zLT) zLC 1 3082 144 9169 16 2 z_ok1 zLC9 = true := by decide +kernel
theorem zl29 : z_chkC zk_L_law (z_LE zLT) zLC 1 3082 144 9169 16 2 z_ok1 zLC29 = true := by decide +kernel
theorem zl35 : z_chkC zk_L_law (z_LE zLT) zLC 1 3082 144 9169 16 2 z_ok1 zLC35 = true := by decide +kernel
theorem zl65 : z_chkC zk_L_law (z_LE zLT) zLC 1 3082 144 9169 16 2 z_ok1 zLC65 = true := by decide +kernel
theorem zl77 : z_chkC zk_L_law (z_LE zLT) zLC 1 3082 144 9169 16 2 z_ok1 zLC77 = true := by decide +kernel
theorem zl97 : z_chkC zk_L_law (z_LE zLT) zLC 1 3082 144 9169 16 2 z_ok1 zLC97 = true := by decide +kernel
theorem zl141 : z_chkC zk_L_law (z_LE zLT) zLC 1 3082 144 9169 16 2 z_ok1 zLC141 = true := by decide +kernel
theorem zl45 : z_chkC zk_L_law (z_LE zLT) zLC 1 3082 144 9169 16 2 z_ok1 zLC45 = true := by decide +kernel
theorem zl79 : z_chkC zk_L_law (z_LE zLT) zLC 1 3082 144 9169 16 2 z_ok1 zLC79 = true := by decide +kernel
theorem zl87 : z_chkC zk_L_law (z_LE zLT) zLC 1 3082 144 9169 16 2 z_ok1 zLC87 = true := by decide +kernel
theorem zl93 : z_chkC zk_L_law (z_LE zLT) zLC 1 3082 144 9169 16 2 z_ok1 zLC93 = true := by decide +kernel
theorem zl151_t : z_ckT 1 3082 2 zLC151 = true := by decide +kernel
