theorem zl151_1 : z_ckK z_LE zk_L_law zLC 1 3082 144 9169 16 z_ok1 zLT151_1 4 4 zLC151 = true := by decide +kernel
theorem zl150_2 : z_ckK z_LE zk_L_law zLC 1 3082 144 9169 16 z_ok1 zLT150_2 8 4 zLC150 = true := by decide +kernel
theorem zl151_2 : z_ckK z_LE zk_L_law zLC 1 3082 144 9169 16 z_ok1 zLT151_2 8 4 zLC151 = true := by decide +kernel
theorem zl150_10 : z_ckK z_LE zk_L_law zLC 1 3082 144 9169 16 z_ok1 zLT150_10 39 0 zLC150 = true := by decide +kernel
theorem zl146 : z_chkC zk_L_law (z_LE zLT) zLC 1 3082 144 9169 16 2 z_ok1 zLC146 = true := by decide +kernel
theorem zl106 : z_chkC zk_L_law (z_LE zLT) zLC 1 3082 144 9169 16 2 z_ok1 zLC106 = true := by decide +kernel
theorem zl102 : z_chkC zk_L_law (z_LE zLT) zLC 1 3082 144 9169 16 2 z_ok1 zLC102 = true := by decide +kernel
theorem zl126 : z_chkC zk_L_law (z_LE zLT) zLC 1 3082 144 9169 16 2 z_ok1 zLC126 = true := by decide +kernel
theorem zl0 : z_chkC zk_L_law (z_LE zLT) zLC 1 3082 144 9169 16 2 z_ok1 zLC0 = true := by decide +kernel
theorem zl36 : z_chkC zk_L_law (z_LE zLT) zLC 1 3082 144 9169 16 2 z_ok1 zLC36 = true := by decide +kernel
theorem zl72 : z_chkC zk_L_law (z_LE zLT) zLC 1 3082 144 9169 16 2 z_ok1 zLC72 = true := by decide +kernel
theorem zl124 : z_chkC zk_L_law (z_LE zLT) zLC 1 3082 144 9169 16 2 z_ok1 zLC124 = true := by decide +kernel
theorem zl10 : z_chkC zk_L_law (z_LE zLT) zLC 1 3082 144 9169 16 2 z_ok1 zLC10 = true := by decide +kernel
theorem zl20 : z_chkC zk_L_law (z_LE zLT) zLC 1 3082 144 9169 16 2 z_ok1 zLC20 = true := by decide +kernel
theorem zl48 : z_chkC zk_L_law (z_LE zLT) zLC 1 3082 144 9169 16 2 z_ok1 zLC48 = true := by decide +kernel
theorem zl62 : z_chkC zk_L_law (z_LE zLT) zLC 1 3082 144 9169 16 2 z_ok1 zLC62 = true := by decide +kernel
theorem zl134 : z_chkC zk_L_law (z_LE zLT) zLC 1 3082 144 9169 16 2 z_ok1 zLC134 = true := by decide +kernel
theorem zl8 : z_chkC zk_L_law (z_LE zLT) zLC 1 3082 144 9169 16 2 z_ok1 zLC8 = true := by decide +kernel
theorem zl28 : z_chkC zk_L_law (z_LE zLT) zLC 1 3082 144 9169 16 2 z_ok1 zLC28 = true := by decide +kernel
theorem zl34 : z_chkC zk_L_law (z_LE zLT) zLC 1 3082 144 9169 16 2 z_ok1 zLC34 = true := by decide +kernel
theorem zl64 : z_chkC zk_L_law (z_LE zLT) zLC 1 3082 144 9169 16 2 z_ok1 zLC64 = true := by decide +kernel
theorem zl76 : z_chkC zk_L_law (z_LE zLT) zLC 1 3082 144 9169 16 2 z_ok1 zLC76 = true := by decide +kernel
theorem zl96 : z_chkC zk_L_law (z_LE zLT) zLC 1 3082 144 9169 16 2 z_ok1 zLC96 = true := by decide +kernel
theorem zl140 : z_chkC zk_L_law (z_LE zLT) zLC 1 3082 144 9169 16 2 z_ok1 zLC140 = true := by decide +kernel
theorem zl44 : z_chkC zk_L_law (z_LE zLT) zLC 1 3082 144 9169 16 2 z_ok1 zLC44 = true := by decide +kernel
theorem zl78 : z_chkC zk_L_law (z_LE zLT) zLC 1 3082 144 9169 16 2 z_ok1 zLC78 = true := by decide +kernel
theorem zl86 : z_chkC zk_L_law (z_LE zLT) zLC 1 3082 144 9169 16 2 z_ok1 zLC86 = true := by decide +kernel
theorem zl92 : z_chkC zk_L_law (z_LE zLT) zLC 1 3082 144 9169 16 2 z_ok1 zLC92 = true := by decide +kernel
theorem zl150_t : z_ckT 1 3082 2 zLC150 = true := by decide +kernel
