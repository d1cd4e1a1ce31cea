theorem zl150_0 : z_ckK z_LE zk_L_law zLC 1 3082 144 9169 16 z_ok1 zLT150_0 0 10 zLC150 = true := by decide +kernel
theorem zl151_2 : z_ckK z_LE zk_L_law zLC 1 3082 144 9169 16 z_ok1 zLT151_2 20 10 zLC151 = true := by decide +kernel
theorem zl124 : z_chkC zk_L_law (z_LE zLT) zLC 1 3082 144 9169 16 2 z_ok1 zLC124 = true := by decide +kernel
theorem zl10 : z_chkC zk_L_law (z_LE zLT) zLC 1 3082 144 9169 16 2 z_ok1 zLC10 = true := by decide +kernel
theorem zl20 : z_chkC zk_L_law (z_LE zLT) zLC 1 3082 144 9169 16 2 z_ok1 zLC20 = true := by decide +kernel
theorem zl48 : z_chkC zk_L_law (z_LE zLT) zLC 1 3082 144 9169 16 2 z_ok1 zLC48 = true := by decide +kernel
theorem zl62 : z_chkC zk_L_law (z_LE zLT) zLC 1 3082 144 9169 16 2 z_ok1 zLC62 = true := by decide +kernel
theorem zl134 : z_chkC zk_L_law (z_LE zLT) zLC 1 3082 144 9169 16 2 z_ok1 zLC134 = true := by decide +kernel
theorem zl8 : z_chkC zk_L_law (z_LE zLT) zLC 1 3082 144 9169 16 2 z_ok1 zLC8 = true := by decide +kernel
theorem zl28 : z_chkC zk_L_law (z_LE zLT) zLC 1 3082 144 9169 16 2 z_ok1 zLC28 = true := by decide +kernel
theorem zl34 : z_chkC zk_L_law (z_LE zLT) zLC 1 3082 144 9169 16 2 z_ok1 zLC34 = true := by decide +kernel
theorem zl64 : z_chkC zk_L_law (z_LE zLT) zLC 1 3082 144 9169 16 2 z_ok1 zLC64 = true := by decide +kernel
theorem zl76 : z_chkC zk_L_law (z_LE zLT) zLC 1 3082 144 9169 16 2 z_ok1 zLC76 = true := by decide +kernel
theorem zl96 : z_chkC zk_L_law (z_LE zLT) zLC 1 3082 144 9169 16 2 z_ok1 zLC96 = true := by decide +kernel
theorem zl140 : z_chkC zk_L_law (z_LE zLT) zLC 1 3082 144 9169 16 2 z_ok1 zLC140 = true := by decide +kernel
theorem zl40 : z_chkC zk_L_law (z_LE zLT) zLC 1 3082 144 9169 16 2 z_ok1 zLC40 = true := by decide +kernel
theorem zl60 : z_chkC zk_L_law (z_LE zLT) zLC 1 3082 144 9169 16 2 z_ok1 zLC60 = true := by decide +kernel
theorem zl80 : z_chkC zk_L_law (z_LE zLT) zLC 1 3082 144 9169 16 2 z_ok1 zLC80 = true := by decide +kernel
theorem zl88 : z_chkC zk_L_law (z_LE zLT) zLC 1 3082 144 9169 16 2 z_ok1 zLC88 = true := by decide +kernel
theorem zl100 : z_chkC zk_L_law (z_LE zLT) zLC 1 3082 144 9169 16 2 z_ok1 zLC100 = true := by decide +kernel
