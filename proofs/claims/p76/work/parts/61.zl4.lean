theorem zl150_2 : z_ckK zk_L_law (z_LE zLT) zLC 1 3082 144 9169 16 z_ok1 20 10 zLC150 = true := by decide +kernel
theorem zl151_2 : z_ckK zk_L_law (z_LE zLT) zLC 1 3082 144 9169 16 z_ok1 20 10 zLC151 = true := by decide +kernel
theorem zl128 : z_chkC zk_L_law (z_LE zLT) zLC 1 3082 144 9169 16 2 z_ok1 zLC128 = true := by decide +kernel
theorem zl120 : z_chkC zk_L_law (z_LE zLT) zLC 1 3082 144 9169 16 2 z_ok1 zLC120 = true := by decide +kernel
theorem zl36 : z_chkC zk_L_law (z_LE zLT) zLC 1 3082 144 9169 16 2 z_ok1 zLC36 = true := by decide +kernel
theorem zl112 : z_chkC zk_L_law (z_LE zLT) zLC 1 3082 144 9169 16 2 z_ok1 zLC112 = true := by decide +kernel
theorem zl136 : z_chkC zk_L_law (z_LE zLT) zLC 1 3082 144 9169 16 2 z_ok1 zLC136 = true := by decide +kernel
theorem zl14 : z_chkC zk_L_law (z_LE zLT) zLC 1 3082 144 9169 16 2 z_ok1 zLC14 = true := by decide +kernel
theorem zl26 : z_chkC zk_L_law (z_LE zLT) zLC 1 3082 144 9169 16 2 z_ok1 zLC26 = true := by decide +kernel
theorem zl54 : z_chkC zk_L_law (z_LE zLT) zLC 1 3082 144 9169 16 2 z_ok1 zLC54 = true := by decide +kernel
theorem zl118 : z_chkC zk_L_law (z_LE zLT) zLC 1 3082 144 9169 16 2 z_ok1 zLC118 = true := by decide +kernel
theorem zl4 : z_chkC zk_L_law (z_LE zLT) zLC 1 3082 144 9169 16 2 z_ok1 zLC4 = true := by decide +kernel
theorem zl16 : z_chkC zk_L_law (z_LE zLT) zLC 1 3082 144 9169 16 2 z_ok1 zLC16 = true := by decide +kernel
theorem zl30 : z_chkC zk_L_law (z_LE zLT) zLC 1 3082 144 9169 16 2 z_ok1 zLC30 = true := by decide +kernel
theorem zl38 : z_chkC zk_L_law (z_LE zLT) zLC 1 3082 144 9169 16 2 z_ok1 zLC38 = true := by decide +kernel
theorem zl66 : z_chkC zk_L_law (z_LE zLT) zLC 1 3082 144 9169 16 2 z_ok1 zLC66 = true := by decide +kernel
theorem zl84 : z_chkC zk_L_law (z_LE zLT) zLC 1 3082 144 9169 16 2 z_ok1 zLC84 = true := by decide +kernel
theorem zl98 : z_chkC zk_L_law (z_LE zLT) zLC 1 3082 144 9169 16 2 z_ok1 zLC98 = true := by decide +kernel
theorem zl6 : z_chkC zk_L_law (z_LE zLT) zLC 1 3082 144 9169 16 2 z_ok1 zLC6 = true := by decide +kernel
theorem zl44 : z_chkC zk_L_law (z_LE zLT) zLC 1 3082 144 9169 16 2 z_ok1 zLC44 = true := by decide +kernel
theorem zl78 : z_chkC zk_L_law (z_LE zLT) zLC 1 3082 144 9169 16 2 z_ok1 zLC78 = true := by decide +kernel
theorem zl86 : z_chkC zk_L_law (z_LE zLT) zLC 1 3082 144 9169 16 2 z_ok1 zLC86 = true := by decide +kernel
theorem zl92 : z_chkC zk_L_law (z_LE zLT) zLC 1 3082 144 9169 16 2 z_ok1 zLC92 = true := by decide +kernel
theorem zl150_t : z_ckT 1 3082 2 zLC150 = true := by decide +kernel
