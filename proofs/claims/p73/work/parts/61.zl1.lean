theorem zl144 : z_chkC zk_L_law (z_LE zLT) zLC 1 3082 144 9169 16 2 z_ok1 zLC144 = true := by decide +kernel
