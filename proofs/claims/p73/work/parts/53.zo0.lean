theorem zo245 : z_chkX (z_call z_PT zT245 14) zM_X10_readNext zX245 zC245 16 16 1 144 0 = true := by decide +kernel
