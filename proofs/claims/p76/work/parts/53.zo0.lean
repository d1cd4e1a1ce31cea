theorem zo247 : z_chkX (z_call z_PT zT247 14) zM_X10_readNext zX247 zC247 16 16 1 144 0 = true := by decide +kernel
