theorem zo248 : z_chkX (z_call z_PT zT248 14) zM_X10_readNext zX248 zC248 16 16 1 144 0 = true := by decide +kernel
