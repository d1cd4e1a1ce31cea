theorem zGK1c0 : z_chkG (z_call z_PT zGK1T 14) zM_X10_keptOf zGK1 zGK1S 16 8 144 1 zGK1C0 = true := by decide +kernel
theorem zGK2c4 : z_chkG (z_call z_PT zGK2T 14) zM_X10_keptOf zGK2 zGK2S 16 8 144 1 zGK2C4 = true := by decide +kernel
theorem zGK4c0 : z_chkG (z_call z_PT zGK4T 14) zM_X10_keptOf zGK4 zGK4S 16 8 144 1 zGK4C0 = true := by decide +kernel
theorem zGK5c0 : z_chkG (z_call z_PT zGK5T 14) zM_X10_keptOf zGK5 zGK5S 16 8 144 1 zGK5C0 = true := by decide +kernel
theorem zGK2n : z_chkN (z_call z_PT zGK2T 14) zM_X10_keptOf zGK2 zGK2S 16 8 144 = true := by decide +kernel
theorem zGL1c4 : z_chkG (z_callG zGK1 zGL1T 14) zM_X10_learns zGL1 zGL1S 16 2147483647 144 3 zGL1C4 = true := by decide +kernel
theorem zGL3c0 : z_chkG (z_callG zGK3 zGL3T 14) zM_X10_learns zGL3 zGL3S 16 2147483647 144 3 zGL3C0 = true := by decide +kernel
theorem zGL4c4 : z_chkG (z_callG zGK4 zGL4T 14) zM_X10_learns zGL4 zGL4S 16 2147483647 144 3 zGL4C4 = true := by decide +kernel
theorem zGL5c4 : z_chkG (z_callG zGK5 zGL5T 14) zM_X10_learns zGL5 zGL5S 16 2147483647 144 3 zGL5C4 = true := by decide +kernel
theorem zGL0c8 : z_chkG (z_callG zGK0 zGL0T 14) zM_X10_learns zGL0 zGL0S 16 2147483647 144 3 zGL0C8 = true := by decide +kernel
theorem zGL4c10 : z_chkG (z_callG zGK4 zGL4T 14) zM_X10_learns zGL4 zGL4S 16 2147483647 144 3 zGL4C10 = true := by decide +kernel
