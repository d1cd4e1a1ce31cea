theorem zGK2c1 : z_chkG (z_call z_PT zGK2T 14) zM_X10_keptOf zGK2 zGK2S 16 8 144 1 zGK2C1 = true := by decide +kernel
theorem zGK3c5 : z_chkG (z_call z_PT zGK3T 14) zM_X10_keptOf zGK3 zGK3S 16 8 144 1 zGK3C5 = true := by decide +kernel
theorem zGK0c1 : z_chkG (z_call z_PT zGK0T 14) zM_X10_keptOf zGK0 zGK0S 16 8 144 1 zGK0C1 = true := by decide +kernel
theorem zGK0c5 : z_chkG (z_call z_PT zGK0T 14) zM_X10_keptOf zGK0 zGK0S 16 8 144 1 zGK0C5 = true := by decide +kernel
theorem zGL0n : z_chkN (z_callG zGK0 zGL0T 14) zM_X10_learns zGL0 zGL0S 16 2147483647 144 = true := by decide +kernel
theorem zGL1c1 : z_chkG (z_callG zGK1 zGL1T 14) zM_X10_learns zGL1 zGL1S 16 2147483647 144 3 zGL1C1 = true := by decide +kernel
theorem zGL2c5 : z_chkG (z_callG zGK2 zGL2T 14) zM_X10_learns zGL2 zGL2S 16 2147483647 144 3 zGL2C5 = true := by decide +kernel
theorem zGL4c1 : z_chkG (z_callG zGK4 zGL4T 14) zM_X10_learns zGL4 zGL4S 16 2147483647 144 3 zGL4C1 = true := by decide +kernel
theorem zGL5c1 : z_chkG (z_callG zGK5 zGL5T 14) zM_X10_learns zGL5 zGL5S 16 2147483647 144 3 zGL5C1 = true := by decide +kernel
theorem zGL3c9 : z_chkG (z_callG zGK3 zGL3T 14) zM_X10_learns zGL3 zGL3S 16 2147483647 144 3 zGL3C9 = true := by decide +kernel
theorem zGL1c10 : z_chkG (z_callG zGK1 zGL1T 14) zM_X10_learns zGL1 zGL1S 16 2147483647 144 3 zGL1C10 = true := by decide +kernel
