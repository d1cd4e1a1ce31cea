theorem zGK1c5 : z_chkG (z_call z_PT zGK1T 14) zM_X10_keptOf zGK1 zGK1S 16 8 144 1 zGK1C5 = true := by decide +kernel
theorem zGK3c1 : z_chkG (z_call z_PT zGK3T 14) zM_X10_keptOf zGK3 zGK3S 16 8 144 1 zGK3C1 = true := by decide +kernel
theorem zGK4c5 : z_chkG (z_call z_PT zGK4T 14) zM_X10_keptOf zGK4 zGK4S 16 8 144 1 zGK4C5 = true := by decide +kernel
theorem zGK5c5 : z_chkG (z_call z_PT zGK5T 14) zM_X10_keptOf zGK5 zGK5S 16 8 144 1 zGK5C5 = true := by decide +kernel
theorem zGL4n : z_chkN (z_callG zGK4 zGL4T 14) zM_X10_learns zGL4 zGL4S 16 2147483647 144 = true := by decide +kernel
theorem zGL2c1 : z_chkG (z_callG zGK2 zGL2T 14) zM_X10_learns zGL2 zGL2S 16 2147483647 144 3 zGL2C1 = true := by decide +kernel
theorem zGL3c5 : z_chkG (z_callG zGK3 zGL3T 14) zM_X10_learns zGL3 zGL3S 16 2147483647 144 3 zGL3C5 = true := by decide +kernel
theorem zGL0c1 : z_chkG (z_callG zGK0 zGL0T 14) zM_X10_learns zGL0 zGL0S 16 2147483647 144 3 zGL0C1 = true := by decide +kernel
theorem zGL0c5 : z_chkG (z_callG zGK0 zGL0T 14) zM_X10_learns zGL0 zGL0S 16 2147483647 144 3 zGL0C5 = true := by decide +kernel
theorem zGO0n : z_chkX (z_call z_PT zGO0T 14) zM_X10_learns zGO0 [] 16 16 1 144 0 = true := by decide +kernel
theorem zGK2c8 : z_chkG (z_call z_PT zGK2T 14) zM_X10_keptOf zGK2 zGK2S 16 8 144 1 zGK2C8 = true := by decide +kernel
