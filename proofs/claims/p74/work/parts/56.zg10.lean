theorem zGK2c2 : z_chkG (z_call z_PT zGK2T 14) zM_X10_keptOf zGK2 zGK2S 16 8 144 1 zGK2C2 = true := by decide +kernel
theorem zGK4c2 : z_chkG (z_call z_PT zGK4T 14) zM_X10_keptOf zGK4 zGK4S 16 8 144 1 zGK4C2 = true := by decide +kernel
theorem zGK5c2 : z_chkG (z_call z_PT zGK5T 14) zM_X10_keptOf zGK5 zGK5S 16 8 144 1 zGK5C2 = true := by decide +kernel
theorem zGK5n : z_chkN (z_call z_PT zGK5T 14) zM_X10_keptOf zGK5 zGK5S 16 8 144 = true := by decide +kernel
theorem zGL3c2 : z_chkG (z_callG zGK3 zGL3T 14) zM_X10_learns zGL3 zGL3S 16 2147483647 144 3 zGL3C2 = true := by decide +kernel
theorem zGL0c2 : z_chkG (z_callG zGK0 zGL0T 14) zM_X10_learns zGL0 zGL0S 16 2147483647 144 3 zGL0C2 = true := by decide +kernel
theorem zGL5c2 : z_chkG (z_callG zGK5 zGL5T 14) zM_X10_learns zGL5 zGL5S 16 2147483647 144 3 zGL5C2 = true := by decide +kernel
theorem zGK2c8 : z_chkG (z_call z_PT zGK2T 14) zM_X10_keptOf zGK2 zGK2S 16 8 144 1 zGK2C8 = true := by decide +kernel
