theorem zGK1c7 : z_chkG (z_call z_PT zGK1T 14) zM_X10_keptOf zGK1 zGK1S 16 8 144 1 zGK1C7 = true := by decide +kernel
theorem zGK3c3 : z_chkG (z_call z_PT zGK3T 14) zM_X10_keptOf zGK3 zGK3S 16 8 144 1 zGK3C3 = true := by decide +kernel
theorem zGK4c7 : z_chkG (z_call z_PT zGK4T 14) zM_X10_keptOf zGK4 zGK4S 16 8 144 1 zGK4C7 = true := by decide +kernel
theorem zGK5c7 : z_chkG (z_call z_PT zGK5T 14) zM_X10_keptOf zGK5 zGK5S 16 8 144 1 zGK5C7 = true := by decide +kernel
theorem zGL5n : z_chkN (z_callG zGK5 zGL5T 14) zM_X10_learns zGL5 zGL5S 16 2147483647 144 = true := by decide +kernel
theorem zGL2c3 : z_chkG (z_callG zGK2 zGL2T 14) zM_X10_learns zGL2 zGL2S 16 2147483647 144 3 zGL2C3 = true := by decide +kernel
theorem zGL3c7 : z_chkG (z_callG zGK3 zGL3T 14) zM_X10_learns zGL3 zGL3S 16 2147483647 144 3 zGL3C7 = true := by decide +kernel
theorem zGL0c3 : z_chkG (z_callG zGK0 zGL0T 14) zM_X10_learns zGL0 zGL0S 16 2147483647 144 3 zGL0C3 = true := by decide +kernel
theorem zGL0c7 : z_chkG (z_callG zGK0 zGL0T 14) zM_X10_learns zGL0 zGL0S 16 2147483647 144 3 zGL0C7 = true := by decide +kernel
theorem zGL1c9 : z_chkG (z_callG zGK1 zGL1T 14) zM_X10_learns zGL1 zGL1S 16 2147483647 144 3 zGL1C9 = true := by decide +kernel
theorem zGL5c8 : z_chkG (z_callG zGK5 zGL5T 14) zM_X10_learns zGL5 zGL5S 16 2147483647 144 3 zGL5C8 = true := by decide +kernel
theorem zGK5c8 : z_chkG (z_call z_PT zGK5T 14) zM_X10_keptOf zGK5 zGK5S 16 8 144 1 zGK5C8 = true := by decide +kernel
