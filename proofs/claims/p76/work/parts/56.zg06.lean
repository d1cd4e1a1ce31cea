theorem zGK1c6 : z_chkG (z_call z_PT zGK1T 14) zM_X10_keptOf zGK1 zGK1S 16 8 144 1 zGK1C6 = true := by decide +kernel
theorem zGK3c2 : z_chkG (z_call z_PT zGK3T 14) zM_X10_keptOf zGK3 zGK3S 16 8 144 1 zGK3C2 = true := by decide +kernel
theorem zGK4c6 : z_chkG (z_call z_PT zGK4T 14) zM_X10_keptOf zGK4 zGK4S 16 8 144 1 zGK4C6 = true := by decide +kernel
theorem zGK5c6 : z_chkG (z_call z_PT zGK5T 14) zM_X10_keptOf zGK5 zGK5S 16 8 144 1 zGK5C6 = true := by decide +kernel
theorem zGK5n : z_chkN (z_call z_PT zGK5T 14) zM_X10_keptOf zGK5 zGK5S 16 8 144 = true := by decide +kernel
theorem zGL2c2 : z_chkG (z_callG zGK2 zGL2T 14) zM_X10_learns zGL2 zGL2S 16 2147483647 144 3 zGL2C2 = true := by decide +kernel
theorem zGL3c6 : z_chkG (z_callG zGK3 zGL3T 14) zM_X10_learns zGL3 zGL3S 16 2147483647 144 3 zGL3C6 = true := by decide +kernel
theorem zGL0c2 : z_chkG (z_callG zGK0 zGL0T 14) zM_X10_learns zGL0 zGL0S 16 2147483647 144 3 zGL0C2 = true := by decide +kernel
theorem zGL0c6 : z_chkG (z_callG zGK0 zGL0T 14) zM_X10_learns zGL0 zGL0S 16 2147483647 144 3 zGL0C6 = true := by decide +kernel
theorem zGL0c9 : z_chkG (z_callG zGK0 zGL0T 14) zM_X10_learns zGL0 zGL0S 16 2147483647 144 3 zGL0C9 = true := by decide +kernel
theorem zGL4c8 : z_chkG (z_callG zGK4 zGL4T 14) zM_X10_learns zGL4 zGL4S 16 2147483647 144 3 zGL4C8 = true := by decide +kernel
theorem zGK4c8 : z_chkG (z_call z_PT zGK4T 14) zM_X10_keptOf zGK4 zGK4S 16 8 144 1 zGK4C8 = true := by decide +kernel
