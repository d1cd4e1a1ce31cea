theorem zGK1c4 : z_chkG (z_call z_PT zGK1T 14) zM_X10_keptOf zGK1 zGK1S 16 8 144 1 zGK1C4 = true := by decide +kernel
theorem zGK3c0 : z_chkG (z_call z_PT zGK3T 14) zM_X10_keptOf zGK3 zGK3S 16 8 144 1 zGK3C0 = true := by decide +kernel
theorem zGK4c4 : z_chkG (z_call z_PT zGK4T 14) zM_X10_keptOf zGK4 zGK4S 16 8 144 1 zGK4C4 = true := by decide +kernel
theorem zGK5c4 : z_chkG (z_call z_PT zGK5T 14) zM_X10_keptOf zGK5 zGK5S 16 8 144 1 zGK5C4 = true := by decide +kernel
theorem zGK4n : z_chkN (z_call z_PT zGK4T 14) zM_X10_keptOf zGK4 zGK4S 16 8 144 = true := by decide +kernel
theorem zGL2c0 : z_chkG (z_callG zGK2 zGL2T 14) zM_X10_learns zGL2 zGL2S 16 2147483647 144 3 zGL2C0 = true := by decide +kernel
theorem zGL3c4 : z_chkG (z_callG zGK3 zGL3T 14) zM_X10_learns zGL3 zGL3S 16 2147483647 144 3 zGL3C4 = true := by decide +kernel
theorem zGL0c0 : z_chkG (z_callG zGK0 zGL0T 14) zM_X10_learns zGL0 zGL0S 16 2147483647 144 3 zGL0C0 = true := by decide +kernel
theorem zGL0c4 : z_chkG (z_callG zGK0 zGL0T 14) zM_X10_learns zGL0 zGL0S 16 2147483647 144 3 zGL0C4 = true := by decide +kernel
theorem zGO1n : z_chkX (z_call z_PT zGO1T 14) zM_X10_learns zGO1 [] 16 16 1 144 0 = true := by decide +kernel
theorem zGK3c8 : z_chkG (z_call z_PT zGK3T 14) zM_X10_keptOf zGK3 zGK3S 16 8 144 1 zGK3C8 = true := by decide +kernel
