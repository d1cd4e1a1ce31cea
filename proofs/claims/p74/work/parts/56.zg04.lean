theorem zGK1c4 : z_chkG (z_call z_PT zGK1T 14) zM_X10_keptOf zGK1 zGK1S 16 8 144 1 zGK1C4 = true := by decide +kernel
theorem zGK3c4 : z_chkG (z_call z_PT zGK3T 14) zM_X10_keptOf zGK3 zGK3S 16 8 144 1 zGK3C4 = true := by decide +kernel
theorem zGK0c4 : z_chkG (z_call z_PT zGK0T 14) zM_X10_keptOf zGK0 zGK0S 16 8 144 1 zGK0C4 = true := by decide +kernel
theorem zGK2n : z_chkN (z_call z_PT zGK2T 14) zM_X10_keptOf zGK2 zGK2S 16 8 144 = true := by decide +kernel
theorem zGL2c4 : z_chkG (z_callG zGK2 zGL2T 14) zM_X10_learns zGL2 zGL2S 16 2147483647 144 3 zGL2C4 = true := by decide +kernel
theorem zGL4c4 : z_chkG (z_callG zGK4 zGL4T 14) zM_X10_learns zGL4 zGL4S 16 2147483647 144 3 zGL4C4 = true := by decide +kernel
theorem zGO1n : z_chkX (z_call z_PT zGO1T 14) zM_X10_learns zGO1 [] 16 16 1 144 0 = true := by decide +kernel
theorem zGL3c8 : z_chkG (z_callG zGK3 zGL3T 14) zM_X10_learns zGL3 zGL3S 16 2147483647 144 3 zGL3C8 = true := by decide +kernel
theorem zGL3c10 : z_chkG (z_callG zGK3 zGL3T 14) zM_X10_learns zGL3 zGL3S 16 2147483647 144 3 zGL3C10 = true := by decide +kernel
