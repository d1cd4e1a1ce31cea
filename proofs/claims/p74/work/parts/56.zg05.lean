theorem zGK1c5 : z_chkG (z_call z_PT zGK1T 14) zM_X10_keptOf zGK1 zGK1S 16 8 144 1 zGK1C5 = true := by decide +kernel
theorem zGK3c5 : z_chkG (z_call z_PT zGK3T 14) zM_X10_keptOf zGK3 zGK3S 16 8 144 1 zGK3C5 = true := by decide +kernel
theorem zGK0c5 : z_chkG (z_call z_PT zGK0T 14) zM_X10_keptOf zGK0 zGK0S 16 8 144 1 zGK0C5 = true := by decide +kernel
theorem zGL2n : z_chkN (z_callG zGK2 zGL2T 14) zM_X10_learns zGL2 zGL2S 16 2147483647 144 = true := by decide +kernel
theorem zGL2c5 : z_chkG (z_callG zGK2 zGL2T 14) zM_X10_learns zGL2 zGL2S 16 2147483647 144 3 zGL2C5 = true := by decide +kernel
theorem zGL4c5 : z_chkG (z_callG zGK4 zGL4T 14) zM_X10_learns zGL4 zGL4S 16 2147483647 144 3 zGL4C5 = true := by decide +kernel
theorem zGO0n : z_chkX (z_call z_PT zGO0T 14) zM_X10_learns zGO0 [] 16 16 1 144 0 = true := by decide +kernel
theorem zGL2c8 : z_chkG (z_callG zGK2 zGL2T 14) zM_X10_learns zGL2 zGL2S 16 2147483647 144 3 zGL2C8 = true := by decide +kernel
theorem zGL2c10 : z_chkG (z_callG zGK2 zGL2T 14) zM_X10_learns zGL2 zGL2S 16 2147483647 144 3 zGL2C10 = true := by decide +kernel
