theorem zGK2c2 : z_chkG (z_call z_PT zGK2T 14) zM_X10_keptOf zGK2 zGK2S 16 8 144 1 zGK2C2 = true := by decide +kernel
theorem zGK3c6 : z_chkG (z_call z_PT zGK3T 14) zM_X10_keptOf zGK3 zGK3S 16 8 144 1 zGK3C6 = true := by decide +kernel
theorem zGK0c2 : z_chkG (z_call z_PT zGK0T 14) zM_X10_keptOf zGK0 zGK0S 16 8 144 1 zGK0C2 = true := by decide +kernel
theorem zGK0c6 : z_chkG (z_call z_PT zGK0T 14) zM_X10_keptOf zGK0 zGK0S 16 8 144 1 zGK0C6 = true := by decide +kernel
theorem zGK1n : z_chkN (z_call z_PT zGK1T 14) zM_X10_keptOf zGK1 zGK1S 16 8 144 = true := by decide +kernel
theorem zGL1c2 : z_chkG (z_callG zGK1 zGL1T 14) zM_X10_learns zGL1 zGL1S 16 2147483647 144 3 zGL1C2 = true := by decide +kernel
theorem zGL2c6 : z_chkG (z_callG zGK2 zGL2T 14) zM_X10_learns zGL2 zGL2S 16 2147483647 144 3 zGL2C6 = true := by decide +kernel
theorem zGL4c2 : z_chkG (z_callG zGK4 zGL4T 14) zM_X10_learns zGL4 zGL4S 16 2147483647 144 3 zGL4C2 = true := by decide +kernel
theorem zGL5c2 : z_chkG (z_callG zGK5 zGL5T 14) zM_X10_learns zGL5 zGL5S 16 2147483647 144 3 zGL5C2 = true := by decide +kernel
theorem zGL4c9 : z_chkG (z_callG zGK4 zGL4T 14) zM_X10_learns zGL4 zGL4S 16 2147483647 144 3 zGL4C9 = true := by decide +kernel
theorem zGL2c10 : z_chkG (z_callG zGK2 zGL2T 14) zM_X10_learns zGL2 zGL2S 16 2147483647 144 3 zGL2C10 = true := by decide +kernel
