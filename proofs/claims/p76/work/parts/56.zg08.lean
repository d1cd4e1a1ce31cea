theorem zGK2c0 : z_chkG (z_call z_PT zGK2T 14) zM_X10_keptOf zGK2 zGK2S 16 8 144 1 zGK2C0 = true := by decide +kernel
theorem zGK3c4 : z_chkG (z_call z_PT zGK3T 14) zM_X10_keptOf zGK3 zGK3S 16 8 144 1 zGK3C4 = true := by decide +kernel
theorem zGK0c0 : z_chkG (z_call z_PT zGK0T 14) zM_X10_keptOf zGK0 zGK0S 16 8 144 1 zGK0C0 = true := by decide +kernel
theorem zGK0c4 : z_chkG (z_call z_PT zGK0T 14) zM_X10_keptOf zGK0 zGK0S 16 8 144 1 zGK0C4 = true := by decide +kernel
theorem zGK0n : z_chkN (z_call z_PT zGK0T 14) zM_X10_keptOf zGK0 zGK0S 16 8 144 = true := by decide +kernel
theorem zGL1c0 : z_chkG (z_callG zGK1 zGL1T 14) zM_X10_learns zGL1 zGL1S 16 2147483647 144 3 zGL1C0 = true := by decide +kernel
theorem zGL2c4 : z_chkG (z_callG zGK2 zGL2T 14) zM_X10_learns zGL2 zGL2S 16 2147483647 144 3 zGL2C4 = true := by decide +kernel
theorem zGL4c0 : z_chkG (z_callG zGK4 zGL4T 14) zM_X10_learns zGL4 zGL4S 16 2147483647 144 3 zGL4C0 = true := by decide +kernel
theorem zGL5c0 : z_chkG (z_callG zGK5 zGL5T 14) zM_X10_learns zGL5 zGL5S 16 2147483647 144 3 zGL5C0 = true := by decide +kernel
theorem zGL2c9 : z_chkG (z_callG zGK2 zGL2T 14) zM_X10_learns zGL2 zGL2S 16 2147483647 144 3 zGL2C9 = true := by decide +kernel
theorem zGL0c10 : z_chkG (z_callG zGK0 zGL0T 14) zM_X10_learns zGL0 zGL0S 16 2147483647 144 3 zGL0C10 = true := by decide +kernel
