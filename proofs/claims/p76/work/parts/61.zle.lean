theorem zl_e : z_chkE [] zLC 3082 144 9169 16 = true := by decide +kernel
