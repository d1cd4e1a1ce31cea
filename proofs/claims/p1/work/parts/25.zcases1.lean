theorem zc_28 : z_cases 28 4 = true := by decide +kernel
theorem zc_32 : z_cases 32 4 = true := by decide +kernel
theorem zc_36 : z_cases 36 4 = true := by decide +kernel
theorem zc_40 : z_cases 40 4 = true := by decide +kernel
theorem zc_44 : z_cases 44 4 = true := by decide +kernel
theorem zc_48 : z_cases 48 4 = true := by decide +kernel
