theorem zc_0 : z_cases 0 4 = true := by decide +kernel
theorem zc_4 : z_cases 4 4 = true := by decide +kernel
theorem zc_8 : z_cases 8 4 = true := by decide +kernel
theorem zc_12 : z_cases 12 4 = true := by decide +kernel
theorem zc_16 : z_cases 16 4 = true := by decide +kernel
theorem zc_20 : z_cases 20 4 = true := by decide +kernel
theorem zc_24 : z_cases 24 4 = true := by decide +kernel
