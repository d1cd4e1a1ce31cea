theorem zc_52 : z_cases 52 4 = true := by decide +kernel
theorem zc_56 : z_cases 56 4 = true := by decide +kernel
theorem zc_60 : z_cases 60 4 = true := by decide +kernel
theorem zc_64 : z_cases 64 4 = true := by decide +kernel
theorem zc_68 : z_cases 68 4 = true := by decide +kernel
theorem zc_72 : z_cases 72 4 = true := by decide +kernel
