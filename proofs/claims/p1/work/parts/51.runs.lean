theorem sy_t17 : sy_fine 4000 17 18 0 4294967296 = true := by decide +kernel
theorem sy_t18 : sy_fine 4000 18 24 0 4294967296 = true := by decide +kernel
theorem sy_t25 : sy_fine 4000 25 31 0 4294967296 = true := by decide +kernel
