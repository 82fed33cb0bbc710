theorem sy_t31 : sy_fine 4000 31 34 0 4294967296 = true := by decide +kernel
theorem sy_t34 : sy_fine 4000 34 64 0 4294967296 = true := by decide +kernel
theorem sy_t0 : sy_fine 4000 0 1 0 4294967296 = true := by decide +kernel
