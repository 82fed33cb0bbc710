theorem sy_passX0 : sy_is1 (sy_tp 11 124 [.ref 4, .float 1] sy_S0 0 14) sy_PP (.float 1) sy_Sp = true := by decide +kernel
