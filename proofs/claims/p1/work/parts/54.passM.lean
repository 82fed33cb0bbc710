theorem sy_passM0 : sy_is1 (sy_tp 12 293 [.ref 68, .float 1] sy_Sq 64 0) sy_PP (.float 1) sy_Sr = true := by decide +kernel
