theorem sy_passX : sy_tp 11 124 [.ref 4, .float 1] sy_S0 0 14 = some [(sy_PP, .inl (some (.float 1)), sy_Sp)] := by decide +kernel
