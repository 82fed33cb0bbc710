theorem sy_passM : sy_tp 12 293 [.ref 68, .float 1] sy_Sq 64 0 = some [(sy_PP, .inl (some (.float 1)), sy_Sr)] := by decide +kernel
