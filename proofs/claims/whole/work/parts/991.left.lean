/-! WHAT IS LEFT. -/
theorem left (xs : List Int32) (h : xs.length ≤ 3584) : Left xs := left_all h
theorem law_every {xs : List Int32} (h : xs.length ≤ 3584) : ∃ (N n : Nat) (Sf : QS), q_run (q_pc qT (some xs) N 200) qM_L_law (some xs) n 0 [(0, .ref 0)] [] ([], 0, 0) = some (.inl (some (.int 1)), Sf) ∧ Sf.2.1 ≤ 545020 ∧ Sf.2.2 ≤ 7461044 := law_run (left xs h)
