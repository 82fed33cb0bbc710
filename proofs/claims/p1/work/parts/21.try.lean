/-! try -/
def sy_run0 (n : Nat) : Option (Nat × Nat × Nat) := match sy_run (sy_pc qT 0 n 12) qM_L_law 0 n [] [] 0 [(0, .ref 0)] [] ([], 0, 0) with
  | some [(_, .inl (some (.int 1)), S)] => some (S.1.length, S.2.1, S.2.2)
  | _ => none
theorem sy_t0 : sy_run0 3000 = some (159, 159, 3216562) := by decide +kernel
