/-! THE RUNS, III: every way of every first call but pass(1) to pass(100) ends with true, within the room. -/
def sy_P0 (lo hi l1 h1 l2 h2 : Nat) : SP := [(0, 4294967296), (l1, h1), (l2, h2), (0, 4294967296), (0, 4294967296), (0, 4294967296), (0, 4294967296), (2147483648 + lo, 2147483648 + hi)]
def sy_end (o : Option (List (SP × QO × QS))) : Bool := match o with
  | some l => l.all (fun q => decide (q.2.1 = .inl (some (.int 1))) && (Nat.ble q.2.2.2.1 600002 && Nat.ble q.2.2.2.2 7302232))
  | none => false
def sy_fine (lo hi l1 h1 l2 h2 : Nat) : Bool := sy_end (sy_run (sy_pc qT 7 30000 12) qM_L_law 7 300 [] (sy_P0 lo hi l1 h1 l2 h2) 23 sy_L0 [] sy_S0)
def sy_short (len : Nat) : Bool := sy_end (sy_run (sy_pc qT len 30000 12) qM_L_law len 300 [] [] 23 sy_L0 [] sy_S0)
theorem sy_shorts : (List.range 7).all sy_short = true := by decide +kernel
theorem sy_t0 : sy_fine 1 2 0 4294967296 0 4294967296 = true := by decide +kernel
theorem sy_t1 : sy_fine 2 3 0 2147483648 0 4294967296 = true := by decide +kernel
theorem sy_t2 : sy_fine 2 3 2147483648 2147483650 0 4294967296 = true := by decide +kernel
theorem sy_t3 : sy_fine 2 3 2147483650 2147483652 0 4294967296 = true := by decide +kernel
theorem sy_t4 : sy_fine 2 3 2147483652 4294967296 0 4294967296 = true := by decide +kernel
theorem sy_t5 : sy_fine 3 5 0 4294967296 0 4294967296 = true := by decide +kernel
theorem sy_t6 : sy_fine 5 17 0 4294967296 0 4294967296 = true := by decide +kernel
theorem sy_t7 : sy_fine 17 18 0 4294967296 0 4294967296 = true := by decide +kernel
theorem sy_t8 : sy_fine 18 24 0 4294967296 0 4294967296 = true := by decide +kernel
theorem sy_t9 : sy_fine 24 25 0 2147483649 0 4294967296 = true := by decide +kernel
theorem sy_t10 : sy_fine 24 25 2147483749 4294967296 0 4294967296 = true := by decide +kernel
theorem sy_t11 : sy_fine 25 31 0 4294967296 0 4294967296 = true := by decide +kernel
theorem sy_t12 : sy_fine 31 32 0 2147483650 0 4294967296 = true := by decide +kernel
