/-! THE LAW'S RUNS over scripts of seven ints, by the first int's last six bits: every way of the symbolic run ends with true, within the room. -/
def sy_P0 (lo hi l1 h1 : Nat) : SP := [(0, 4294967296), (l1, h1), (0, 4294967296), (0, 4294967296), (0, 4294967296), (0, 4294967296), (0, 4294967296), (2147483648 + lo, 2147483648 + hi)]
def sy_fine (n lo hi l1 h1 : Nat) : Bool := match sy_run (sy_pc qT 7 n 12) qM_L_law 7 n [] (sy_P0 lo hi l1 h1) 0 [(0, .ref 0)] [] ([], 0, 0) with
  | some l => l.all (fun q => decide (q.2.1 = .inl (some (.int 1))) && (Nat.ble q.2.2.2.1 600002 && Nat.ble q.2.2.2.2 7302232))
  | none => false
theorem sy_t1 : sy_fine 4000 1 8 0 4294967296 = true := by decide +kernel
theorem sy_t8 : sy_fine 4000 8 17 0 4294967296 = true := by decide +kernel
