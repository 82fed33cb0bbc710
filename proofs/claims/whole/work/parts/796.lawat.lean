/-! THE LAW: which step. -/
section LWR
variable {m m' : MM} {xs : List Int32} {y : Int} {f : Nat}
theorem sln_e (h : xs.length ≤ 3584) : sln xs = (xs.length : Int) := by
  unfold sln
  rw [Int32.toInt_ofNat_of_lt (by omega)]
theorem law_go (hlen : xs.length ≤ 3584) (hy : 0 ≤ y ∧ y + 7 ≤ (xs.length : Int)) : ¬ w32 ((sln xs) - 7) < y ∧ (0 ≤ y ∧ y < (xs.length : Int)) := by
  rw [sln_e hlen, w32_id (by omega) (by omega)]
  omega
theorem law_at_0 (hlen : xs.length ≤ 3584) (hy : 0 ≤ y ∧ y + 7 ≤ (xs.length : Int)) (h : iAnd (scr xs y) 63 = 0) : fl_L_law_23 xs (f + 1) y m = fj_L_law_204 xs (fl_L_law_23 xs f) y m := by
  obtain ⟨g1, g2⟩ := law_go hlen hy
  rw [fl_L_law_23, if_neg g1, gd_t g2]
  simp only [h]
  rfl
theorem law_at_1 (hlen : xs.length ≤ 3584) (hy : 0 ≤ y ∧ y + 7 ≤ (xs.length : Int)) (h : iAnd (scr xs y) 63 = 1) : fl_L_law_23 xs (f + 1) y m = fj_L_law_296 xs (fl_L_law_23 xs f) y m := by
  obtain ⟨g1, g2⟩ := law_go hlen hy
  rw [fl_L_law_23, if_neg g1, gd_t g2]
  simp only [h]
  rfl
theorem law_at_2 (hlen : xs.length ≤ 3584) (hy : 0 ≤ y ∧ y + 7 ≤ (xs.length : Int)) (h : iAnd (scr xs y) 63 = 2) : fl_L_law_23 xs (f + 1) y m = fj_L_law_352 xs (fl_L_law_23 xs f) y m := by
  obtain ⟨g1, g2⟩ := law_go hlen hy
  rw [fl_L_law_23, if_neg g1, gd_t g2]
  simp only [h]
  rfl
theorem law_at_3 (hlen : xs.length ≤ 3584) (hy : 0 ≤ y ∧ y + 7 ≤ (xs.length : Int)) (h : iAnd (scr xs y) 63 = 3) : fl_L_law_23 xs (f + 1) y m = fj_L_law_450 xs (fl_L_law_23 xs f) y m := by
  obtain ⟨g1, g2⟩ := law_go hlen hy
  rw [fl_L_law_23, if_neg g1, gd_t g2]
  simp only [h]
  rfl
theorem law_at_4 (hlen : xs.length ≤ 3584) (hy : 0 ≤ y ∧ y + 7 ≤ (xs.length : Int)) (h : iAnd (scr xs y) 63 = 4) : fl_L_law_23 xs (f + 1) y m = fj_L_law_518 xs (fl_L_law_23 xs f) y m := by
  obtain ⟨g1, g2⟩ := law_go hlen hy
  rw [fl_L_law_23, if_neg g1, gd_t g2]
  simp only [h]
  rfl
theorem law_at_5 (hlen : xs.length ≤ 3584) (hy : 0 ≤ y ∧ y + 7 ≤ (xs.length : Int)) (h : iAnd (scr xs y) 63 = 5) : fl_L_law_23 xs (f + 1) y m = fj_L_law_598 xs (fl_L_law_23 xs f) y m := by
  obtain ⟨g1, g2⟩ := law_go hlen hy
  rw [fl_L_law_23, if_neg g1, gd_t g2]
  simp only [h]
  rfl
theorem law_at_6 (hlen : xs.length ≤ 3584) (hy : 0 ≤ y ∧ y + 7 ≤ (xs.length : Int)) (h : iAnd (scr xs y) 63 = 6) : fl_L_law_23 xs (f + 1) y m = fj_L_law_678 xs (fl_L_law_23 xs f) y m := by
  obtain ⟨g1, g2⟩ := law_go hlen hy
  rw [fl_L_law_23, if_neg g1, gd_t g2]
  simp only [h]
  rfl
theorem law_at_7 (hlen : xs.length ≤ 3584) (hy : 0 ≤ y ∧ y + 7 ≤ (xs.length : Int)) (h : iAnd (scr xs y) 63 = 7) : fl_L_law_23 xs (f + 1) y m = fj_L_law_765 xs (fl_L_law_23 xs f) y m := by
  obtain ⟨g1, g2⟩ := law_go hlen hy
  rw [fl_L_law_23, if_neg g1, gd_t g2]
  simp only [h]
  rfl
theorem law_at_8 (hlen : xs.length ≤ 3584) (hy : 0 ≤ y ∧ y + 7 ≤ (xs.length : Int)) (h : iAnd (scr xs y) 63 = 8) : fl_L_law_23 xs (f + 1) y m = fj_L_law_828 xs (fl_L_law_23 xs f) y m := by
  obtain ⟨g1, g2⟩ := law_go hlen hy
  rw [fl_L_law_23, if_neg g1, gd_t g2]
  simp only [h]
  rfl
theorem law_at_9 (hlen : xs.length ≤ 3584) (hy : 0 ≤ y ∧ y + 7 ≤ (xs.length : Int)) (h : iAnd (scr xs y) 63 = 9) : fl_L_law_23 xs (f + 1) y m = fj_L_law_896 xs (fl_L_law_23 xs f) y m := by
  obtain ⟨g1, g2⟩ := law_go hlen hy
  rw [fl_L_law_23, if_neg g1, gd_t g2]
  simp only [h]
  rfl
theorem law_at_10 (hlen : xs.length ≤ 3584) (hy : 0 ≤ y ∧ y + 7 ≤ (xs.length : Int)) (h : iAnd (scr xs y) 63 = 10) : fl_L_law_23 xs (f + 1) y m = fj_L_law_964 xs (fl_L_law_23 xs f) y m := by
  obtain ⟨g1, g2⟩ := law_go hlen hy
  rw [fl_L_law_23, if_neg g1, gd_t g2]
  simp only [h]
  rfl
theorem law_at_11 (hlen : xs.length ≤ 3584) (hy : 0 ≤ y ∧ y + 7 ≤ (xs.length : Int)) (h : iAnd (scr xs y) 63 = 11) : fl_L_law_23 xs (f + 1) y m = fj_L_law_1020 xs (fl_L_law_23 xs f) y m := by
  obtain ⟨g1, g2⟩ := law_go hlen hy
  rw [fl_L_law_23, if_neg g1, gd_t g2]
  simp only [h]
  rfl
theorem law_at_12 (hlen : xs.length ≤ 3584) (hy : 0 ≤ y ∧ y + 7 ≤ (xs.length : Int)) (h : iAnd (scr xs y) 63 = 12) : fl_L_law_23 xs (f + 1) y m = fj_L_law_1088 xs (fl_L_law_23 xs f) y m := by
  obtain ⟨g1, g2⟩ := law_go hlen hy
  rw [fl_L_law_23, if_neg g1, gd_t g2]
  simp only [h]
  rfl
theorem law_at_13 (hlen : xs.length ≤ 3584) (hy : 0 ≤ y ∧ y + 7 ≤ (xs.length : Int)) (h : iAnd (scr xs y) 63 = 13) : fl_L_law_23 xs (f + 1) y m = fj_L_law_1144 xs (fl_L_law_23 xs f) y m := by
  obtain ⟨g1, g2⟩ := law_go hlen hy
  rw [fl_L_law_23, if_neg g1, gd_t g2]
  simp only [h]
  rfl
theorem law_at_14 (hlen : xs.length ≤ 3584) (hy : 0 ≤ y ∧ y + 7 ≤ (xs.length : Int)) (h : iAnd (scr xs y) 63 = 14) : fl_L_law_23 xs (f + 1) y m = fj_L_law_1157 xs (fl_L_law_23 xs f) y m := by
  obtain ⟨g1, g2⟩ := law_go hlen hy
  rw [fl_L_law_23, if_neg g1, gd_t g2]
  simp only [h]
  rfl
theorem law_at_15 (hlen : xs.length ≤ 3584) (hy : 0 ≤ y ∧ y + 7 ≤ (xs.length : Int)) (h : iAnd (scr xs y) 63 = 15) : fl_L_law_23 xs (f + 1) y m = fj_L_law_1213 xs (fl_L_law_23 xs f) y m := by
  obtain ⟨g1, g2⟩ := law_go hlen hy
  rw [fl_L_law_23, if_neg g1, gd_t g2]
  simp only [h]
  rfl
theorem law_at_16 (hlen : xs.length ≤ 3584) (hy : 0 ≤ y ∧ y + 7 ≤ (xs.length : Int)) (h : iAnd (scr xs y) 63 = 16) : fl_L_law_23 xs (f + 1) y m = fj_L_law_1269 xs (fl_L_law_23 xs f) y m := by
  obtain ⟨g1, g2⟩ := law_go hlen hy
  rw [fl_L_law_23, if_neg g1, gd_t g2]
  simp only [h]
  rfl
theorem law_at_17 (hlen : xs.length ≤ 3584) (hy : 0 ≤ y ∧ y + 7 ≤ (xs.length : Int)) (h : iAnd (scr xs y) 63 = 17) : fl_L_law_23 xs (f + 1) y m = fj_L_law_1325 xs (fl_L_law_23 xs f) y m := by
  obtain ⟨g1, g2⟩ := law_go hlen hy
  rw [fl_L_law_23, if_neg g1, gd_t g2]
  simp only [h]
  rfl
theorem law_at_18 (hlen : xs.length ≤ 3584) (hy : 0 ≤ y ∧ y + 7 ≤ (xs.length : Int)) (h : iAnd (scr xs y) 63 = 18) : fl_L_law_23 xs (f + 1) y m = fj_L_law_1381 xs (fl_L_law_23 xs f) y m := by
  obtain ⟨g1, g2⟩ := law_go hlen hy
  rw [fl_L_law_23, if_neg g1, gd_t g2]
  simp only [h]
  rfl
theorem law_at_19 (hlen : xs.length ≤ 3584) (hy : 0 ≤ y ∧ y + 7 ≤ (xs.length : Int)) (h : iAnd (scr xs y) 63 = 19) : fl_L_law_23 xs (f + 1) y m = fj_L_law_1437 xs (fl_L_law_23 xs f) y m := by
  obtain ⟨g1, g2⟩ := law_go hlen hy
  rw [fl_L_law_23, if_neg g1, gd_t g2]
  simp only [h]
  rfl
theorem law_at_20 (hlen : xs.length ≤ 3584) (hy : 0 ≤ y ∧ y + 7 ≤ (xs.length : Int)) (h : iAnd (scr xs y) 63 = 20) : fl_L_law_23 xs (f + 1) y m = fj_L_law_1493 xs (fl_L_law_23 xs f) y m := by
  obtain ⟨g1, g2⟩ := law_go hlen hy
  rw [fl_L_law_23, if_neg g1, gd_t g2]
  simp only [h]
  rfl
theorem law_at_21 (hlen : xs.length ≤ 3584) (hy : 0 ≤ y ∧ y + 7 ≤ (xs.length : Int)) (h : iAnd (scr xs y) 63 = 21) : fl_L_law_23 xs (f + 1) y m = fj_L_law_1568 xs (fl_L_law_23 xs f) y m := by
  obtain ⟨g1, g2⟩ := law_go hlen hy
  rw [fl_L_law_23, if_neg g1, gd_t g2]
  simp only [h]
  rfl
theorem law_at_22 (hlen : xs.length ≤ 3584) (hy : 0 ≤ y ∧ y + 7 ≤ (xs.length : Int)) (h : iAnd (scr xs y) 63 = 22) : fl_L_law_23 xs (f + 1) y m = fj_L_law_1659 xs (fl_L_law_23 xs f) y m := by
  obtain ⟨g1, g2⟩ := law_go hlen hy
  rw [fl_L_law_23, if_neg g1, gd_t g2]
  simp only [h]
  rfl
theorem law_at_23 (hlen : xs.length ≤ 3584) (hy : 0 ≤ y ∧ y + 7 ≤ (xs.length : Int)) (h : iAnd (scr xs y) 63 = 23) : fl_L_law_23 xs (f + 1) y m = fj_L_law_1727 xs (fl_L_law_23 xs f) y m := by
  obtain ⟨g1, g2⟩ := law_go hlen hy
  rw [fl_L_law_23, if_neg g1, gd_t g2]
  simp only [h]
  rfl
theorem law_at_24 (hlen : xs.length ≤ 3584) (hy : 0 ≤ y ∧ y + 7 ≤ (xs.length : Int)) (h : iAnd (scr xs y) 63 = 24) : fl_L_law_23 xs (f + 1) y m = fj_L_law_1783 xs (fl_L_law_23 xs f) y m := by
  obtain ⟨g1, g2⟩ := law_go hlen hy
  rw [fl_L_law_23, if_neg g1, gd_t g2]
  simp only [h]
  rfl
theorem law_at_25 (hlen : xs.length ≤ 3584) (hy : 0 ≤ y ∧ y + 7 ≤ (xs.length : Int)) (h : iAnd (scr xs y) 63 = 25) : fl_L_law_23 xs (f + 1) y m = fj_L_law_1839 xs (fl_L_law_23 xs f) y m := by
  obtain ⟨g1, g2⟩ := law_go hlen hy
  rw [fl_L_law_23, if_neg g1, gd_t g2]
  simp only [h]
  rfl
theorem law_at_26 (hlen : xs.length ≤ 3584) (hy : 0 ≤ y ∧ y + 7 ≤ (xs.length : Int)) (h : iAnd (scr xs y) 63 = 26) : fl_L_law_23 xs (f + 1) y m = fj_L_law_1907 xs (fl_L_law_23 xs f) y m := by
  obtain ⟨g1, g2⟩ := law_go hlen hy
  rw [fl_L_law_23, if_neg g1, gd_t g2]
  simp only [h]
  rfl
theorem law_at_27 (hlen : xs.length ≤ 3584) (hy : 0 ≤ y ∧ y + 7 ≤ (xs.length : Int)) (h : iAnd (scr xs y) 63 = 27) : fl_L_law_23 xs (f + 1) y m = fj_L_law_1982 xs (fl_L_law_23 xs f) y m := by
  obtain ⟨g1, g2⟩ := law_go hlen hy
  rw [fl_L_law_23, if_neg g1, gd_t g2]
  simp only [h]
  rfl
theorem law_at_28 (hlen : xs.length ≤ 3584) (hy : 0 ≤ y ∧ y + 7 ≤ (xs.length : Int)) (h : iAnd (scr xs y) 63 = 28) : fl_L_law_23 xs (f + 1) y m = fj_L_law_2050 xs (fl_L_law_23 xs f) y m := by
  obtain ⟨g1, g2⟩ := law_go hlen hy
  rw [fl_L_law_23, if_neg g1, gd_t g2]
  simp only [h]
  rfl
theorem law_at_29 (hlen : xs.length ≤ 3584) (hy : 0 ≤ y ∧ y + 7 ≤ (xs.length : Int)) (h : iAnd (scr xs y) 63 = 29) : fl_L_law_23 xs (f + 1) y m = fj_L_law_2118 xs (fl_L_law_23 xs f) y m := by
  obtain ⟨g1, g2⟩ := law_go hlen hy
  rw [fl_L_law_23, if_neg g1, gd_t g2]
  simp only [h]
  rfl
theorem law_at_30 (hlen : xs.length ≤ 3584) (hy : 0 ≤ y ∧ y + 7 ≤ (xs.length : Int)) (h : iAnd (scr xs y) 63 = 30) : fl_L_law_23 xs (f + 1) y m = fj_L_law_2162 xs (fl_L_law_23 xs f) y m := by
  obtain ⟨g1, g2⟩ := law_go hlen hy
  rw [fl_L_law_23, if_neg g1, gd_t g2]
  simp only [h]
  rfl
theorem law_at_31 (hlen : xs.length ≤ 3584) (hy : 0 ≤ y ∧ y + 7 ≤ (xs.length : Int)) (h : iAnd (scr xs y) 63 = 31) : fl_L_law_23 xs (f + 1) y m = fj_L_law_2206 xs (fl_L_law_23 xs f) y m := by
  obtain ⟨g1, g2⟩ := law_go hlen hy
  rw [fl_L_law_23, if_neg g1, gd_t g2]
  simp only [h]
  rfl
theorem law_at_32 (hlen : xs.length ≤ 3584) (hy : 0 ≤ y ∧ y + 7 ≤ (xs.length : Int)) (h : iAnd (scr xs y) 63 = 32) : fl_L_law_23 xs (f + 1) y m = fj_L_law_2298 xs (fl_L_law_23 xs f) y m := by
  obtain ⟨g1, g2⟩ := law_go hlen hy
  rw [fl_L_law_23, if_neg g1, gd_t g2]
  simp only [h]
  rfl
theorem law_at_33 (hlen : xs.length ≤ 3584) (hy : 0 ≤ y ∧ y + 7 ≤ (xs.length : Int)) (h : iAnd (scr xs y) 63 = 33) : fl_L_law_23 xs (f + 1) y m = fj_L_law_2361 xs (fl_L_law_23 xs f) y m := by
  obtain ⟨g1, g2⟩ := law_go hlen hy
  rw [fl_L_law_23, if_neg g1, gd_t g2]
  simp only [h]
  rfl
theorem law_at_34 (hlen : xs.length ≤ 3584) (hy : 0 ≤ y ∧ y + 7 ≤ (xs.length : Int)) (h : iAnd (scr xs y) 63 = 34) : fl_L_law_23 xs (f + 1) y m = fj_L_law_2429 xs (fl_L_law_23 xs f) y m := by
  obtain ⟨g1, g2⟩ := law_go hlen hy
  rw [fl_L_law_23, if_neg g1, gd_t g2]
  simp only [h]
  rfl
theorem law_at_35 (hlen : xs.length ≤ 3584) (hy : 0 ≤ y ∧ y + 7 ≤ (xs.length : Int)) (h : iAnd (scr xs y) 63 = 35) : fl_L_law_23 xs (f + 1) y m = fj_L_law_2485 xs (fl_L_law_23 xs f) y m := by
  obtain ⟨g1, g2⟩ := law_go hlen hy
  rw [fl_L_law_23, if_neg g1, gd_t g2]
  simp only [h]
  rfl
theorem law_at_36 (hlen : xs.length ≤ 3584) (hy : 0 ≤ y ∧ y + 7 ≤ (xs.length : Int)) (h : iAnd (scr xs y) 63 = 36) : fl_L_law_23 xs (f + 1) y m = fj_L_law_2541 xs (fl_L_law_23 xs f) y m := by
  obtain ⟨g1, g2⟩ := law_go hlen hy
  rw [fl_L_law_23, if_neg g1, gd_t g2]
  simp only [h]
  rfl
theorem law_at_no (hlen : xs.length ≤ 3584) (hy : 0 ≤ y ∧ y + 7 ≤ (xs.length : Int)) (h : ∀ j : Int, 0 ≤ j → j ≤ 36 → iAnd (scr xs y) 63 ≠ j) : fl_L_law_23 xs (f + 1) y m = fl_L_law_23 xs f (y + 7) m := by
  obtain ⟨g1, g2⟩ := law_go hlen hy
  rw [fl_L_law_23, if_neg g1, gd_t g2, if_neg (h 0 (by decide) (by decide)), if_neg (h 1 (by decide) (by decide)), if_neg (h 2 (by decide) (by decide)), if_neg (h 3 (by decide) (by decide)), if_neg (h 4 (by decide) (by decide)), if_neg (h 5 (by decide) (by decide)), if_neg (h 6 (by decide) (by decide)), if_neg (h 7 (by decide) (by decide)), if_neg (h 8 (by decide) (by decide)), if_neg (h 9 (by decide) (by decide)), if_neg (h 10 (by decide) (by decide)), if_neg (h 11 (by decide) (by decide)), if_neg (h 12 (by decide) (by decide)), if_neg (h 13 (by decide) (by decide)), if_neg (h 14 (by decide) (by decide)), if_neg (h 15 (by decide) (by decide)), if_neg (h 16 (by decide) (by decide)), if_neg (h 17 (by decide) (by decide)), if_neg (h 18 (by decide) (by decide)), if_neg (h 19 (by decide) (by decide)), if_neg (h 20 (by decide) (by decide)), if_neg (h 21 (by decide) (by decide)), if_neg (h 22 (by decide) (by decide)), if_neg (h 23 (by decide) (by decide)), if_neg (h 24 (by decide) (by decide)), if_neg (h 25 (by decide) (by decide)), if_neg (h 26 (by decide) (by decide)), if_neg (h 27 (by decide) (by decide)), if_neg (h 28 (by decide) (by decide)), if_neg (h 29 (by decide) (by decide)), if_neg (h 30 (by decide) (by decide)), if_neg (h 31 (by decide) (by decide)), if_neg (h 32 (by decide) (by decide)), if_neg (h 33 (by decide) (by decide)), if_neg (h 34 (by decide) (by decide)), if_neg (h 35 (by decide) (by decide)), if_neg (h 36 (by decide) (by decide)), lx_p, w32_id (z := y + 7) (by omega) (by omega)]
theorem scr_b {i : Int} : -2147483648 ≤ scr xs i ∧ scr xs i < 2147483648 := by
  unfold scr
  exact ⟨Int32.le_toInt _, Int32.toInt_lt _⟩
end LWR
