/-! THE START, I: the words that the start stands on have their places. -/
theorem fl_l {a b w : Cond} (h : w ∈ flatC a) : w ∈ flatC (.and a b) := List.mem_append_left _ h
theorem fl_r {a b w : Cond} (h : w ∈ flatC b) : w ∈ flatC (.and a b) := List.mem_append_right _ h
theorem fl_e {w : Cond} (h : flatC w = [w]) : w ∈ flatC w := by
  rw [h]
  exact List.mem_singleton_self _
def st_tm (a : Nat) : Term := .static (q_zc a) (q_zn a) (q_zd a)
set_option maxRecDepth 20000 in
theorem st_m1 : ∀ q ∈ qTX, Cond.exactly (.string q.1 q.2.1) "java/lang/String" ∈ flatC (Jvm.Cond.and given_1 narrow_1) := List.forall_mem_cons.mpr ⟨fl_r (fl_l (fl_l (fl_r (fl_r (fl_r (fl_l (fl_r (fl_l (fl_r (fl_r (fl_e rfl))))))))))), List.forall_mem_cons.mpr ⟨fl_r (fl_l (fl_l (fl_r (fl_r (fl_r (fl_r (fl_r (fl_r (fl_r (fl_r (fl_e rfl))))))))))), List.forall_mem_cons.mpr ⟨fl_r (fl_l (fl_r (fl_l (fl_l (fl_l (fl_r (fl_r (fl_l (fl_l (fl_e rfl)))))))))), List.forall_mem_cons.mpr ⟨fl_r (fl_l (fl_r (fl_l (fl_l (fl_r (fl_r (fl_r (fl_l (fl_r (fl_l (fl_e rfl))))))))))), List.forall_mem_cons.mpr ⟨fl_r (fl_l (fl_r (fl_l (fl_r (fl_l (fl_r (fl_l (fl_r (fl_l (fl_e rfl)))))))))), List.forall_mem_cons.mpr ⟨fl_r (fl_l (fl_r (fl_r (fl_l (fl_l (fl_r (fl_r (fl_l (fl_r (fl_l (fl_e rfl))))))))))), List.forall_mem_cons.mpr ⟨fl_r (fl_l (fl_r (fl_r (fl_l (fl_r (fl_l (fl_r (fl_r (fl_r (fl_l (fl_e rfl))))))))))), List.forall_mem_cons.mpr ⟨fl_r (fl_l (fl_r (fl_r (fl_r (fl_l (fl_r (fl_r (fl_r (fl_l (fl_r (fl_e rfl))))))))))), List.forall_mem_cons.mpr ⟨fl_r (fl_l (fl_r (fl_r (fl_r (fl_r (fl_r (fl_r (fl_r (fl_r (fl_r (fl_e rfl))))))))))), List.forall_mem_cons.mpr ⟨fl_r (fl_r (fl_l (fl_l (fl_l (fl_l (fl_r (fl_l (fl_l (fl_l (fl_l (fl_e rfl))))))))))), List.forall_mem_cons.mpr ⟨fl_r (fl_r (fl_l (fl_l (fl_l (fl_l (fl_r (fl_r (fl_r (fl_l (fl_l (fl_e rfl))))))))))), List.forall_mem_cons.mpr ⟨fl_r (fl_r (fl_l (fl_l (fl_l (fl_r (fl_l (fl_r (fl_r (fl_l (fl_r (fl_r (fl_e rfl)))))))))))), List.forall_mem_cons.mpr ⟨fl_r (fl_r (fl_l (fl_l (fl_r (fl_l (fl_l (fl_l (fl_r (fl_l (fl_l (fl_e rfl))))))))))), List.forall_mem_cons.mpr ⟨fl_r (fl_r (fl_l (fl_l (fl_r (fl_l (fl_l (fl_r (fl_r (fl_r (fl_l (fl_l (fl_e rfl)))))))))))), List.forall_mem_cons.mpr ⟨fl_r (fl_r (fl_l (fl_l (fl_r (fl_l (fl_r (fl_r (fl_l (fl_l (fl_l (fl_e rfl))))))))))), List.forall_mem_cons.mpr ⟨fl_r (fl_r (fl_l (fl_l (fl_r (fl_r (fl_l (fl_r (fl_l (fl_l (fl_r (fl_r (fl_e rfl)))))))))))), List.forall_mem_cons.mpr ⟨fl_r (fl_r (fl_l (fl_l (fl_r (fl_r (fl_r (fl_r (fl_l (fl_r (fl_r (fl_l (fl_e rfl)))))))))))), List.forall_mem_cons.mpr ⟨fl_r (fl_r (fl_l (fl_r (fl_l (fl_l (fl_l (fl_r (fl_l (fl_l (fl_l (fl_e rfl))))))))))), List.forall_mem_cons.mpr ⟨fl_r (fl_r (fl_l (fl_r (fl_l (fl_l (fl_r (fl_l (fl_r (fl_l (fl_r (fl_l (fl_e rfl)))))))))))), List.forall_mem_cons.mpr ⟨fl_r (fl_r (fl_l (fl_r (fl_l (fl_r (fl_l (fl_r (fl_l (fl_r (fl_r (fl_l (fl_e rfl)))))))))))), List.forall_mem_cons.mpr ⟨fl_r (fl_r (fl_l (fl_r (fl_l (fl_r (fl_r (fl_l (fl_r (fl_l (fl_r (fl_r (fl_e rfl)))))))))))), List.forall_mem_cons.mpr ⟨fl_r (fl_r (fl_l (fl_r (fl_r (fl_l (fl_l (fl_l (fl_r (fl_l (fl_r (fl_l (fl_e rfl)))))))))))), List.forall_mem_cons.mpr ⟨fl_r (fl_r (fl_l (fl_r (fl_r (fl_l (fl_r (fl_l (fl_r (fl_l (fl_l (fl_e rfl))))))))))), List.forall_mem_cons.mpr ⟨fl_r (fl_r (fl_l (fl_r (fl_r (fl_l (fl_r (fl_r (fl_r (fl_r (fl_r (fl_r (fl_e rfl)))))))))))), List.forall_mem_cons.mpr ⟨fl_r (fl_r (fl_l (fl_r (fl_r (fl_r (fl_l (fl_r (fl_l (fl_r (fl_l (fl_e rfl))))))))))), List.forall_mem_cons.mpr ⟨fl_r (fl_r (fl_l (fl_r (fl_r (fl_r (fl_r (fl_l (fl_r (fl_r (fl_r (fl_l (fl_e rfl)))))))))))), List.forall_mem_cons.mpr ⟨fl_r (fl_r (fl_r (fl_l (fl_l (fl_l (fl_l (fl_r (fl_l (fl_l (fl_l (fl_e rfl))))))))))), List.forall_mem_cons.mpr ⟨fl_r (fl_r (fl_r (fl_l (fl_l (fl_l (fl_r (fl_l (fl_r (fl_r (fl_r (fl_r (fl_e rfl)))))))))))), List.forall_mem_cons.mpr ⟨fl_r (fl_r (fl_r (fl_l (fl_l (fl_r (fl_l (fl_l (fl_r (fl_l (fl_l (fl_e rfl))))))))))), List.forall_mem_cons.mpr ⟨fl_r (fl_r (fl_r (fl_l (fl_r (fl_l (fl_l (fl_r (fl_r (fl_r (fl_r (fl_l (fl_e rfl)))))))))))), List.forall_mem_cons.mpr ⟨fl_r (fl_r (fl_r (fl_l (fl_r (fl_r (fl_l (fl_l (fl_l (fl_r (fl_r (fl_r (fl_e rfl)))))))))))), List.forall_mem_cons.mpr ⟨fl_r (fl_r (fl_r (fl_l (fl_r (fl_r (fl_r (fl_r (fl_l (fl_r (fl_l (fl_e rfl))))))))))), List.forall_mem_cons.mpr ⟨fl_r (fl_r (fl_r (fl_r (fl_l (fl_l (fl_l (fl_r (fl_r (fl_l (fl_r (fl_e rfl))))))))))), List.forall_mem_cons.mpr ⟨fl_r (fl_r (fl_r (fl_r (fl_l (fl_r (fl_l (fl_r (fl_l (fl_r (fl_r (fl_l (fl_e rfl)))))))))))), List.forall_mem_cons.mpr ⟨fl_r (fl_r (fl_r (fl_r (fl_r (fl_l (fl_l (fl_r (fl_l (fl_r (fl_r (fl_l (fl_e rfl)))))))))))), List.forall_mem_cons.mpr ⟨fl_r (fl_r (fl_r (fl_r (fl_r (fl_l (fl_r (fl_r (fl_l (fl_r (fl_r (fl_l (fl_e rfl)))))))))))), List.forall_mem_cons.mpr ⟨fl_r (fl_r (fl_r (fl_r (fl_r (fl_r (fl_l (fl_r (fl_r (fl_r (fl_l (fl_e rfl))))))))))), fun _ h => (List.not_mem_nil h).elim⟩⟩⟩⟩⟩⟩⟩⟩⟩⟩⟩⟩⟩⟩⟩⟩⟩⟩⟩⟩⟩⟩⟩⟩⟩⟩⟩⟩⟩⟩⟩⟩⟩⟩⟩⟩⟩
theorem st_c01 : Cond.not (.castable (q_en 0) (q_en 1)) ∈ flatC (Jvm.Cond.and given_1 narrow_1) := fl_r (fl_l (fl_l (fl_l (fl_r (fl_r (fl_r (fl_l (fl_l (fl_r (fl_l (fl_e rfl)))))))))))
theorem st_c02 : Cond.not (.castable (q_en 0) (q_en 2)) ∈ flatC (Jvm.Cond.and given_1 narrow_1) := fl_r (fl_l (fl_l (fl_r (fl_l (fl_l (fl_l (fl_l (fl_r (fl_r (fl_l (fl_e rfl)))))))))))
theorem st_c10 : Cond.not (.castable (q_en 1) (q_en 0)) ∈ flatC (Jvm.Cond.and given_1 narrow_1) := fl_r (fl_l (fl_l (fl_l (fl_r (fl_l (fl_r (fl_r (fl_r (fl_l (fl_r (fl_e rfl)))))))))))
theorem st_c12 : Cond.not (.castable (q_en 1) (q_en 2)) ∈ flatC (Jvm.Cond.and given_1 narrow_1) := fl_r (fl_l (fl_l (fl_r (fl_l (fl_l (fl_l (fl_l (fl_r (fl_r (fl_r (fl_e rfl)))))))))))
theorem st_c20 : Cond.not (.castable (q_en 2) (q_en 0)) ∈ flatC (Jvm.Cond.and given_1 narrow_1) := fl_r (fl_l (fl_l (fl_l (fl_r (fl_l (fl_r (fl_r (fl_r (fl_r (fl_l (fl_e rfl)))))))))))
theorem st_c21 : Cond.not (.castable (q_en 2) (q_en 1)) ∈ flatC (Jvm.Cond.and given_1 narrow_1) := fl_r (fl_l (fl_l (fl_l (fl_r (fl_r (fl_r (fl_l (fl_l (fl_r (fl_r (fl_e rfl)))))))))))
theorem st_a0 : Cond.isRef (.static Bundle.tN "UNASSIGNED_STACK" Bundle.steD) ∈ flatC (Jvm.Cond.and given_1 narrow_1) := fl_r (fl_l (fl_l (fl_l (fl_l (fl_l (fl_l (fl_r (fl_l (fl_l (fl_e rfl))))))))))
theorem st_a1 : Cond.isRef (.static Bundle.tN "SUPPRESSED_SENTINEL" Bundle.listD) ∈ flatC (Jvm.Cond.and given_1 narrow_1) := fl_r (fl_l (fl_l (fl_l (fl_l (fl_l (fl_l (fl_r (fl_l (fl_r (fl_l (fl_e rfl)))))))))))
theorem st_a2 : Cond.arrayOf (st_tm 1) (q_zt 1) ∈ flatC (Jvm.Cond.and given_1 narrow_1) := fl_r (fl_l (fl_l (fl_l (fl_l (fl_l (fl_l (fl_l (fl_r (fl_l (fl_e rfl))))))))))
theorem st_a5 : Cond.eq (.length (st_tm 1)) (.int 0) ∈ flatC (Jvm.Cond.and given_1 narrow_1) := fl_r (fl_l (fl_l (fl_l (fl_l (fl_l (fl_l (fl_l (fl_r (fl_r (fl_r (fl_e rfl)))))))))))
theorem st_a3 : Cond.arrayOf (st_tm 2) (q_zt 2) ∈ flatC (Jvm.Cond.and given_1 narrow_1) := fl_r (fl_l (fl_l (fl_l (fl_l (fl_l (fl_l (fl_r (fl_r (fl_l (fl_e rfl))))))))))
theorem st_a6 : Cond.eq (.length (st_tm 2)) (.int 24) ∈ flatC (Jvm.Cond.and given_1 narrow_1) := fl_r (fl_l (fl_l (fl_l (fl_l (fl_l (fl_l (fl_r (fl_r (fl_r (fl_l (fl_e rfl)))))))))))
theorem st_a4 : Cond.arrayOf (st_tm 3) (q_zt 3) ∈ flatC (Jvm.Cond.and given_1 narrow_1) := fl_r (fl_l (fl_l (fl_l (fl_l (fl_r (fl_l (fl_r (fl_r (fl_r (fl_r (fl_e rfl)))))))))))
theorem st_a7 : Cond.eq (.length (st_tm 3)) (.int 24) ∈ flatC (Jvm.Cond.and given_1 narrow_1) := fl_r (fl_l (fl_l (fl_l (fl_l (fl_r (fl_r (fl_l (fl_l (fl_l (fl_e rfl))))))))))
theorem st_m4 : ∀ j, j < 24 → Cond.eq (.elem (st_tm 2) (.int (Int32.ofNat j))) (.int (q_ta.getD j 0)) ∈ flatC (Jvm.Cond.and given_1 narrow_1)
  | 0, _ => fl_r (fl_l (fl_l (fl_l (fl_l (fl_l (fl_l (fl_r (fl_r (fl_r (fl_r (fl_e rfl)))))))))))
  | 1, _ => fl_r (fl_l (fl_l (fl_l (fl_l (fl_l (fl_r (fl_l (fl_l (fl_l (fl_e rfl))))))))))
  | 2, _ => fl_r (fl_l (fl_l (fl_l (fl_l (fl_l (fl_r (fl_l (fl_l (fl_r (fl_l (fl_e rfl)))))))))))
  | 3, _ => fl_r (fl_l (fl_l (fl_l (fl_l (fl_l (fl_r (fl_l (fl_l (fl_r (fl_r (fl_e rfl)))))))))))
  | 4, _ => fl_r (fl_l (fl_l (fl_l (fl_l (fl_l (fl_r (fl_l (fl_r (fl_l (fl_e rfl))))))))))
  | 5, _ => fl_r (fl_l (fl_l (fl_l (fl_l (fl_l (fl_r (fl_l (fl_r (fl_r (fl_l (fl_e rfl)))))))))))
  | 6, _ => fl_r (fl_l (fl_l (fl_l (fl_l (fl_l (fl_r (fl_l (fl_r (fl_r (fl_r (fl_e rfl)))))))))))
  | 7, _ => fl_r (fl_l (fl_l (fl_l (fl_l (fl_l (fl_r (fl_r (fl_l (fl_l (fl_e rfl))))))))))
  | 8, _ => fl_r (fl_l (fl_l (fl_l (fl_l (fl_l (fl_r (fl_r (fl_l (fl_r (fl_l (fl_e rfl)))))))))))
  | 9, _ => fl_r (fl_l (fl_l (fl_l (fl_l (fl_l (fl_r (fl_r (fl_l (fl_r (fl_r (fl_e rfl)))))))))))
  | 10, _ => fl_r (fl_l (fl_l (fl_l (fl_l (fl_l (fl_r (fl_r (fl_r (fl_l (fl_l (fl_e rfl)))))))))))
  | 11, _ => fl_r (fl_l (fl_l (fl_l (fl_l (fl_l (fl_r (fl_r (fl_r (fl_l (fl_r (fl_e rfl)))))))))))
  | 12, _ => fl_r (fl_l (fl_l (fl_l (fl_l (fl_l (fl_r (fl_r (fl_r (fl_r (fl_l (fl_e rfl)))))))))))
  | 13, _ => fl_r (fl_l (fl_l (fl_l (fl_l (fl_l (fl_r (fl_r (fl_r (fl_r (fl_r (fl_e rfl)))))))))))
  | 14, _ => fl_r (fl_l (fl_l (fl_l (fl_l (fl_r (fl_l (fl_l (fl_l (fl_l (fl_e rfl))))))))))
  | 15, _ => fl_r (fl_l (fl_l (fl_l (fl_l (fl_r (fl_l (fl_l (fl_l (fl_r (fl_l (fl_e rfl)))))))))))
  | 16, _ => fl_r (fl_l (fl_l (fl_l (fl_l (fl_r (fl_l (fl_l (fl_l (fl_r (fl_r (fl_e rfl)))))))))))
  | 17, _ => fl_r (fl_l (fl_l (fl_l (fl_l (fl_r (fl_l (fl_l (fl_r (fl_l (fl_e rfl))))))))))
  | 18, _ => fl_r (fl_l (fl_l (fl_l (fl_l (fl_r (fl_l (fl_l (fl_r (fl_r (fl_l (fl_e rfl)))))))))))
  | 19, _ => fl_r (fl_l (fl_l (fl_l (fl_l (fl_r (fl_l (fl_l (fl_r (fl_r (fl_r (fl_e rfl)))))))))))
  | 20, _ => fl_r (fl_l (fl_l (fl_l (fl_l (fl_r (fl_l (fl_r (fl_l (fl_l (fl_e rfl))))))))))
  | 21, _ => fl_r (fl_l (fl_l (fl_l (fl_l (fl_r (fl_l (fl_r (fl_l (fl_r (fl_l (fl_e rfl)))))))))))
  | 22, _ => fl_r (fl_l (fl_l (fl_l (fl_l (fl_r (fl_l (fl_r (fl_l (fl_r (fl_r (fl_e rfl)))))))))))
  | 23, _ => fl_r (fl_l (fl_l (fl_l (fl_l (fl_r (fl_l (fl_r (fl_r (fl_l (fl_e rfl))))))))))
  | n + 24, h => absurd h (by omega)
theorem st_m5 : ∀ j, j < 24 → Cond.eq (.elem (st_tm 3) (.int (Int32.ofNat j))) (.int (q_tb.getD j 0)) ∈ flatC (Jvm.Cond.and given_1 narrow_1)
  | 0, _ => fl_r (fl_l (fl_l (fl_l (fl_l (fl_r (fl_r (fl_l (fl_l (fl_r (fl_l (fl_e rfl)))))))))))
  | 1, _ => fl_r (fl_l (fl_l (fl_l (fl_l (fl_r (fl_r (fl_l (fl_l (fl_r (fl_r (fl_e rfl)))))))))))
  | 2, _ => fl_r (fl_l (fl_l (fl_l (fl_l (fl_r (fl_r (fl_l (fl_r (fl_l (fl_e rfl))))))))))
  | 3, _ => fl_r (fl_l (fl_l (fl_l (fl_l (fl_r (fl_r (fl_l (fl_r (fl_r (fl_l (fl_e rfl)))))))))))
  | 4, _ => fl_r (fl_l (fl_l (fl_l (fl_l (fl_r (fl_r (fl_l (fl_r (fl_r (fl_r (fl_e rfl)))))))))))
  | 5, _ => fl_r (fl_l (fl_l (fl_l (fl_l (fl_r (fl_r (fl_r (fl_l (fl_l (fl_e rfl))))))))))
  | 6, _ => fl_r (fl_l (fl_l (fl_l (fl_l (fl_r (fl_r (fl_r (fl_l (fl_r (fl_l (fl_e rfl)))))))))))
  | 7, _ => fl_r (fl_l (fl_l (fl_l (fl_l (fl_r (fl_r (fl_r (fl_l (fl_r (fl_r (fl_e rfl)))))))))))
  | 8, _ => fl_r (fl_l (fl_l (fl_l (fl_l (fl_r (fl_r (fl_r (fl_r (fl_l (fl_l (fl_e rfl)))))))))))
  | 9, _ => fl_r (fl_l (fl_l (fl_l (fl_l (fl_r (fl_r (fl_r (fl_r (fl_l (fl_r (fl_e rfl)))))))))))
  | 10, _ => fl_r (fl_l (fl_l (fl_l (fl_l (fl_r (fl_r (fl_r (fl_r (fl_r (fl_l (fl_e rfl)))))))))))
  | 11, _ => fl_r (fl_l (fl_l (fl_l (fl_l (fl_r (fl_r (fl_r (fl_r (fl_r (fl_r (fl_e rfl)))))))))))
  | 12, _ => fl_r (fl_l (fl_l (fl_l (fl_r (fl_l (fl_l (fl_l (fl_l (fl_l (fl_e rfl))))))))))
  | 13, _ => fl_r (fl_l (fl_l (fl_l (fl_r (fl_l (fl_l (fl_l (fl_l (fl_r (fl_l (fl_e rfl)))))))))))
  | 14, _ => fl_r (fl_l (fl_l (fl_l (fl_r (fl_l (fl_l (fl_l (fl_l (fl_r (fl_r (fl_e rfl)))))))))))
  | 15, _ => fl_r (fl_l (fl_l (fl_l (fl_r (fl_l (fl_l (fl_l (fl_r (fl_l (fl_e rfl))))))))))
  | 16, _ => fl_r (fl_l (fl_l (fl_l (fl_r (fl_l (fl_l (fl_l (fl_r (fl_r (fl_l (fl_e rfl)))))))))))
  | 17, _ => fl_r (fl_l (fl_l (fl_l (fl_r (fl_l (fl_l (fl_l (fl_r (fl_r (fl_r (fl_e rfl)))))))))))
  | 18, _ => fl_r (fl_l (fl_l (fl_l (fl_r (fl_l (fl_l (fl_r (fl_l (fl_l (fl_e rfl))))))))))
  | 19, _ => fl_r (fl_l (fl_l (fl_l (fl_r (fl_l (fl_l (fl_r (fl_l (fl_r (fl_l (fl_e rfl)))))))))))
  | 20, _ => fl_r (fl_l (fl_l (fl_l (fl_r (fl_l (fl_l (fl_r (fl_l (fl_r (fl_r (fl_e rfl)))))))))))
  | 21, _ => fl_r (fl_l (fl_l (fl_l (fl_r (fl_l (fl_l (fl_r (fl_r (fl_l (fl_e rfl))))))))))
  | 22, _ => fl_r (fl_l (fl_l (fl_l (fl_r (fl_l (fl_l (fl_r (fl_r (fl_r (fl_l (fl_e rfl)))))))))))
  | 23, _ => fl_r (fl_l (fl_l (fl_l (fl_r (fl_l (fl_l (fl_r (fl_r (fl_r (fl_r (fl_e rfl)))))))))))
  | n + 24, h => absurd h (by omega)
set_option maxRecDepth 20000 in
theorem st_s : ∀ q ∈ qTX, Cond.stringRef q.1 q.2.1 q.2.2 ∈ lw_tbl := List.forall_mem_cons.mpr ⟨q_tb2 215 rfl, List.forall_mem_cons.mpr ⟨q_tb3 15 rfl, List.forall_mem_cons.mpr ⟨q_tb3 22 rfl, List.forall_mem_cons.mpr ⟨q_tb3 32 rfl, List.forall_mem_cons.mpr ⟨q_tb3 55 rfl, List.forall_mem_cons.mpr ⟨q_tb3 135 rfl, List.forall_mem_cons.mpr ⟨q_tb3 136 rfl, List.forall_mem_cons.mpr ⟨q_tb3 137 rfl, List.forall_mem_cons.mpr ⟨q_tb3 145 rfl, List.forall_mem_cons.mpr ⟨q_tb3 157 rfl, List.forall_mem_cons.mpr ⟨q_tb3 162 rfl, List.forall_mem_cons.mpr ⟨q_tb3 167 rfl, List.forall_mem_cons.mpr ⟨q_tb4 58 rfl, List.forall_mem_cons.mpr ⟨q_tb4 77 rfl, List.forall_mem_cons.mpr ⟨q_tb4 82 rfl, List.forall_mem_cons.mpr ⟨q_tb4 90 rfl, List.forall_mem_cons.mpr ⟨q_tb5 161 rfl, List.forall_mem_cons.mpr ⟨q_tb5 181 rfl, List.forall_mem_cons.mpr ⟨q_tb5 182 rfl, List.forall_mem_cons.mpr ⟨q_tb5 205 rfl, List.forall_mem_cons.mpr ⟨q_tb5 217 rfl, List.forall_mem_cons.mpr ⟨q_tb5 225 rfl, List.forall_mem_cons.mpr ⟨q_tb5 237 rfl, List.forall_mem_cons.mpr ⟨q_tb6 69 rfl, List.forall_mem_cons.mpr ⟨q_tb7 2 rfl, List.forall_mem_cons.mpr ⟨q_tb7 35 rfl, List.forall_mem_cons.mpr ⟨q_tb7 87 rfl, List.forall_mem_cons.mpr ⟨q_tb7 106 rfl, List.forall_mem_cons.mpr ⟨q_tb7 107 rfl, List.forall_mem_cons.mpr ⟨q_tb7 140 rfl, List.forall_mem_cons.mpr ⟨q_tb7 149 rfl, List.forall_mem_cons.mpr ⟨q_tb7 162 rfl, List.forall_mem_cons.mpr ⟨q_tb7 170 rfl, List.forall_mem_cons.mpr ⟨q_tb7 171 rfl, List.forall_mem_cons.mpr ⟨q_tb7 225 rfl, List.forall_mem_cons.mpr ⟨q_tb7 233 rfl, List.forall_mem_cons.mpr ⟨q_tb8 5 rfl, fun _ h => (List.not_mem_nil h).elim⟩⟩⟩⟩⟩⟩⟩⟩⟩⟩⟩⟩⟩⟩⟩⟩⟩⟩⟩⟩⟩⟩⟩⟩⟩⟩⟩⟩⟩⟩⟩⟩⟩⟩⟩⟩⟩
theorem st_k0 : Cond.castable (q_en 0) (q_en 0) ∈ lw_tbl := q_tb2 176 rfl
theorem st_k1 : Cond.castable (q_en 1) (q_en 1) ∈ lw_tbl := q_tb3 8 rfl
theorem st_k2 : Cond.castable (q_en 2) (q_en 2) ∈ lw_tbl := q_tb3 25 rfl
theorem st_d0 : Cond.declares (Bundle.initS "java/lang/RuntimeException") ∈ lw_tbl := q_tb2 178 rfl
theorem st_d1 : Cond.declares (Bundle.initS "java/lang/Exception") ∈ lw_tbl := q_tb2 180 rfl
theorem st_d2 : Cond.declares (Bundle.initS "java/lang/Throwable") ∈ lw_tbl := q_tb2 182 rfl
theorem st_o103 : Cond.arrayOver (q_ty 103) ∈ lw_tbl := q_tb1 104 rfl
theorem st_o104 : Cond.arrayOver (q_ty 104) ∈ lw_tbl := q_tb1 40 rfl
theorem st_o105 : Cond.arrayOver (q_ty 105) ∈ lw_tbl := q_tb1 106 rfl
theorem st_o106 : Cond.arrayOver (q_ty 106) ∈ lw_tbl := q_tb1 38 rfl
theorem st_o107 : Cond.arrayOver (q_ty 107) ∈ lw_tbl := q_tb3 114 rfl
theorem st_o108 : Cond.arrayOver (q_ty 108) ∈ lw_tbl := q_tb1 74 rfl
theorem st_l : ∀ q ∈ q_NL, Cond.methodLinkNest q.1 q.2.1 q.2.2 "DurableLoom" ∈ lw_tbl := List.forall_mem_cons.mpr ⟨q_tb1 69 rfl, List.forall_mem_cons.mpr ⟨q_tb1 93 rfl, List.forall_mem_cons.mpr ⟨q_tb1 107 rfl, List.forall_mem_cons.mpr ⟨q_tb1 109 rfl, List.forall_mem_cons.mpr ⟨q_tb1 220 rfl, List.forall_mem_cons.mpr ⟨q_tb2 50 rfl, List.forall_mem_cons.mpr ⟨q_tb2 57 rfl, List.forall_mem_cons.mpr ⟨q_tb2 72 rfl, List.forall_mem_cons.mpr ⟨q_tb3 187 rfl, fun _ h => (List.not_mem_nil h).elim⟩⟩⟩⟩⟩⟩⟩⟩⟩
theorem st_z1 : Cond.laysStatic (q_zc 1) (q_zn 1) (q_zd 1) ∈ lw_tbl := q_tb1 54 rfl
theorem st_i1 : Cond.initialized (q_zc 1) ∈ lw_tbl := q_tb1 4 rfl
theorem st_z2 : Cond.laysStatic (q_zc 2) (q_zn 2) (q_zd 2) ∈ lw_tbl := q_tb3 3 rfl
theorem st_i2 : Cond.initialized (q_zc 2) ∈ lw_tbl := q_tb1 1 rfl
theorem st_z3 : Cond.laysStatic (q_zc 3) (q_zn 3) (q_zd 3) ∈ lw_tbl := q_tb3 5 rfl
theorem st_i3 : Cond.initialized (q_zc 3) ∈ lw_tbl := q_tb1 1 rfl
theorem st_z4 : Cond.laysStatic Bundle.tN "UNASSIGNED_STACK" Bundle.steD ∈ lw_tbl := q_tb2 201 rfl
theorem st_z5 : Cond.laysStatic Bundle.tN "SUPPRESSED_SENTINEL" Bundle.listD ∈ lw_tbl := q_tb2 203 rfl
theorem st_i4 : Cond.initialized Bundle.tN ∈ lw_tbl := q_tb1 13 rfl
theorem st_n0 : Cond.instantiable RJx4a65c 3 ∈ lw_tbl := q_tb1 42 rfl
theorem st_n1 : Cond.instantiable RX0 11 ∈ lw_tbl := q_tb6 105 rfl
theorem st_n2 : Cond.instantiable RX1 11 ∈ lw_tbl := q_tb1 108 rfl
theorem st_n3 : Cond.instantiable RX2 5 ∈ lw_tbl := q_tb1 218 rfl
theorem st_n4 : Cond.instantiable RX3 5 ∈ lw_tbl := q_tb2 71 rfl
theorem st_n5 : Cond.instantiable RX4 12 ∈ lw_tbl := q_tb1 92 rfl
theorem st_n6 : Cond.instantiable RX5 3 ∈ lw_tbl := q_tb1 68 rfl
theorem st_n7 : Cond.instantiable RX6 20 ∈ lw_tbl := q_tb3 180 rfl
theorem st_n8 : Cond.instantiable RX7 9 ∈ lw_tbl := q_tb7 172 rfl
theorem st_n9 : Cond.instantiable RX8 14 ∈ lw_tbl := q_tb1 98 rfl
theorem st_n10 : Cond.instantiable RX9 6 ∈ lw_tbl := q_tb6 28 rfl
theorem st_n11 : Cond.instantiable RX10 3 ∈ lw_tbl := q_tb2 49 rfl
theorem st_n12 : Cond.instantiable RX11 18 ∈ lw_tbl := q_tb1 30 rfl
theorem st_n13 : Cond.instantiable RX12 130 ∈ lw_tbl := q_tb8 21 rfl
