/-! Methods as functions (written by wip/whole/dec.py), 26: X12_kindAt, X12_yAt, X12_xAt, X12_whenAt, X12_counts, X12_recounts, X12_puts, X12_hasCome. -/
section DF26
noncomputable def fm_X12_kindAt (p1 p2 : Int) (m0 : MM) : Option Int := bp (fm_X12_at p1 p2 m0) fun x_5 =>
gd (0 ≤ x_5 ∧ x_5 < 1310720) <| lx (m0 95 x_5) fun x_17 =>
some (w32 (Int.tdiv (w32 (lShr x_17 48)) 1000))
set_option maxHeartbeats 4000000 in
theorem om_X12_kindAt {xs : List Int32} {d : Nat} {S : QS} {m0 : MM} {p1 p2 : Int} {v0 : Value} {v1 : Value} {v2 : Value} {rz : Int}
  (hd : 2 ≤ d) (R : Rp S m0) (f0 : q_is 2 v0 68) (f1 : q_is 0 v1 p1) (f2 : q_is 0 v2 p2)
  (h : fm_X12_kindAt p1 p2 m0 = some rz) : Mt xs d 204 [v0, v1, v2] S (Cr 0 m0 m0 rz) := by
  obtain ⟨d, rfl⟩ : ∃ e, d = e + 1 := ⟨d - 1, by omega⟩
  have hd : 1 ≤ d := Nat.le_of_succ_le_succ hd
  refine Mt.of (M := qM_X12_kindAt) rfl (by rw [sl_1 (q_is_cat f0 (Or.inr rfl)), sl_1 (q_is_cat f1 (Or.inl rfl)), sl_1 (q_is_cat f2 (Or.inl rfl)), sl_0]; decide) ?_
  rw [la_1 (q_is_cat f0 (Or.inr rfl)), la_1 (q_is_cat f1 (Or.inl rfl)), la_1 (q_is_cat f2 (Or.inl rfl)), la_0]
  obtain ⟨L, hL⟩ : ∃ L : QL, L = [(0, v0), (0 + 1, v1), (0 + 1 + 1, v2)] := ⟨_, rfl⟩
  rw [← hL]
  have l0 : q_lo L 0 = some v0 := by rw [hL]; rfl
  have l1 : q_lo L 1 = some v1 := by rw [hL]; rfl
  have l2 : q_lo L 2 = some v2 := by rw [hL]; rfl
  have hQ : ∀ o S1, Rp S1 m0 → q_out 0 o rz → (Cr 0 m0 m0 rz) o S1 := fun o S1 a b => ⟨a, Ext.rf _, b⟩
  unfold fm_X12_kindAt at h
  refine go_aload_n (n := 0) (by decide +kernel) l0 f0 ?_
  refine go_getf (x := 89) (ci := 13) (kf := 28) (fin := 1) (t := 2) (by decide +kernel) (by decide +kernel) (by decide +kernel) R f0 (fx_k (c := 13) R (by decide +kernel)) fun v_1 f_2 => ?_
  have f_3 := q_is_eq (b := 95) f_2 (fx_v R (by decide +kernel)).symm
  refine go_aload_n (n := 0) (by decide +kernel) l0 f0 ?_
  refine go_iload_n (n := 1) (by decide +kernel) l1 f1 ?_
  refine go_iload_n (n := 2) (by decide +kernel) l2 f2 ?_
  obtain ⟨x_5, hc_4, h⟩ := bp_s h
  refine go_callV (x := 331) (mi := 203) (n := 2) (ci := 13) (as := [v1, v2]) (rest := [v_1]) (by decide +kernel) (by decide +kernel) rfl rfl (q_sum8 _ (Nat.le_of_ble_eq_true rfl)) R f0 (fx_k (c := 13) R (by decide +kernel)) (om_X12_at (Nat.le_trans (by decide) hd) R f0 f1 f2 hc_4) (fun _ S_9 q_12 => ?_) (fun _ _ qq => kr_x qq)
  refine kr_z (by decide) q_12 fun v_7 f_8 R_10 E_11 => ?_
  obtain ⟨g_15, h⟩ := gd_s h
  obtain ⟨x_17, e_18, h⟩ := lx_s h
  refine go_lald (kd := 101) (by decide +kernel) rfl R_10 f_3 f_8 (fx_k (c := 101) R_10 (by decide +kernel)) (fx_x (a := 95) (ln := 1310720) R_10 (by decide +kernel) g_15) fun v_13 f_14 => ?_
  have f_16 := q_is_eq f_14 e_18
  refine go_bipush (n := 48) (z := 48) (by decide +kernel) (by decide) fun v_19 f_20 => ?_
  refine go_lshr (by decide +kernel) f_16 f_20 fun v_21 f_22 => ?_
  refine go_l2i (by decide +kernel) f_22 fun v_23 f_24 => ?_
  refine go_sipush (n := 1000) (z := 1000) (by decide +kernel) (by decide) fun v_25 f_26 => ?_
  refine go_idiv (by decide +kernel) f_24 f_26 (by decide) fun v_27 f_28 => ?_
  cases h
  exact go_iret (by decide +kernel) rfl (Or.inl rfl) f_28 (hQ _ _ R_10 (q_out_v (by decide) f_28))
noncomputable def fm_X12_yAt (p1 p2 : Int) (m0 : MM) : Option Int := bp (fm_X12_at p1 p2 m0) fun x_5 =>
gd (0 ≤ x_5 ∧ x_5 < 1310720) <| lx (m0 95 x_5) fun x_17 =>
some (Int.tmod (w32 (lShr x_17 48)) 1000)
set_option maxHeartbeats 4000000 in
theorem om_X12_yAt {xs : List Int32} {d : Nat} {S : QS} {m0 : MM} {p1 p2 : Int} {v0 : Value} {v1 : Value} {v2 : Value} {rz : Int}
  (hd : 2 ≤ d) (R : Rp S m0) (f0 : q_is 2 v0 68) (f1 : q_is 0 v1 p1) (f2 : q_is 0 v2 p2)
  (h : fm_X12_yAt p1 p2 m0 = some rz) : Mt xs d 205 [v0, v1, v2] S (Cr 0 m0 m0 rz) := by
  obtain ⟨d, rfl⟩ : ∃ e, d = e + 1 := ⟨d - 1, by omega⟩
  have hd : 1 ≤ d := Nat.le_of_succ_le_succ hd
  refine Mt.of (M := qM_X12_yAt) rfl (by rw [sl_1 (q_is_cat f0 (Or.inr rfl)), sl_1 (q_is_cat f1 (Or.inl rfl)), sl_1 (q_is_cat f2 (Or.inl rfl)), sl_0]; decide) ?_
  rw [la_1 (q_is_cat f0 (Or.inr rfl)), la_1 (q_is_cat f1 (Or.inl rfl)), la_1 (q_is_cat f2 (Or.inl rfl)), la_0]
  obtain ⟨L, hL⟩ : ∃ L : QL, L = [(0, v0), (0 + 1, v1), (0 + 1 + 1, v2)] := ⟨_, rfl⟩
  rw [← hL]
  have l0 : q_lo L 0 = some v0 := by rw [hL]; rfl
  have l1 : q_lo L 1 = some v1 := by rw [hL]; rfl
  have l2 : q_lo L 2 = some v2 := by rw [hL]; rfl
  have hQ : ∀ o S1, Rp S1 m0 → q_out 0 o rz → (Cr 0 m0 m0 rz) o S1 := fun o S1 a b => ⟨a, Ext.rf _, b⟩
  unfold fm_X12_yAt at h
  refine go_aload_n (n := 0) (by decide +kernel) l0 f0 ?_
  refine go_getf (x := 89) (ci := 13) (kf := 28) (fin := 1) (t := 2) (by decide +kernel) (by decide +kernel) (by decide +kernel) R f0 (fx_k (c := 13) R (by decide +kernel)) fun v_1 f_2 => ?_
  have f_3 := q_is_eq (b := 95) f_2 (fx_v R (by decide +kernel)).symm
  refine go_aload_n (n := 0) (by decide +kernel) l0 f0 ?_
  refine go_iload_n (n := 1) (by decide +kernel) l1 f1 ?_
  refine go_iload_n (n := 2) (by decide +kernel) l2 f2 ?_
  obtain ⟨x_5, hc_4, h⟩ := bp_s h
  refine go_callV (x := 331) (mi := 203) (n := 2) (ci := 13) (as := [v1, v2]) (rest := [v_1]) (by decide +kernel) (by decide +kernel) rfl rfl (q_sum8 _ (Nat.le_of_ble_eq_true rfl)) R f0 (fx_k (c := 13) R (by decide +kernel)) (om_X12_at (Nat.le_trans (by decide) hd) R f0 f1 f2 hc_4) (fun _ S_9 q_12 => ?_) (fun _ _ qq => kr_x qq)
  refine kr_z (by decide) q_12 fun v_7 f_8 R_10 E_11 => ?_
  obtain ⟨g_15, h⟩ := gd_s h
  obtain ⟨x_17, e_18, h⟩ := lx_s h
  refine go_lald (kd := 101) (by decide +kernel) rfl R_10 f_3 f_8 (fx_k (c := 101) R_10 (by decide +kernel)) (fx_x (a := 95) (ln := 1310720) R_10 (by decide +kernel) g_15) fun v_13 f_14 => ?_
  have f_16 := q_is_eq f_14 e_18
  refine go_bipush (n := 48) (z := 48) (by decide +kernel) (by decide) fun v_19 f_20 => ?_
  refine go_lshr (by decide +kernel) f_16 f_20 fun v_21 f_22 => ?_
  refine go_l2i (by decide +kernel) f_22 fun v_23 f_24 => ?_
  refine go_sipush (n := 1000) (z := 1000) (by decide +kernel) (by decide) fun v_25 f_26 => ?_
  refine go_irem (by decide +kernel) f_24 f_26 (by decide) fun v_27 f_28 => ?_
  cases h
  exact go_iret (by decide +kernel) rfl (Or.inl rfl) f_28 (hQ _ _ R_10 (q_out_v (by decide) f_28))
noncomputable def fm_X12_xAt (p1 p2 : Int) (m0 : MM) : Option Int := bp (fm_X12_at p1 p2 m0) fun x_5 =>
gd (0 ≤ x_5 ∧ x_5 < 1310720) <| lx (m0 95 x_5) fun x_17 =>
some (w32 (lAnd (lShr x_17 29) 524287))
set_option maxHeartbeats 4000000 in
theorem om_X12_xAt {xs : List Int32} {d : Nat} {S : QS} {m0 : MM} {p1 p2 : Int} {v0 : Value} {v1 : Value} {v2 : Value} {rz : Int}
  (hd : 2 ≤ d) (R : Rp S m0) (f0 : q_is 2 v0 68) (f1 : q_is 0 v1 p1) (f2 : q_is 0 v2 p2)
  (h : fm_X12_xAt p1 p2 m0 = some rz) : Mt xs d 206 [v0, v1, v2] S (Cr 0 m0 m0 rz) := by
  obtain ⟨d, rfl⟩ : ∃ e, d = e + 1 := ⟨d - 1, by omega⟩
  have hd : 1 ≤ d := Nat.le_of_succ_le_succ hd
  refine Mt.of (M := qM_X12_xAt) rfl (by rw [sl_1 (q_is_cat f0 (Or.inr rfl)), sl_1 (q_is_cat f1 (Or.inl rfl)), sl_1 (q_is_cat f2 (Or.inl rfl)), sl_0]; decide) ?_
  rw [la_1 (q_is_cat f0 (Or.inr rfl)), la_1 (q_is_cat f1 (Or.inl rfl)), la_1 (q_is_cat f2 (Or.inl rfl)), la_0]
  obtain ⟨L, hL⟩ : ∃ L : QL, L = [(0, v0), (0 + 1, v1), (0 + 1 + 1, v2)] := ⟨_, rfl⟩
  rw [← hL]
  have l0 : q_lo L 0 = some v0 := by rw [hL]; rfl
  have l1 : q_lo L 1 = some v1 := by rw [hL]; rfl
  have l2 : q_lo L 2 = some v2 := by rw [hL]; rfl
  have hQ : ∀ o S1, Rp S1 m0 → q_out 0 o rz → (Cr 0 m0 m0 rz) o S1 := fun o S1 a b => ⟨a, Ext.rf _, b⟩
  unfold fm_X12_xAt at h
  refine go_aload_n (n := 0) (by decide +kernel) l0 f0 ?_
  refine go_getf (x := 89) (ci := 13) (kf := 28) (fin := 1) (t := 2) (by decide +kernel) (by decide +kernel) (by decide +kernel) R f0 (fx_k (c := 13) R (by decide +kernel)) fun v_1 f_2 => ?_
  have f_3 := q_is_eq (b := 95) f_2 (fx_v R (by decide +kernel)).symm
  refine go_aload_n (n := 0) (by decide +kernel) l0 f0 ?_
  refine go_iload_n (n := 1) (by decide +kernel) l1 f1 ?_
  refine go_iload_n (n := 2) (by decide +kernel) l2 f2 ?_
  obtain ⟨x_5, hc_4, h⟩ := bp_s h
  refine go_callV (x := 331) (mi := 203) (n := 2) (ci := 13) (as := [v1, v2]) (rest := [v_1]) (by decide +kernel) (by decide +kernel) rfl rfl (q_sum8 _ (Nat.le_of_ble_eq_true rfl)) R f0 (fx_k (c := 13) R (by decide +kernel)) (om_X12_at (Nat.le_trans (by decide) hd) R f0 f1 f2 hc_4) (fun _ S_9 q_12 => ?_) (fun _ _ qq => kr_x qq)
  refine kr_z (by decide) q_12 fun v_7 f_8 R_10 E_11 => ?_
  obtain ⟨g_15, h⟩ := gd_s h
  obtain ⟨x_17, e_18, h⟩ := lx_s h
  refine go_lald (kd := 101) (by decide +kernel) rfl R_10 f_3 f_8 (fx_k (c := 101) R_10 (by decide +kernel)) (fx_x (a := 95) (ln := 1310720) R_10 (by decide +kernel) g_15) fun v_13 f_14 => ?_
  have f_16 := q_is_eq f_14 e_18
  refine go_bipush (n := 29) (z := 29) (by decide +kernel) (by decide) fun v_19 f_20 => ?_
  refine go_lshr (by decide +kernel) f_16 f_20 fun v_21 f_22 => ?_
  refine go_ldc2_w (x := 334) (n := 524287) (a := 0) (b := 0) (z := 524287) (by decide +kernel) (by decide +kernel) (by decide +kernel) fun v_23 f_24 => ?_
  refine go_land (by decide +kernel) f_22 f_24 fun v_25 f_26 => ?_
  refine go_l2i (by decide +kernel) f_26 fun v_27 f_28 => ?_
  cases h
  exact go_iret (by decide +kernel) rfl (Or.inl rfl) f_28 (hQ _ _ R_10 (q_out_v (by decide) f_28))
noncomputable def fm_X12_whenAt (p1 p2 : Int) (m0 : MM) : Option Int := bp (fm_X12_at p1 p2 m0) fun x_5 =>
gd (0 ≤ x_5 ∧ x_5 < 1310720) <| lx (m0 95 x_5) fun x_17 =>
some (w32 (lAnd x_17 536870911))
set_option maxHeartbeats 4000000 in
theorem om_X12_whenAt {xs : List Int32} {d : Nat} {S : QS} {m0 : MM} {p1 p2 : Int} {v0 : Value} {v1 : Value} {v2 : Value} {rz : Int}
  (hd : 2 ≤ d) (R : Rp S m0) (f0 : q_is 2 v0 68) (f1 : q_is 0 v1 p1) (f2 : q_is 0 v2 p2)
  (h : fm_X12_whenAt p1 p2 m0 = some rz) : Mt xs d 207 [v0, v1, v2] S (Cr 0 m0 m0 rz) := by
  obtain ⟨d, rfl⟩ : ∃ e, d = e + 1 := ⟨d - 1, by omega⟩
  have hd : 1 ≤ d := Nat.le_of_succ_le_succ hd
  refine Mt.of (M := qM_X12_whenAt) rfl (by rw [sl_1 (q_is_cat f0 (Or.inr rfl)), sl_1 (q_is_cat f1 (Or.inl rfl)), sl_1 (q_is_cat f2 (Or.inl rfl)), sl_0]; decide) ?_
  rw [la_1 (q_is_cat f0 (Or.inr rfl)), la_1 (q_is_cat f1 (Or.inl rfl)), la_1 (q_is_cat f2 (Or.inl rfl)), la_0]
  obtain ⟨L, hL⟩ : ∃ L : QL, L = [(0, v0), (0 + 1, v1), (0 + 1 + 1, v2)] := ⟨_, rfl⟩
  rw [← hL]
  have l0 : q_lo L 0 = some v0 := by rw [hL]; rfl
  have l1 : q_lo L 1 = some v1 := by rw [hL]; rfl
  have l2 : q_lo L 2 = some v2 := by rw [hL]; rfl
  have hQ : ∀ o S1, Rp S1 m0 → q_out 0 o rz → (Cr 0 m0 m0 rz) o S1 := fun o S1 a b => ⟨a, Ext.rf _, b⟩
  unfold fm_X12_whenAt at h
  refine go_aload_n (n := 0) (by decide +kernel) l0 f0 ?_
  refine go_getf (x := 89) (ci := 13) (kf := 28) (fin := 1) (t := 2) (by decide +kernel) (by decide +kernel) (by decide +kernel) R f0 (fx_k (c := 13) R (by decide +kernel)) fun v_1 f_2 => ?_
  have f_3 := q_is_eq (b := 95) f_2 (fx_v R (by decide +kernel)).symm
  refine go_aload_n (n := 0) (by decide +kernel) l0 f0 ?_
  refine go_iload_n (n := 1) (by decide +kernel) l1 f1 ?_
  refine go_iload_n (n := 2) (by decide +kernel) l2 f2 ?_
  obtain ⟨x_5, hc_4, h⟩ := bp_s h
  refine go_callV (x := 331) (mi := 203) (n := 2) (ci := 13) (as := [v1, v2]) (rest := [v_1]) (by decide +kernel) (by decide +kernel) rfl rfl (q_sum8 _ (Nat.le_of_ble_eq_true rfl)) R f0 (fx_k (c := 13) R (by decide +kernel)) (om_X12_at (Nat.le_trans (by decide) hd) R f0 f1 f2 hc_4) (fun _ S_9 q_12 => ?_) (fun _ _ qq => kr_x qq)
  refine kr_z (by decide) q_12 fun v_7 f_8 R_10 E_11 => ?_
  obtain ⟨g_15, h⟩ := gd_s h
  obtain ⟨x_17, e_18, h⟩ := lx_s h
  refine go_lald (kd := 101) (by decide +kernel) rfl R_10 f_3 f_8 (fx_k (c := 101) R_10 (by decide +kernel)) (fx_x (a := 95) (ln := 1310720) R_10 (by decide +kernel) g_15) fun v_13 f_14 => ?_
  have f_16 := q_is_eq f_14 e_18
  refine go_ldc2_w (x := 336) (n := 536870911) (a := 0) (b := 0) (z := 536870911) (by decide +kernel) (by decide +kernel) (by decide +kernel) fun v_19 f_20 => ?_
  refine go_land (by decide +kernel) f_16 f_20 fun v_21 f_22 => ?_
  refine go_l2i (by decide +kernel) f_22 fun v_23 f_24 => ?_
  cases h
  exact go_iret (by decide +kernel) rfl (Or.inl rfl) f_24 (hQ _ _ R_10 (q_out_v (by decide) f_24))
noncomputable def fj_X12_counts_38 (y1 y2 y3 s0 s1 s2 : Int) (m : MM) : Option (Int × MM) := gd (0 ≤ s2 ∧ s2 < 30) <| up m 90 s2 (w32 (s1 + s0)) fun m_42 =>
if y2 = 17 then
gd (0 ≤ y1 ∧ y1 < 30) <| lx (m_42 91 y1) fun x_78 =>
bp (fm_X12_most x_78 y3 m_42) fun x_81 =>
up m_42 91 y1 x_81 fun m_89 =>
some (0, m_89)
else
gd (0 ≤ y1 ∧ y1 < 30) <| lx (m_42 91 y1) fun x_62 =>
up m_42 91 y1 x_62 fun m_64 =>
some (0, m_64)
set_option maxHeartbeats 4000000 in
theorem oj_X12_counts_38 {xs : List Int32} {d : Nat} {S : QS} {L : QL} {Q : QO → QS → Prop} {m : MM} {y1 y2 y3 s0 s1 s2 : Int} {v0 : Value} {v1 : Value} {v2 : Value} {v3 : Value} {w0 : Value} {w1 : Value} {w2 : Value} {w3 : Value}  {rz : Int} {rm : MM}
  (hd : 1 ≤ d) (R : Rp S m) (l0 : q_lo L 0 = some v0) (f0 : q_is 2 v0 68) (l1 : q_lo L 1 = some v1) (f1 : q_is 0 v1 y1) (l2 : q_lo L 2 = some v2) (f2 : q_is 0 v2 y2) (l3 : q_lo L 3 = some v3) (f3 : q_is 0 v3 y3) (fs0 : q_is 0 w0 s0) (fs1 : q_is 0 w1 s1) (fs2 : q_is 0 w2 s2) (fs3 : q_is 2 w3 90)
  (hQ : Ext m rm → ∀ o S1, Rp S1 rm → q_out 9 o rz → Q o S1)
  (h : fj_X12_counts_38 y1 y2 y3 s0 s1 s2 m = some (rz, rm)) : Go xs d qM_X12_counts 38 L [w0, w1, w2, w3] S Q := by
  unfold fj_X12_counts_38 at h
  refine go_iadd (by decide +kernel) fs1 fs0 fun v_39 f_40 => ?_
  obtain ⟨g_41, h⟩ := gd_s h
  obtain ⟨m_42, e_43, h⟩ := up_s h
  refine go_iast (kd := 100) (by decide +kernel) rfl R fs3 fs2 f_40 (fx_k (c := 100) R (by decide +kernel)) (fx_x (a := 90) (ln := 30) R (by decide +kernel) g_41) e_43 (fx_a R.2 (fx_k (c := 100) R (by decide +kernel)) (And.left (fx_x (a := 90) (ln := 30) R (by decide +kernel) g_41)) (by decide +kernel)) fun S_44 R_45 E_46 => ?_
  have E_48 := E_46
  refine go_aload_n (n := 0) (by decide +kernel) l0 f0 ?_
  refine go_getf (x := 76) (ci := 13) (kf := 24) (fin := 1) (t := 2) (by decide +kernel) (by decide +kernel) (by decide +kernel) R_45 f0 (fx_k (c := 13) R_45 (by decide +kernel)) fun v_49 f_50 => ?_
  have f_51 := q_is_eq (b := 91) f_50 (fx_v R_45 (by decide +kernel)).symm
  refine go_iload_n (n := 1) (by decide +kernel) l1 f1 ?_
  refine go_iload_n (n := 2) (by decide +kernel) l2 f2 ?_
  refine go_bipush (n := 17) (z := 17) (by decide +kernel) (by decide) fun v_52 f_53 => ?_
  refine go_icmp (c := .ne) (o := 16) (t := 64) (P := ¬ (y2 = 17)) (by decide +kernel) (by decide +kernel) f2 f_53 (Iff.rfl) (fun hp_54 => ?_) (fun hp_54 => ?_)
  · have h := it_f hp_54 h
    refine go_aload_n (n := 0) (by decide +kernel) l0 f0 ?_
    refine go_getf (x := 76) (ci := 13) (kf := 24) (fin := 1) (t := 2) (by decide +kernel) (by decide +kernel) (by decide +kernel) R_45 f0 (fx_k (c := 13) R_45 (by decide +kernel)) fun v_55 f_56 => ?_
    have f_57 := q_is_eq (b := 91) f_56 (fx_v R_45 (by decide +kernel)).symm
    refine go_iload_n (n := 1) (by decide +kernel) l1 f1 ?_
    obtain ⟨g_60, h⟩ := gd_s h
    obtain ⟨x_62, e_63, h⟩ := lx_s h
    refine go_iald (kd := 100) (by decide +kernel) rfl R_45 f_57 f1 (fx_k (c := 100) R_45 (by decide +kernel)) (fx_x (a := 91) (ln := 30) R_45 (by decide +kernel) g_60) fun v_58 f_59 => ?_
    have f_61 := q_is_eq f_59 e_63
    obtain ⟨m_64, e_65, h⟩ := up_s h
    refine go_iast (kd := 100) (by decide +kernel) rfl R_45 f_51 f1 f_61 (fx_k (c := 100) R_45 (by decide +kernel)) (fx_x (a := 91) (ln := 30) R_45 (by decide +kernel) g_60) e_65 (fx_a R_45.2 (fx_k (c := 100) R_45 (by decide +kernel)) (And.left (fx_x (a := 91) (ln := 30) R_45 (by decide +kernel) g_60)) (by decide +kernel)) fun S_66 R_67 E_68 => ?_
    have E_70 := Ext.tr E_48 E_68
    cases h
    exact go_vret (by decide +kernel) rfl (hQ E_70 _ _ R_67 q_out_n)
  · have h := it_n hp_54 h
    refine go_aload_n (n := 0) (by decide +kernel) l0 f0 ?_
    refine go_getf (x := 76) (ci := 13) (kf := 24) (fin := 1) (t := 2) (by decide +kernel) (by decide +kernel) (by decide +kernel) R_45 f0 (fx_k (c := 13) R_45 (by decide +kernel)) fun v_71 f_72 => ?_
    have f_73 := q_is_eq (b := 91) f_72 (fx_v R_45 (by decide +kernel)).symm
    refine go_iload_n (n := 1) (by decide +kernel) l1 f1 ?_
    obtain ⟨g_76, h⟩ := gd_s h
    obtain ⟨x_78, e_79, h⟩ := lx_s h
    refine go_iald (kd := 100) (by decide +kernel) rfl R_45 f_73 f1 (fx_k (c := 100) R_45 (by decide +kernel)) (fx_x (a := 91) (ln := 30) R_45 (by decide +kernel) g_76) fun v_74 f_75 => ?_
    have f_77 := q_is_eq f_75 e_79
    refine go_iload_n (n := 3) (by decide +kernel) l3 f3 ?_
    obtain ⟨x_81, hc_80, h⟩ := bp_s h
    refine go_callS (x := 338) (mi := 190) (n := 2) (b := 0) (as := [v_74, v3]) (rest := [v1, v_49]) (by decide +kernel) (by decide +kernel) rfl rfl (q_sum8 _ (Nat.le_of_ble_eq_true rfl)) (om_X12_most (Nat.le_trans (by decide) hd) R_45 f_77 f3 hc_80) (fun _ S_85 q_88 => ?_) (fun _ _ qq => kr_x qq)
    refine kr_z (by decide) q_88 fun v_83 f_84 R_86 E_87 => ?_
    refine go_goto (o := 9) (t := 70) (by decide +kernel) (by decide +kernel) ?_
    obtain ⟨m_89, e_90, h⟩ := up_s h
    refine go_iast (kd := 100) (by decide +kernel) rfl R_86 f_51 f1 f_84 (fx_k (c := 100) R_86 (by decide +kernel)) (fx_x (a := 91) (ln := 30) R_86 (by decide +kernel) g_76) e_90 (fx_a R_86.2 (fx_k (c := 100) R_86 (by decide +kernel)) (And.left (fx_x (a := 91) (ln := 30) R_86 (by decide +kernel) g_76)) (by decide +kernel)) fun S_91 R_92 E_93 => ?_
    have E_95 := Ext.tr E_48 E_93
    cases h
    exact go_vret (by decide +kernel) rfl (hQ E_95 _ _ R_92 q_out_n)
noncomputable def fj_X12_counts_18 (y1 y2 y3 s0 s1 s2 : Int) (m : MM) : Option (Int × MM) := gd (0 ≤ s2 ∧ s2 < 30) <| up m 89 s2 (w32 (s1 + s0)) fun m_18 =>
gd (0 ≤ y1 ∧ y1 < 30) <| lx (m_18 90 y1) fun x_32 =>
if y2 = 17 then
fj_X12_counts_38 y1 y2 y3 1 x_32 y1 m_18
else
fj_X12_counts_38 y1 y2 y3 0 x_32 y1 m_18
set_option maxHeartbeats 4000000 in
theorem oj_X12_counts_18 {xs : List Int32} {d : Nat} {S : QS} {L : QL} {Q : QO → QS → Prop} {m : MM} {y1 y2 y3 s0 s1 s2 : Int} {v0 : Value} {v1 : Value} {v2 : Value} {v3 : Value} {w0 : Value} {w1 : Value} {w2 : Value} {w3 : Value}  {rz : Int} {rm : MM}
  (hd : 1 ≤ d) (R : Rp S m) (l0 : q_lo L 0 = some v0) (f0 : q_is 2 v0 68) (l1 : q_lo L 1 = some v1) (f1 : q_is 0 v1 y1) (l2 : q_lo L 2 = some v2) (f2 : q_is 0 v2 y2) (l3 : q_lo L 3 = some v3) (f3 : q_is 0 v3 y3) (fs0 : q_is 0 w0 s0) (fs1 : q_is 0 w1 s1) (fs2 : q_is 0 w2 s2) (fs3 : q_is 2 w3 89)
  (hQ : Ext m rm → ∀ o S1, Rp S1 rm → q_out 9 o rz → Q o S1)
  (h : fj_X12_counts_18 y1 y2 y3 s0 s1 s2 m = some (rz, rm)) : Go xs d qM_X12_counts 18 L [w0, w1, w2, w3] S Q := by
  unfold fj_X12_counts_18 at h
  refine go_iadd (by decide +kernel) fs1 fs0 fun v_15 f_16 => ?_
  obtain ⟨g_17, h⟩ := gd_s h
  obtain ⟨m_18, e_19, h⟩ := up_s h
  refine go_iast (kd := 100) (by decide +kernel) rfl R fs3 fs2 f_16 (fx_k (c := 100) R (by decide +kernel)) (fx_x (a := 89) (ln := 30) R (by decide +kernel) g_17) e_19 (fx_a R.2 (fx_k (c := 100) R (by decide +kernel)) (And.left (fx_x (a := 89) (ln := 30) R (by decide +kernel) g_17)) (by decide +kernel)) fun S_20 R_21 E_22 => ?_
  have E_24 := E_22
  refine go_aload_n (n := 0) (by decide +kernel) l0 f0 ?_
  refine go_getf (x := 73) (ci := 13) (kf := 23) (fin := 1) (t := 2) (by decide +kernel) (by decide +kernel) (by decide +kernel) R_21 f0 (fx_k (c := 13) R_21 (by decide +kernel)) fun v_25 f_26 => ?_
  have f_27 := q_is_eq (b := 90) f_26 (fx_v R_21 (by decide +kernel)).symm
  refine go_iload_n (n := 1) (by decide +kernel) l1 f1 ?_
  refine go_dup2 (by decide +kernel) f1 (Or.inl rfl) f_27 (Or.inr rfl) ?_
  obtain ⟨g_30, h⟩ := gd_s h
  obtain ⟨x_32, e_33, h⟩ := lx_s h
  refine go_iald (kd := 100) (by decide +kernel) rfl R_21 f_27 f1 (fx_k (c := 100) R_21 (by decide +kernel)) (fx_x (a := 90) (ln := 30) R_21 (by decide +kernel) g_30) fun v_28 f_29 => ?_
  have f_31 := q_is_eq f_29 e_33
  refine go_iload_n (n := 2) (by decide +kernel) l2 f2 ?_
  refine go_bipush (n := 17) (z := 17) (by decide +kernel) (by decide) fun v_34 f_35 => ?_
  refine go_icmp (c := .ne) (o := 7) (t := 37) (P := ¬ (y2 = 17)) (by decide +kernel) (by decide +kernel) f2 f_35 (Iff.rfl) (fun hp_36 => ?_) (fun hp_36 => ?_)
  · have h := it_f hp_36 h
    refine go_iconst (n := 0) (z := 0) (by decide +kernel) (by decide) fun v_37 f_38 => ?_
    exact oj_X12_counts_38 hd R_21 l0 f0 l1 f1 l2 f2 l3 f3 f_38 f_31 f1 f_27 (fun b => hQ (Ext.tr E_24 b)) h
  · have h := it_n hp_36 h
    refine go_iconst (n := 1) (z := 1) (by decide +kernel) (by decide) fun v_96 f_97 => ?_
    refine go_goto (o := 4) (t := 38) (by decide +kernel) (by decide +kernel) ?_
    exact oj_X12_counts_38 hd R_21 l0 f0 l1 f1 l2 f2 l3 f3 f_97 f_31 f1 f_27 (fun b => hQ (Ext.tr E_24 b)) h
noncomputable def fm_X12_counts (p1 p2 p3 : Int) (m0 : MM) : Option (Int × MM) := gd (0 ≤ p1 ∧ p1 < 30) <| lx (m0 89 p1) fun x_8 =>
if 7 < p2 then
fj_X12_counts_18 p1 p2 p3 0 x_8 p1 m0
else
fj_X12_counts_18 p1 p2 p3 1 x_8 p1 m0
set_option maxHeartbeats 4000000 in
theorem om_X12_counts {xs : List Int32} {d : Nat} {S : QS} {m0 : MM} {p1 p2 p3 : Int} {v0 : Value} {v1 : Value} {v2 : Value} {v3 : Value} {rz : Int} {rm : MM}
  (hd : 2 ≤ d) (R : Rp S m0) (f0 : q_is 2 v0 68) (f1 : q_is 0 v1 p1) (f2 : q_is 0 v2 p2) (f3 : q_is 0 v3 p3)
  (h : fm_X12_counts p1 p2 p3 m0 = some (rz, rm)) : Mt xs d 208 [v0, v1, v2, v3] S (Cr 9 m0 rm rz) := by
  obtain ⟨d, rfl⟩ : ∃ e, d = e + 1 := ⟨d - 1, by omega⟩
  have hd : 1 ≤ d := Nat.le_of_succ_le_succ hd
  refine Mt.of (M := qM_X12_counts) rfl (by rw [sl_1 (q_is_cat f0 (Or.inr rfl)), sl_1 (q_is_cat f1 (Or.inl rfl)), sl_1 (q_is_cat f2 (Or.inl rfl)), sl_1 (q_is_cat f3 (Or.inl rfl)), sl_0]; decide) ?_
  rw [la_1 (q_is_cat f0 (Or.inr rfl)), la_1 (q_is_cat f1 (Or.inl rfl)), la_1 (q_is_cat f2 (Or.inl rfl)), la_1 (q_is_cat f3 (Or.inl rfl)), la_0]
  obtain ⟨L, hL⟩ : ∃ L : QL, L = [(0, v0), (0 + 1, v1), (0 + 1 + 1, v2), (0 + 1 + 1 + 1, v3)] := ⟨_, rfl⟩
  rw [← hL]
  have l0 : q_lo L 0 = some v0 := by rw [hL]; rfl
  have l1 : q_lo L 1 = some v1 := by rw [hL]; rfl
  have l2 : q_lo L 2 = some v2 := by rw [hL]; rfl
  have l3 : q_lo L 3 = some v3 := by rw [hL]; rfl
  have hQ : Ext m0 rm → ∀ o S1, Rp S1 rm → q_out 9 o rz → (Cr 9 m0 rm rz) o S1 := fun a o S1 b e => ⟨b, a, e⟩
  unfold fm_X12_counts at h
  refine go_aload_n (n := 0) (by decide +kernel) l0 f0 ?_
  refine go_getf (x := 70) (ci := 13) (kf := 22) (fin := 1) (t := 2) (by decide +kernel) (by decide +kernel) (by decide +kernel) R f0 (fx_k (c := 13) R (by decide +kernel)) fun v_1 f_2 => ?_
  have f_3 := q_is_eq (b := 89) f_2 (fx_v R (by decide +kernel)).symm
  refine go_iload_n (n := 1) (by decide +kernel) l1 f1 ?_
  refine go_dup2 (by decide +kernel) f1 (Or.inl rfl) f_3 (Or.inr rfl) ?_
  obtain ⟨g_6, h⟩ := gd_s h
  obtain ⟨x_8, e_9, h⟩ := lx_s h
  refine go_iald (kd := 100) (by decide +kernel) rfl R f_3 f1 (fx_k (c := 100) R (by decide +kernel)) (fx_x (a := 89) (ln := 30) R (by decide +kernel) g_6) fun v_4 f_5 => ?_
  have f_7 := q_is_eq f_5 e_9
  refine go_iload_n (n := 2) (by decide +kernel) l2 f2 ?_
  refine go_bipush (n := 7) (z := 7) (by decide +kernel) (by decide) fun v_10 f_11 => ?_
  refine go_icmp (c := .gt) (o := 7) (t := 17) (P := 7 < p2) (by decide +kernel) (by decide +kernel) f2 f_11 (Iff.rfl) (fun hp_12 => ?_) (fun hp_12 => ?_)
  · have h := it_t hp_12 h
    refine go_iconst (n := 0) (z := 0) (by decide +kernel) (by decide) fun v_13 f_14 => ?_
    exact oj_X12_counts_18 hd R l0 f0 l1 f1 l2 f2 l3 f3 f_14 f_7 f1 f_3 hQ h
  · have h := it_f hp_12 h
    refine go_iconst (n := 1) (z := 1) (by decide +kernel) (by decide) fun v_98 f_99 => ?_
    refine go_goto (o := 4) (t := 18) (by decide +kernel) (by decide +kernel) ?_
    exact oj_X12_counts_18 hd R l0 f0 l1 f1 l2 f2 l3 f3 f_99 f_7 f1 f_3 hQ h
noncomputable def fl_X12_recounts_23 (y1 : Int) : Nat → Int → MM → Option (Int × MM)
  | 0, _, _ => none
  | n + 1, y2, m => gd (0 ≤ y1 ∧ y1 < 30) <| lx (m 86 y1) fun x_52 =>
if y2 < x_52 then
bp (fm_X12_kindAt y1 y2 m) fun x_56 =>
bp (fm_X12_xAt y1 y2 m) fun x_65 =>
bd (fm_X12_counts y1 x_56 x_65 m) fun x_74 m_75 =>
lx (w32 (y2 + 1)) fun x_90 =>
fl_X12_recounts_23 y1 n x_90 m_75
else
some (0, m)
set_option maxHeartbeats 4000000 in
theorem ol_X12_recounts_23 {xs : List Int32} {d : Nat} {Q : QO → QS → Prop} {mb : MM} {y1 : Int} {rz : Int} {rm : MM}
  (hd : 2 ≤ d)
  (hQ : Ext mb rm → ∀ o S1, Rp S1 rm → q_out 9 o rz → Q o S1) :
  ∀ (n : Nat) {m : MM} {S : QS} {L : QL} {y2 : Int} {v0 : Value} {v1 : Value} {v2 : Value} , Ext mb m → fl_X12_recounts_23 y1 n y2 m = some (rz, rm) → Rp S m → q_lo L 0 = some v0 → q_is 2 v0 68 → q_lo L 1 = some v1 → q_is 0 v1 y1 → q_lo L 2 = some v2 → q_is 0 v2 y2 → Go xs d qM_X12_recounts 23 L [] S Q := by
  intro n
  induction n with
  | zero => intro m S L y2 v0 v1 v2; intro E h R l0 f0 l1 f1 l2 f2; cases h
  | succ n ih0 =>
    intro m S L y2 v0 v1 v2; intro E h R l0 f0 l1 f1 l2 f2
    have ih : ∀ mq : MM, Ext mb mq → ∀ {z2 : Int} {Sq : QS} {Lq : QL} {u0 : Value} {u1 : Value} {u2 : Value}, fl_X12_recounts_23 y1 n z2 mq = some (rz, rm) → Rp Sq mq → q_lo Lq 0 = some u0 → q_is 2 u0 68 → q_lo Lq 1 = some u1 → q_is 0 u1 y1 → q_lo Lq 2 = some u2 → q_is 0 u2 z2 → Go xs d qM_X12_recounts 23 Lq [] Sq Q := fun mq b => by intros; exact ih0 b ‹_› ‹_› ‹_› ‹_› ‹_› ‹_› ‹_› ‹_›
    unfold fl_X12_recounts_23 at h
    refine go_iload_n (n := 2) (by decide +kernel) l2 f2 ?_
    refine go_aload_n (n := 0) (by decide +kernel) l0 f0 ?_
    refine go_getf (x := 61) (ci := 13) (kf := 19) (fin := 1) (t := 2) (by decide +kernel) (by decide +kernel) (by decide +kernel) R f0 (fx_k (c := 13) R (by decide +kernel)) fun v_45 f_46 => ?_
    have f_47 := q_is_eq (b := 86) f_46 (fx_v R (by decide +kernel)).symm
    refine go_iload_n (n := 1) (by decide +kernel) l1 f1 ?_
    obtain ⟨g_50, h⟩ := gd_s h
    obtain ⟨x_52, e_53, h⟩ := lx_s h
    refine go_iald (kd := 100) (by decide +kernel) rfl R f_47 f1 (fx_k (c := 100) R (by decide +kernel)) (fx_x (a := 86) (ln := 30) R (by decide +kernel) g_50) fun v_48 f_49 => ?_
    have f_51 := q_is_eq f_49 e_53
    refine go_icmp (c := .ge) (o := 26) (t := 56) (P := ¬ (y2 < x_52)) (by decide +kernel) (by decide +kernel) f2 f_51 (Int.not_lt.symm) (fun hp_54 => ?_) (fun hp_54 => ?_)
    · have h := it_f hp_54 h
      cases h
      exact go_vret (by decide +kernel) rfl (hQ E _ _ R q_out_n)
    · have h := it_n hp_54 h
      refine go_aload_n (n := 0) (by decide +kernel) l0 f0 ?_
      refine go_iload_n (n := 1) (by decide +kernel) l1 f1 ?_
      refine go_aload_n (n := 0) (by decide +kernel) l0 f0 ?_
      refine go_iload_n (n := 1) (by decide +kernel) l1 f1 ?_
      refine go_iload_n (n := 2) (by decide +kernel) l2 f2 ?_
      obtain ⟨x_56, hc_55, h⟩ := bp_s h
      refine go_callV (x := 341) (mi := 204) (n := 2) (ci := 13) (as := [v1, v2]) (rest := [v1, v0]) (by decide +kernel) (by decide +kernel) rfl rfl (q_sum8 _ (Nat.le_of_ble_eq_true rfl)) R f0 (fx_k (c := 13) R (by decide +kernel)) (om_X12_kindAt (Nat.le_trans (by decide) hd) R f0 f1 f2 hc_55) (fun _ S_60 q_63 => ?_) (fun _ _ qq => kr_x qq)
      refine kr_z (by decide) q_63 fun v_58 f_59 R_61 E_62 => ?_
      refine go_aload_n (n := 0) (by decide +kernel) l0 f0 ?_
      refine go_iload_n (n := 1) (by decide +kernel) l1 f1 ?_
      refine go_iload_n (n := 2) (by decide +kernel) l2 f2 ?_
      obtain ⟨x_65, hc_64, h⟩ := bp_s h
      refine go_callV (x := 344) (mi := 206) (n := 2) (ci := 13) (as := [v1, v2]) (rest := [v_58, v1, v0]) (by decide +kernel) (by decide +kernel) rfl rfl (q_sum8 _ (Nat.le_of_ble_eq_true rfl)) R_61 f0 (fx_k (c := 13) R_61 (by decide +kernel)) (om_X12_xAt (Nat.le_trans (by decide) hd) R_61 f0 f1 f2 hc_64) (fun _ S_69 q_72 => ?_) (fun _ _ qq => kr_x qq)
      refine kr_z (by decide) q_72 fun v_67 f_68 R_70 E_71 => ?_
      obtain ⟨x_74, m_75, hc_73, h⟩ := bd_s h
      refine go_callV (x := 347) (mi := 208) (n := 3) (ci := 13) (as := [v1, v_58, v_67]) (rest := []) (by decide +kernel) (by decide +kernel) rfl rfl (q_sum8 _ (Nat.le_of_ble_eq_true rfl)) R_70 f0 (fx_k (c := 13) R_70 (by decide +kernel)) (om_X12_counts (Nat.le_trans (by decide) hd) R_70 f0 f1 f_59 f_68 hc_73) (fun _ S_78 q_81 => ?_) (fun _ _ qq => kr_x qq)
      refine kr_v q_81 fun R_79 E_80 => ?_
      have E_84 := Ext.tr E E_80
      refine go_iinc (n := 2) (c := 1) (c' := 1) (by decide +kernel) (by decide +kernel) l2 f2 (by decide) fun L_85 v_86 f_87 l_88 kp_89 => ?_
      obtain ⟨x_90, e_91, h⟩ := lx_s h
      have f_92 := q_is_eq f_87 e_91
      have l_93 := kp_89 0 _ l0 (by decide) (Or.inl (by decide))
      have l_94 := kp_89 1 _ l1 (by decide) (Or.inr (q_is_cat f1 (Or.inl rfl)))
      refine go_goto (o := (-30)) (t := 23) (by decide +kernel) (by decide +kernel) ?_
      exact ih m_75 E_84 h R_79 l_93 f0 l_94 f1 l_88 f_92
noncomputable def fm_X12_recounts (p1 : Int) (m0 : MM) : Option (Int × MM) := gd (0 ≤ p1 ∧ p1 < 30) <| up m0 89 p1 0 fun m_7 =>
up m_7 90 p1 0 fun m_19 =>
up m_19 91 p1 0 fun m_31 =>
fl_X12_recounts_23 p1  BIG 0 m_31
set_option maxHeartbeats 4000000 in
theorem om_X12_recounts {xs : List Int32} {d : Nat} {S : QS} {m0 : MM} {p1 : Int} {v0 : Value} {v1 : Value} {rz : Int} {rm : MM}
  (hd : 3 ≤ d) (R : Rp S m0) (f0 : q_is 2 v0 68) (f1 : q_is 0 v1 p1)
  (h : fm_X12_recounts p1 m0 = some (rz, rm)) : Mt xs d 209 [v0, v1] S (Cr 9 m0 rm rz) := by
  obtain ⟨d, rfl⟩ : ∃ e, d = e + 1 := ⟨d - 1, by omega⟩
  have hd : 2 ≤ d := Nat.le_of_succ_le_succ hd
  refine Mt.of (M := qM_X12_recounts) rfl (by rw [sl_1 (q_is_cat f0 (Or.inr rfl)), sl_1 (q_is_cat f1 (Or.inl rfl)), sl_0]; decide) ?_
  rw [la_1 (q_is_cat f0 (Or.inr rfl)), la_1 (q_is_cat f1 (Or.inl rfl)), la_0]
  obtain ⟨L, hL⟩ : ∃ L : QL, L = [(0, v0), (0 + 1, v1)] := ⟨_, rfl⟩
  rw [← hL]
  have l0 : q_lo L 0 = some v0 := by rw [hL]; rfl
  have l1 : q_lo L 1 = some v1 := by rw [hL]; rfl
  have hQ : Ext m0 rm → ∀ o S1, Rp S1 rm → q_out 9 o rz → (Cr 9 m0 rm rz) o S1 := fun a o S1 b e => ⟨b, a, e⟩
  unfold fm_X12_recounts at h
  refine go_aload_n (n := 0) (by decide +kernel) l0 f0 ?_
  refine go_getf (x := 70) (ci := 13) (kf := 22) (fin := 1) (t := 2) (by decide +kernel) (by decide +kernel) (by decide +kernel) R f0 (fx_k (c := 13) R (by decide +kernel)) fun v_1 f_2 => ?_
  have f_3 := q_is_eq (b := 89) f_2 (fx_v R (by decide +kernel)).symm
  refine go_iload_n (n := 1) (by decide +kernel) l1 f1 ?_
  refine go_iconst (n := 0) (z := 0) (by decide +kernel) (by decide) fun v_4 f_5 => ?_
  obtain ⟨g_6, h⟩ := gd_s h
  obtain ⟨m_7, e_8, h⟩ := up_s h
  refine go_iast (kd := 100) (by decide +kernel) rfl R f_3 f1 f_5 (fx_k (c := 100) R (by decide +kernel)) (fx_x (a := 89) (ln := 30) R (by decide +kernel) g_6) e_8 (fx_a R.2 (fx_k (c := 100) R (by decide +kernel)) (And.left (fx_x (a := 89) (ln := 30) R (by decide +kernel) g_6)) (by decide +kernel)) fun S_9 R_10 E_11 => ?_
  have E_13 := E_11
  refine go_aload_n (n := 0) (by decide +kernel) l0 f0 ?_
  refine go_getf (x := 73) (ci := 13) (kf := 23) (fin := 1) (t := 2) (by decide +kernel) (by decide +kernel) (by decide +kernel) R_10 f0 (fx_k (c := 13) R_10 (by decide +kernel)) fun v_14 f_15 => ?_
  have f_16 := q_is_eq (b := 90) f_15 (fx_v R_10 (by decide +kernel)).symm
  refine go_iload_n (n := 1) (by decide +kernel) l1 f1 ?_
  refine go_iconst (n := 0) (z := 0) (by decide +kernel) (by decide) fun v_17 f_18 => ?_
  obtain ⟨m_19, e_20, h⟩ := up_s h
  refine go_iast (kd := 100) (by decide +kernel) rfl R_10 f_16 f1 f_18 (fx_k (c := 100) R_10 (by decide +kernel)) (fx_x (a := 90) (ln := 30) R_10 (by decide +kernel) g_6) e_20 (fx_a R_10.2 (fx_k (c := 100) R_10 (by decide +kernel)) (And.left (fx_x (a := 90) (ln := 30) R_10 (by decide +kernel) g_6)) (by decide +kernel)) fun S_21 R_22 E_23 => ?_
  have E_25 := Ext.tr E_13 E_23
  refine go_aload_n (n := 0) (by decide +kernel) l0 f0 ?_
  refine go_getf (x := 76) (ci := 13) (kf := 24) (fin := 1) (t := 2) (by decide +kernel) (by decide +kernel) (by decide +kernel) R_22 f0 (fx_k (c := 13) R_22 (by decide +kernel)) fun v_26 f_27 => ?_
  have f_28 := q_is_eq (b := 91) f_27 (fx_v R_22 (by decide +kernel)).symm
  refine go_iload_n (n := 1) (by decide +kernel) l1 f1 ?_
  refine go_iconst (n := 0) (z := 0) (by decide +kernel) (by decide) fun v_29 f_30 => ?_
  obtain ⟨m_31, e_32, h⟩ := up_s h
  refine go_iast (kd := 100) (by decide +kernel) rfl R_22 f_28 f1 f_30 (fx_k (c := 100) R_22 (by decide +kernel)) (fx_x (a := 91) (ln := 30) R_22 (by decide +kernel) g_6) e_32 (fx_a R_22.2 (fx_k (c := 100) R_22 (by decide +kernel)) (And.left (fx_x (a := 91) (ln := 30) R_22 (by decide +kernel) g_6)) (by decide +kernel)) fun S_33 R_34 E_35 => ?_
  have E_37 := Ext.tr E_25 E_35
  refine go_iconst (n := 0) (z := 0) (by decide +kernel) (by decide) fun v_38 f_39 => ?_
  refine go_istore_n (n := 2) (by decide +kernel) (by decide +kernel) f_39 fun L_40 l_41 kp_42 => ?_
  have l_43 := kp_42 0 _ l0 (by decide) (Or.inl (by decide))
  have l_44 := kp_42 1 _ l1 (by decide) (Or.inr (q_is_cat f1 (Or.inl rfl)))
  refine ol_X12_recounts_23 hd   (fun b => hQ (Ext.tr E_37 b)) BIG (Ext.rf _) h R_34 l_43 f0 l_44 f1 l_41 f_39
noncomputable def fj_X12_puts_119 (y1 y2 y3 y4 s0 : Int) (m : MM) : Option (Int × MM) := gd (0 ≤ y1 ∧ y1 < 30) <| lx (m 86 y1) fun x_80 =>
bp (fm_X12_at y1 x_80 m) fun x_83 =>
gd (0 ≤ x_83 ∧ x_83 < 1310720) <| up m 95 x_83 (lOr (lOr (lShl (w32 ((w32 (1000 * y2)) + y4)) 48) (lShl y3 29)) s0) fun m_116 =>
lx (m_116 86 y1) fun x_129 =>
up m_116 86 y1 (w32 (x_129 + 1)) fun m_135 =>
bd (fm_X12_counts y1 y2 y3 m_135) fun x_143 m_144 =>
lx (m_144 86 y1) fun x_160 =>
some (w32 (x_160 - 1), m_144)
set_option maxHeartbeats 4000000 in
theorem oj_X12_puts_119 {xs : List Int32} {d : Nat} {S : QS} {L : QL} {Q : QO → QS → Prop} {m : MM} {y1 y2 y3 y4 s0 : Int} {v0 : Value} {v1 : Value} {v2 : Value} {v3 : Value} {v4 : Value} {w0 : Value}  {rz : Int} {rm : MM}
  (hd : 2 ≤ d) (R : Rp S m) (l0 : q_lo L 0 = some v0) (f0 : q_is 2 v0 68) (l1 : q_lo L 1 = some v1) (f1 : q_is 0 v1 y1) (l2 : q_lo L 2 = some v2) (f2 : q_is 0 v2 y2) (l3 : q_lo L 3 = some v3) (f3 : q_is 0 v3 y3) (l4 : q_lo L 4 = some v4) (f4 : q_is 0 v4 y4) (fs0 : q_is 0 w0 s0)
  (hQ : Ext m rm → ∀ o S1, Rp S1 rm → q_out 0 o rz → Q o S1)
  (h : fj_X12_puts_119 y1 y2 y3 y4 s0 m = some (rz, rm)) : Go xs d qM_X12_puts 119 L [w0] S Q := by
  unfold fj_X12_puts_119 at h
  refine go_istore (n := 6) (by decide +kernel) (by decide +kernel) fs0 fun L_62 l_63 kp_64 => ?_
  have l_65 := kp_64 0 _ l0 (by decide) (Or.inl (by decide))
  have l_66 := kp_64 1 _ l1 (by decide) (Or.inl (by decide))
  have l_67 := kp_64 2 _ l2 (by decide) (Or.inl (by decide))
  have l_68 := kp_64 3 _ l3 (by decide) (Or.inl (by decide))
  have l_69 := kp_64 4 _ l4 (by decide) (Or.inl (by decide))
  refine go_aload_n (n := 0) (by decide +kernel) l_65 f0 ?_
  refine go_getf (x := 89) (ci := 13) (kf := 28) (fin := 1) (t := 2) (by decide +kernel) (by decide +kernel) (by decide +kernel) R f0 (fx_k (c := 13) R (by decide +kernel)) fun v_70 f_71 => ?_
  have f_72 := q_is_eq (b := 95) f_71 (fx_v R (by decide +kernel)).symm
  refine go_aload_n (n := 0) (by decide +kernel) l_65 f0 ?_
  refine go_iload_n (n := 1) (by decide +kernel) l_66 f1 ?_
  refine go_aload_n (n := 0) (by decide +kernel) l_65 f0 ?_
  refine go_getf (x := 61) (ci := 13) (kf := 19) (fin := 1) (t := 2) (by decide +kernel) (by decide +kernel) (by decide +kernel) R f0 (fx_k (c := 13) R (by decide +kernel)) fun v_73 f_74 => ?_
  have f_75 := q_is_eq (b := 86) f_74 (fx_v R (by decide +kernel)).symm
  refine go_iload_n (n := 1) (by decide +kernel) l_66 f1 ?_
  obtain ⟨g_78, h⟩ := gd_s h
  obtain ⟨x_80, e_81, h⟩ := lx_s h
  refine go_iald (kd := 100) (by decide +kernel) rfl R f_75 f1 (fx_k (c := 100) R (by decide +kernel)) (fx_x (a := 86) (ln := 30) R (by decide +kernel) g_78) fun v_76 f_77 => ?_
  have f_79 := q_is_eq f_77 e_81
  obtain ⟨x_83, hc_82, h⟩ := bp_s h
  refine go_callV (x := 331) (mi := 203) (n := 2) (ci := 13) (as := [v1, v_76]) (rest := [v_70]) (by decide +kernel) (by decide +kernel) rfl rfl (q_sum8 _ (Nat.le_of_ble_eq_true rfl)) R f0 (fx_k (c := 13) R (by decide +kernel)) (om_X12_at (Nat.le_trans (by decide) hd) R f0 f1 f_79 hc_82) (fun _ S_87 q_90 => ?_) (fun _ _ qq => kr_x qq)
  refine kr_z (by decide) q_90 fun v_85 f_86 R_88 E_89 => ?_
  refine go_sipush (n := 1000) (z := 1000) (by decide +kernel) (by decide) fun v_91 f_92 => ?_
  refine go_iload_n (n := 2) (by decide +kernel) l_67 f2 ?_
  refine go_imul (by decide +kernel) f_92 f2 fun v_93 f_94 => ?_
  refine go_iload (n := 4) (by decide +kernel) l_69 f4 ?_
  refine go_iadd (by decide +kernel) f_94 f4 fun v_95 f_96 => ?_
  refine go_i2l (by decide +kernel) f_96 fun v_97 f_98 => ?_
  refine go_bipush (n := 48) (z := 48) (by decide +kernel) (by decide) fun v_99 f_100 => ?_
  refine go_lshl (by decide +kernel) f_98 f_100 fun v_101 f_102 => ?_
  refine go_iload_n (n := 3) (by decide +kernel) l_68 f3 ?_
  refine go_i2l (by decide +kernel) f3 fun v_103 f_104 => ?_
  refine go_bipush (n := 29) (z := 29) (by decide +kernel) (by decide) fun v_105 f_106 => ?_
  refine go_lshl (by decide +kernel) f_104 f_106 fun v_107 f_108 => ?_
  refine go_lor (by decide +kernel) f_102 f_108 fun v_109 f_110 => ?_
  refine go_iload (n := 6) (by decide +kernel) l_63 fs0 ?_
  refine go_i2l (by decide +kernel) fs0 fun v_111 f_112 => ?_
  refine go_lor (by decide +kernel) f_110 f_112 fun v_113 f_114 => ?_
  obtain ⟨g_115, h⟩ := gd_s h
  obtain ⟨m_116, e_117, h⟩ := up_s h
  refine go_last (kd := 101) (by decide +kernel) rfl R_88 f_72 f_86 f_114 (fx_k (c := 101) R_88 (by decide +kernel)) (fx_x (a := 95) (ln := 1310720) R_88 (by decide +kernel) g_115) e_117 (fx_a R_88.2 (fx_k (c := 101) R_88 (by decide +kernel)) (And.left (fx_x (a := 95) (ln := 1310720) R_88 (by decide +kernel) g_115)) (by decide +kernel)) fun S_118 R_119 E_120 => ?_
  have E_122 := E_120
  refine go_aload_n (n := 0) (by decide +kernel) l_65 f0 ?_
  refine go_getf (x := 61) (ci := 13) (kf := 19) (fin := 1) (t := 2) (by decide +kernel) (by decide +kernel) (by decide +kernel) R_119 f0 (fx_k (c := 13) R_119 (by decide +kernel)) fun v_123 f_124 => ?_
  have f_125 := q_is_eq (b := 86) f_124 (fx_v R_119 (by decide +kernel)).symm
  refine go_iload_n (n := 1) (by decide +kernel) l_66 f1 ?_
  refine go_dup2 (by decide +kernel) f1 (Or.inl rfl) f_125 (Or.inr rfl) ?_
  obtain ⟨x_129, e_130, h⟩ := lx_s h
  refine go_iald (kd := 100) (by decide +kernel) rfl R_119 f_125 f1 (fx_k (c := 100) R_119 (by decide +kernel)) (fx_x (a := 86) (ln := 30) R_119 (by decide +kernel) g_78) fun v_126 f_127 => ?_
  have f_128 := q_is_eq f_127 e_130
  refine go_iconst (n := 1) (z := 1) (by decide +kernel) (by decide) fun v_131 f_132 => ?_
  refine go_iadd (by decide +kernel) f_128 f_132 fun v_133 f_134 => ?_
  obtain ⟨m_135, e_136, h⟩ := up_s h
  refine go_iast (kd := 100) (by decide +kernel) rfl R_119 f_125 f1 f_134 (fx_k (c := 100) R_119 (by decide +kernel)) (fx_x (a := 86) (ln := 30) R_119 (by decide +kernel) g_78) e_136 (fx_a R_119.2 (fx_k (c := 100) R_119 (by decide +kernel)) (And.left (fx_x (a := 86) (ln := 30) R_119 (by decide +kernel) g_78)) (by decide +kernel)) fun S_137 R_138 E_139 => ?_
  have E_141 := Ext.tr E_122 E_139
  refine go_aload_n (n := 0) (by decide +kernel) l_65 f0 ?_
  refine go_iload_n (n := 1) (by decide +kernel) l_66 f1 ?_
  refine go_iload_n (n := 2) (by decide +kernel) l_67 f2 ?_
  refine go_iload_n (n := 3) (by decide +kernel) l_68 f3 ?_
  obtain ⟨x_143, m_144, hc_142, h⟩ := bd_s h
  refine go_callV (x := 347) (mi := 208) (n := 3) (ci := 13) (as := [v1, v2, v3]) (rest := []) (by decide +kernel) (by decide +kernel) rfl rfl (q_sum8 _ (Nat.le_of_ble_eq_true rfl)) R_138 f0 (fx_k (c := 13) R_138 (by decide +kernel)) (om_X12_counts (Nat.le_trans (by decide) hd) R_138 f0 f1 f2 f3 hc_142) (fun _ S_147 q_150 => ?_) (fun _ _ qq => kr_x qq)
  refine kr_v q_150 fun R_148 E_149 => ?_
  have E_153 := Ext.tr E_141 E_149
  refine go_aload_n (n := 0) (by decide +kernel) l_65 f0 ?_
  refine go_getf (x := 61) (ci := 13) (kf := 19) (fin := 1) (t := 2) (by decide +kernel) (by decide +kernel) (by decide +kernel) R_148 f0 (fx_k (c := 13) R_148 (by decide +kernel)) fun v_154 f_155 => ?_
  have f_156 := q_is_eq (b := 86) f_155 (fx_v R_148 (by decide +kernel)).symm
  refine go_iload_n (n := 1) (by decide +kernel) l_66 f1 ?_
  obtain ⟨x_160, e_161, h⟩ := lx_s h
  refine go_iald (kd := 100) (by decide +kernel) rfl R_148 f_156 f1 (fx_k (c := 100) R_148 (by decide +kernel)) (fx_x (a := 86) (ln := 30) R_148 (by decide +kernel) g_78) fun v_157 f_158 => ?_
  have f_159 := q_is_eq f_158 e_161
  refine go_iconst (n := 1) (z := 1) (by decide +kernel) (by decide) fun v_162 f_163 => ?_
  refine go_isub (by decide +kernel) f_159 f_163 fun v_164 f_165 => ?_
  cases h
  exact go_iret (by decide +kernel) rfl (Or.inl rfl) f_165 (hQ E_153 _ _ R_148 (q_out_v (by decide) f_165))
noncomputable def fj_X12_puts_89 (y1 y2 y3 y4 : Int) (m : MM) : Option (Int × MM) := if 7 < y2 then
lx (m 68 0) fun x_60 =>
fj_X12_puts_119 y1 y2 y3 y4 x_60 m
else
lx (m 68 29) fun x_171 =>
lx (m 68 0) fun x_178 =>
fj_X12_puts_119 y1 y2 y3 y4 (w32 ((w32 (1000 * x_171)) + (Int.tmod x_178 1000))) m
set_option maxHeartbeats 4000000 in
theorem oj_X12_puts_89 {xs : List Int32} {d : Nat} {S : QS} {L : QL} {Q : QO → QS → Prop} {m : MM} {y1 y2 y3 y4 : Int} {v0 : Value} {v1 : Value} {v2 : Value} {v3 : Value} {v4 : Value}  {rz : Int} {rm : MM}
  (hd : 2 ≤ d) (R : Rp S m) (l0 : q_lo L 0 = some v0) (f0 : q_is 2 v0 68) (l1 : q_lo L 1 = some v1) (f1 : q_is 0 v1 y1) (l2 : q_lo L 2 = some v2) (f2 : q_is 0 v2 y2) (l3 : q_lo L 3 = some v3) (f3 : q_is 0 v3 y3) (l4 : q_lo L 4 = some v4) (f4 : q_is 0 v4 y4)
  (hQ : Ext m rm → ∀ o S1, Rp S1 rm → q_out 0 o rz → Q o S1)
  (h : fj_X12_puts_89 y1 y2 y3 y4 m = some (rz, rm)) : Go xs d qM_X12_puts 89 L [] S Q := by
  unfold fj_X12_puts_89 at h
  refine go_iload_n (n := 2) (by decide +kernel) l2 f2 ?_
  refine go_bipush (n := 7) (z := 7) (by decide +kernel) (by decide) fun v_54 f_55 => ?_
  refine go_icmp (c := .gt) (o := 23) (t := 115) (P := 7 < y2) (by decide +kernel) (by decide +kernel) f2 f_55 (Iff.rfl) (fun hp_56 => ?_) (fun hp_56 => ?_)
  · have h := it_t hp_56 h
    refine go_aload_n (n := 0) (by decide +kernel) l0 f0 ?_
    obtain ⟨x_60, e_61, h⟩ := lx_s h
    refine go_getf (x := 357) (ci := 13) (kf := 0) (fin := 0) (t := 0) (by decide +kernel) (by decide +kernel) (by decide +kernel) R f0 (fx_k (c := 13) R (by decide +kernel)) fun v_57 f_58 => ?_
    have f_59 := q_is_eq f_58 e_61
    exact oj_X12_puts_119 hd R l0 f0 l1 f1 l2 f2 l3 f3 l4 f4 f_59 hQ h
  · have h := it_f hp_56 h
    refine go_sipush (n := 1000) (z := 1000) (by decide +kernel) (by decide) fun v_166 f_167 => ?_
    refine go_aload_n (n := 0) (by decide +kernel) l0 f0 ?_
    obtain ⟨x_171, e_172, h⟩ := lx_s h
    refine go_getf (x := 354) (ci := 13) (kf := 29) (fin := 0) (t := 0) (by decide +kernel) (by decide +kernel) (by decide +kernel) R f0 (fx_k (c := 13) R (by decide +kernel)) fun v_168 f_169 => ?_
    have f_170 := q_is_eq f_169 e_172
    refine go_imul (by decide +kernel) f_167 f_170 fun v_173 f_174 => ?_
    refine go_aload_n (n := 0) (by decide +kernel) l0 f0 ?_
    obtain ⟨x_178, e_179, h⟩ := lx_s h
    refine go_getf (x := 357) (ci := 13) (kf := 0) (fin := 0) (t := 0) (by decide +kernel) (by decide +kernel) (by decide +kernel) R f0 (fx_k (c := 13) R (by decide +kernel)) fun v_175 f_176 => ?_
    have f_177 := q_is_eq f_176 e_179
    refine go_sipush (n := 1000) (z := 1000) (by decide +kernel) (by decide) fun v_180 f_181 => ?_
    refine go_irem (by decide +kernel) f_177 f_181 (by decide) fun v_182 f_183 => ?_
    refine go_iadd (by decide +kernel) f_174 f_183 fun v_184 f_185 => ?_
    refine go_goto (o := 7) (t := 119) (by decide +kernel) (by decide +kernel) ?_
    exact oj_X12_puts_119 hd R l0 f0 l1 f1 l2 f2 l3 f3 l4 f4 f_185 hQ h
noncomputable def fj_X12_puts_80 (y1 y2 y3 y4 s0 s1 : Int) (m : MM) : Option (Int × MM) := up m 68 29 (w32 (s1 + s0)) fun m_201 =>
up m_201 68 30 y1 fun m_208 =>
fj_X12_puts_89 y1 y2 y3 y4 m_208
set_option maxHeartbeats 4000000 in
theorem oj_X12_puts_80 {xs : List Int32} {d : Nat} {S : QS} {L : QL} {Q : QO → QS → Prop} {m : MM} {y1 y2 y3 y4 s0 s1 : Int} {v0 : Value} {v1 : Value} {v2 : Value} {v3 : Value} {v4 : Value} {w0 : Value} {w1 : Value} {w2 : Value}  {rz : Int} {rm : MM}
  (hd : 2 ≤ d) (R : Rp S m) (l0 : q_lo L 0 = some v0) (f0 : q_is 2 v0 68) (l1 : q_lo L 1 = some v1) (f1 : q_is 0 v1 y1) (l2 : q_lo L 2 = some v2) (f2 : q_is 0 v2 y2) (l3 : q_lo L 3 = some v3) (f3 : q_is 0 v3 y3) (l4 : q_lo L 4 = some v4) (f4 : q_is 0 v4 y4) (fs0 : q_is 0 w0 s0) (fs1 : q_is 0 w1 s1) (fs2 : q_is 2 w2 68)
  (hQ : Ext m rm → ∀ o S1, Rp S1 rm → q_out 0 o rz → Q o S1)
  (h : fj_X12_puts_80 y1 y2 y3 y4 s0 s1 m = some (rz, rm)) : Go xs d qM_X12_puts 80 L [w0, w1, w2] S Q := by
  unfold fj_X12_puts_80 at h
  refine go_iadd (by decide +kernel) fs1 fs0 fun v_199 f_200 => ?_
  obtain ⟨m_201, e_202, h⟩ := up_s h
  refine go_putf (x := 354) (ci := 13) (kf := 29) (fin := 0) (zt := 0) (by decide +kernel) (by decide +kernel) (by decide) (by decide +kernel) (by decide) (Or.inl rfl) R fs2 f_200 (fun hq => absurd hq (by decide)) (fx_k (c := 13) R (by decide +kernel)) e_202 (fx_f (j := 29) R.2 (fx_k (c := 13) R (by decide +kernel)) (by decide +kernel)) fun S_203 R_204 E_205 => ?_
  have E_207 := E_205
  refine go_aload_n (n := 0) (by decide +kernel) l0 f0 ?_
  refine go_iload_n (n := 1) (by decide +kernel) l1 f1 ?_
  obtain ⟨m_208, e_209, h⟩ := up_s h
  refine go_putf (x := 93) (ci := 13) (kf := 30) (fin := 0) (zt := 0) (by decide +kernel) (by decide +kernel) (by decide) (by decide +kernel) (by decide) (Or.inl rfl) R_204 f0 f1 (fun hq => absurd hq (by decide)) (fx_k (c := 13) R_204 (by decide +kernel)) e_209 (fx_f (j := 30) R_204.2 (fx_k (c := 13) R_204 (by decide +kernel)) (by decide +kernel)) fun S_210 R_211 E_212 => ?_
  have E_214 := Ext.tr E_207 E_212
  exact oj_X12_puts_89 hd R_211 l0 f0 l1 f1 l2 f2 l3 f3 l4 f4 (fun b => hQ (Ext.tr E_214 b)) h
noncomputable def fj_X12_puts_56 (y1 y2 y3 y4 : Int) (m : MM) : Option (Int × MM) := if 7 < y2 then
fj_X12_puts_89 y1 y2 y3 y4 m
else
lx (m 68 29) fun x_189 =>
lx (m 68 30) fun x_194 =>
if x_194 = y1 then
fj_X12_puts_80 y1 y2 y3 y4 0 x_189 m
else
fj_X12_puts_80 y1 y2 y3 y4 1 x_189 m
set_option maxHeartbeats 4000000 in
theorem oj_X12_puts_56 {xs : List Int32} {d : Nat} {S : QS} {L : QL} {Q : QO → QS → Prop} {m : MM} {y1 y2 y3 y4 : Int} {v0 : Value} {v1 : Value} {v2 : Value} {v3 : Value} {v4 : Value}  {rz : Int} {rm : MM}
  (hd : 2 ≤ d) (R : Rp S m) (l0 : q_lo L 0 = some v0) (f0 : q_is 2 v0 68) (l1 : q_lo L 1 = some v1) (f1 : q_is 0 v1 y1) (l2 : q_lo L 2 = some v2) (f2 : q_is 0 v2 y2) (l3 : q_lo L 3 = some v3) (f3 : q_is 0 v3 y3) (l4 : q_lo L 4 = some v4) (f4 : q_is 0 v4 y4)
  (hQ : Ext m rm → ∀ o S1, Rp S1 rm → q_out 0 o rz → Q o S1)
  (h : fj_X12_puts_56 y1 y2 y3 y4 m = some (rz, rm)) : Go xs d qM_X12_puts 56 L [] S Q := by
  unfold fj_X12_puts_56 at h
  refine go_iload_n (n := 2) (by decide +kernel) l2 f2 ?_
  refine go_bipush (n := 7) (z := 7) (by decide +kernel) (by decide) fun v_51 f_52 => ?_
  refine go_icmp (c := .gt) (o := 30) (t := 89) (P := 7 < y2) (by decide +kernel) (by decide +kernel) f2 f_52 (Iff.rfl) (fun hp_53 => ?_) (fun hp_53 => ?_)
  · have h := it_t hp_53 h
    exact oj_X12_puts_89 hd R l0 f0 l1 f1 l2 f2 l3 f3 l4 f4 hQ h
  · have h := it_f hp_53 h
    refine go_aload_n (n := 0) (by decide +kernel) l0 f0 ?_
    refine go_dup (by decide +kernel) f0 (Or.inr rfl) ?_
    obtain ⟨x_189, e_190, h⟩ := lx_s h
    refine go_getf (x := 354) (ci := 13) (kf := 29) (fin := 0) (t := 0) (by decide +kernel) (by decide +kernel) (by decide +kernel) R f0 (fx_k (c := 13) R (by decide +kernel)) fun v_186 f_187 => ?_
    have f_188 := q_is_eq f_187 e_190
    refine go_aload_n (n := 0) (by decide +kernel) l0 f0 ?_
    obtain ⟨x_194, e_195, h⟩ := lx_s h
    refine go_getf (x := 93) (ci := 13) (kf := 30) (fin := 0) (t := 0) (by decide +kernel) (by decide +kernel) (by decide +kernel) R f0 (fx_k (c := 13) R (by decide +kernel)) fun v_191 f_192 => ?_
    have f_193 := q_is_eq f_192 e_195
    refine go_iload_n (n := 1) (by decide +kernel) l1 f1 ?_
    refine go_icmp (c := .ne) (o := 7) (t := 79) (P := ¬ (x_194 = y1)) (by decide +kernel) (by decide +kernel) f_193 f1 (Iff.rfl) (fun hp_196 => ?_) (fun hp_196 => ?_)
    · have h := it_f hp_196 h
      refine go_iconst (n := 1) (z := 1) (by decide +kernel) (by decide) fun v_197 f_198 => ?_
      exact oj_X12_puts_80 hd R l0 f0 l1 f1 l2 f2 l3 f3 l4 f4 f_198 f_188 f0 hQ h
    · have h := it_n hp_196 h
      refine go_iconst (n := 0) (z := 0) (by decide +kernel) (by decide) fun v_215 f_216 => ?_
      refine go_goto (o := 4) (t := 80) (by decide +kernel) (by decide +kernel) ?_
      exact oj_X12_puts_80 hd R l0 f0 l1 f1 l2 f2 l3 f3 l4 f4 f_216 f_188 f0 hQ h
noncomputable def fm_X12_puts (p1 p2 p3 p4 : Int) (m0 : MM) : Option (Int × MM) := gd (0 ≤ p1 ∧ p1 < 30) <| lx (m0 86 p1) fun x_12 =>
lx (m0 88 p1) fun x_20 =>
lx (w32 ((w32 (2048 * p1)) + (w32 (Int.tdiv (w32 (x_12 - x_20)) 256)))) fun x_30 =>
gd (0 ≤ x_30 ∧ x_30 < 61440) <| lx (m0 96 x_30) fun x_48 =>
if x_48 = 0 then
lx (m0 68 32) fun x_220 =>
up m0 68 32 (w32 (x_220 + 1)) fun m_226 =>
lx (m_226 68 32) fun x_239 =>
up m_226 96 x_30 x_239 fun m_241 =>
fj_X12_puts_56 p1 p2 p3 p4 m_241
else
fj_X12_puts_56 p1 p2 p3 p4 m0
set_option maxHeartbeats 4000000 in
theorem om_X12_puts {xs : List Int32} {d : Nat} {S : QS} {m0 : MM} {p1 p2 p3 p4 : Int} {v0 : Value} {v1 : Value} {v2 : Value} {v3 : Value} {v4 : Value} {rz : Int} {rm : MM}
  (hd : 3 ≤ d) (R : Rp S m0) (f0 : q_is 2 v0 68) (f1 : q_is 0 v1 p1) (f2 : q_is 0 v2 p2) (f3 : q_is 0 v3 p3) (f4 : q_is 0 v4 p4)
  (h : fm_X12_puts p1 p2 p3 p4 m0 = some (rz, rm)) : Mt xs d 210 [v0, v1, v2, v3, v4] S (Cr 0 m0 rm rz) := by
  obtain ⟨d, rfl⟩ : ∃ e, d = e + 1 := ⟨d - 1, by omega⟩
  have hd : 2 ≤ d := Nat.le_of_succ_le_succ hd
  refine Mt.of (M := qM_X12_puts) rfl (by rw [sl_1 (q_is_cat f0 (Or.inr rfl)), sl_1 (q_is_cat f1 (Or.inl rfl)), sl_1 (q_is_cat f2 (Or.inl rfl)), sl_1 (q_is_cat f3 (Or.inl rfl)), sl_1 (q_is_cat f4 (Or.inl rfl)), sl_0]; decide) ?_
  rw [la_1 (q_is_cat f0 (Or.inr rfl)), la_1 (q_is_cat f1 (Or.inl rfl)), la_1 (q_is_cat f2 (Or.inl rfl)), la_1 (q_is_cat f3 (Or.inl rfl)), la_1 (q_is_cat f4 (Or.inl rfl)), la_0]
  obtain ⟨L, hL⟩ : ∃ L : QL, L = [(0, v0), (0 + 1, v1), (0 + 1 + 1, v2), (0 + 1 + 1 + 1, v3), (0 + 1 + 1 + 1 + 1, v4)] := ⟨_, rfl⟩
  rw [← hL]
  have l0 : q_lo L 0 = some v0 := by rw [hL]; rfl
  have l1 : q_lo L 1 = some v1 := by rw [hL]; rfl
  have l2 : q_lo L 2 = some v2 := by rw [hL]; rfl
  have l3 : q_lo L 3 = some v3 := by rw [hL]; rfl
  have l4 : q_lo L 4 = some v4 := by rw [hL]; rfl
  have hQ : Ext m0 rm → ∀ o S1, Rp S1 rm → q_out 0 o rz → (Cr 0 m0 rm rz) o S1 := fun a o S1 b e => ⟨b, a, e⟩
  unfold fm_X12_puts at h
  refine go_sipush (n := 2048) (z := 2048) (by decide +kernel) (by decide) fun v_1 f_2 => ?_
  refine go_iload_n (n := 1) (by decide +kernel) l1 f1 ?_
  refine go_imul (by decide +kernel) f_2 f1 fun v_3 f_4 => ?_
  refine go_aload_n (n := 0) (by decide +kernel) l0 f0 ?_
  refine go_getf (x := 61) (ci := 13) (kf := 19) (fin := 1) (t := 2) (by decide +kernel) (by decide +kernel) (by decide +kernel) R f0 (fx_k (c := 13) R (by decide +kernel)) fun v_5 f_6 => ?_
  have f_7 := q_is_eq (b := 86) f_6 (fx_v R (by decide +kernel)).symm
  refine go_iload_n (n := 1) (by decide +kernel) l1 f1 ?_
  obtain ⟨g_10, h⟩ := gd_s h
  obtain ⟨x_12, e_13, h⟩ := lx_s h
  refine go_iald (kd := 100) (by decide +kernel) rfl R f_7 f1 (fx_k (c := 100) R (by decide +kernel)) (fx_x (a := 86) (ln := 30) R (by decide +kernel) g_10) fun v_8 f_9 => ?_
  have f_11 := q_is_eq f_9 e_13
  refine go_aload_n (n := 0) (by decide +kernel) l0 f0 ?_
  refine go_getf (x := 67) (ci := 13) (kf := 21) (fin := 1) (t := 2) (by decide +kernel) (by decide +kernel) (by decide +kernel) R f0 (fx_k (c := 13) R (by decide +kernel)) fun v_14 f_15 => ?_
  have f_16 := q_is_eq (b := 88) f_15 (fx_v R (by decide +kernel)).symm
  refine go_iload_n (n := 1) (by decide +kernel) l1 f1 ?_
  obtain ⟨x_20, e_21, h⟩ := lx_s h
  refine go_iald (kd := 100) (by decide +kernel) rfl R f_16 f1 (fx_k (c := 100) R (by decide +kernel)) (fx_x (a := 88) (ln := 30) R (by decide +kernel) g_10) fun v_17 f_18 => ?_
  have f_19 := q_is_eq f_18 e_21
  refine go_isub (by decide +kernel) f_11 f_19 fun v_22 f_23 => ?_
  refine go_sipush (n := 256) (z := 256) (by decide +kernel) (by decide) fun v_24 f_25 => ?_
  refine go_idiv (by decide +kernel) f_23 f_25 (by decide) fun v_26 f_27 => ?_
  refine go_iadd (by decide +kernel) f_4 f_27 fun v_28 f_29 => ?_
  obtain ⟨x_30, e_31, h⟩ := lx_s h
  have f_32 := q_is_eq f_29 e_31
  refine go_istore (n := 5) (by decide +kernel) (by decide +kernel) f_32 fun L_33 l_34 kp_35 => ?_
  have l_36 := kp_35 0 _ l0 (by decide) (Or.inl (by decide))
  have l_37 := kp_35 1 _ l1 (by decide) (Or.inl (by decide))
  have l_38 := kp_35 2 _ l2 (by decide) (Or.inl (by decide))
  have l_39 := kp_35 3 _ l3 (by decide) (Or.inl (by decide))
  have l_40 := kp_35 4 _ l4 (by decide) (Or.inr (q_is_cat f4 (Or.inl rfl)))
  refine go_aload_n (n := 0) (by decide +kernel) l_36 f0 ?_
  refine go_getf (x := 98) (ci := 13) (kf := 31) (fin := 1) (t := 2) (by decide +kernel) (by decide +kernel) (by decide +kernel) R f0 (fx_k (c := 13) R (by decide +kernel)) fun v_41 f_42 => ?_
  have f_43 := q_is_eq (b := 96) f_42 (fx_v R (by decide +kernel)).symm
  refine go_iload (n := 5) (by decide +kernel) l_34 f_32 ?_
  obtain ⟨g_46, h⟩ := gd_s h
  obtain ⟨x_48, e_49, h⟩ := lx_s h
  refine go_iald (kd := 100) (by decide +kernel) rfl R f_43 f_32 (fx_k (c := 100) R (by decide +kernel)) (fx_x (a := 96) (ln := 61440) R (by decide +kernel) g_46) fun v_44 f_45 => ?_
  have f_47 := q_is_eq f_45 e_49
  refine go_if (c := .ne) (o := 24) (t := 56) (P := ¬ (x_48 = 0)) (by decide +kernel) (by decide +kernel) f_47 (Iff.rfl) (fun hp_50 => ?_) (fun hp_50 => ?_)
  · have h := it_f hp_50 h
    exact oj_X12_puts_56 hd R l_36 f0 l_37 f1 l_38 f2 l_39 f3 l_40 f4 hQ h
  · have h := it_n hp_50 h
    refine go_aload_n (n := 0) (by decide +kernel) l_36 f0 ?_
    refine go_dup (by decide +kernel) f0 (Or.inr rfl) ?_
    obtain ⟨x_220, e_221, h⟩ := lx_s h
    refine go_getf (x := 351) (ci := 13) (kf := 32) (fin := 0) (t := 0) (by decide +kernel) (by decide +kernel) (by decide +kernel) R f0 (fx_k (c := 13) R (by decide +kernel)) fun v_217 f_218 => ?_
    have f_219 := q_is_eq f_218 e_221
    refine go_iconst (n := 1) (z := 1) (by decide +kernel) (by decide) fun v_222 f_223 => ?_
    refine go_iadd (by decide +kernel) f_219 f_223 fun v_224 f_225 => ?_
    obtain ⟨m_226, e_227, h⟩ := up_s h
    refine go_putf (x := 351) (ci := 13) (kf := 32) (fin := 0) (zt := 0) (by decide +kernel) (by decide +kernel) (by decide) (by decide +kernel) (by decide) (Or.inl rfl) R f0 f_225 (fun hq => absurd hq (by decide)) (fx_k (c := 13) R (by decide +kernel)) e_227 (fx_f (j := 32) R.2 (fx_k (c := 13) R (by decide +kernel)) (by decide +kernel)) fun S_228 R_229 E_230 => ?_
    have E_232 := E_230
    refine go_aload_n (n := 0) (by decide +kernel) l_36 f0 ?_
    refine go_getf (x := 98) (ci := 13) (kf := 31) (fin := 1) (t := 2) (by decide +kernel) (by decide +kernel) (by decide +kernel) R_229 f0 (fx_k (c := 13) R_229 (by decide +kernel)) fun v_233 f_234 => ?_
    have f_235 := q_is_eq (b := 96) f_234 (fx_v R_229 (by decide +kernel)).symm
    refine go_iload (n := 5) (by decide +kernel) l_34 f_32 ?_
    refine go_aload_n (n := 0) (by decide +kernel) l_36 f0 ?_
    obtain ⟨x_239, e_240, h⟩ := lx_s h
    refine go_getf (x := 351) (ci := 13) (kf := 32) (fin := 0) (t := 0) (by decide +kernel) (by decide +kernel) (by decide +kernel) R_229 f0 (fx_k (c := 13) R_229 (by decide +kernel)) fun v_236 f_237 => ?_
    have f_238 := q_is_eq f_237 e_240
    obtain ⟨m_241, e_242, h⟩ := up_s h
    refine go_iast (kd := 100) (by decide +kernel) rfl R_229 f_235 f_32 f_238 (fx_k (c := 100) R_229 (by decide +kernel)) (fx_x (a := 96) (ln := 61440) R_229 (by decide +kernel) g_46) e_242 (fx_a R_229.2 (fx_k (c := 100) R_229 (by decide +kernel)) (And.left (fx_x (a := 96) (ln := 61440) R_229 (by decide +kernel) g_46)) (by decide +kernel)) fun S_243 R_244 E_245 => ?_
    have E_247 := Ext.tr E_232 E_245
    exact oj_X12_puts_56 hd R_244 l_36 f0 l_37 f1 l_38 f2 l_39 f3 l_40 f4 (fun b => hQ (Ext.tr E_247 b)) h
noncomputable def fl_X12_hasCome_5 (y1 y2 : Int) (m0 : MM) : Nat → Int → Int → Option Int
  | 0, _, _ => none
  | n + 1, y3, y4 => gd (0 ≤ y1 ∧ y1 < 30) <| lx (m0 86 y1) fun x_25 =>
if y4 < x_25 then
if y3 = 0 then
bp (fm_X12_kindAt y1 y4 m0) fun x_52 =>
if x_52 = y2 then
lx (w32 (y4 + 1)) fun x_96 =>
fl_X12_hasCome_5 y1 y2 m0 n 1 x_96
else
lx (w32 (y4 + 1)) fun x_75 =>
fl_X12_hasCome_5 y1 y2 m0 n 0 x_75
else
lx (w32 (y4 + 1)) fun x_44 =>
fl_X12_hasCome_5 y1 y2 m0 n 1 x_44
else
gd (y3 = 0 ∨ y3 = 1) <| some y3
set_option maxHeartbeats 4000000 in
theorem ol_X12_hasCome_5 {xs : List Int32} {d : Nat} {Q : QO → QS → Prop} {m0 : MM} {y1 y2 : Int} {rz : Int}
  (hd : 2 ≤ d)
  (hQ : ∀ o S1, Rp S1 m0 → q_out 0 o rz → Q o S1) :
  ∀ (n : Nat) {S : QS} {L : QL} {y3 y4 : Int} {v0 : Value} {v1 : Value} {v2 : Value} {v3 : Value} {v4 : Value} , fl_X12_hasCome_5 y1 y2 m0 n y3 y4 = some rz → Rp S m0 → q_lo L 0 = some v0 → q_is 2 v0 68 → q_lo L 1 = some v1 → q_is 0 v1 y1 → q_lo L 2 = some v2 → q_is 0 v2 y2 → q_lo L 3 = some v3 → q_is 0 v3 y3 → q_lo L 4 = some v4 → q_is 0 v4 y4 → Go xs d qM_X12_hasCome 5 L [] S Q := by
  intro n
  induction n with
  | zero => intro S L y3 y4 v0 v1 v2 v3 v4; intro h R l0 f0 l1 f1 l2 f2 l3 f3 l4 f4; cases h
  | succ n ih0 =>
    intro S L y3 y4 v0 v1 v2 v3 v4; intro h R l0 f0 l1 f1 l2 f2 l3 f3 l4 f4
    have ih : ∀ {z3 : Int} {z4 : Int} {Sq : QS} {Lq : QL} {u0 : Value} {u1 : Value} {u2 : Value} {u3 : Value} {u4 : Value}, fl_X12_hasCome_5 y1 y2 m0 n z3 z4 = some rz → Rp Sq m0 → q_lo Lq 0 = some u0 → q_is 2 u0 68 → q_lo Lq 1 = some u1 → q_is 0 u1 y1 → q_lo Lq 2 = some u2 → q_is 0 u2 y2 → q_lo Lq 3 = some u3 → q_is 0 u3 z3 → q_lo Lq 4 = some u4 → q_is 0 u4 z4 → Go xs d qM_X12_hasCome 5 Lq [] Sq Q := by intros; exact ih0 ‹_› ‹_› ‹_› ‹_› ‹_› ‹_› ‹_› ‹_› ‹_› ‹_› ‹_› ‹_›
    unfold fl_X12_hasCome_5 at h
    refine go_iload (n := 4) (by decide +kernel) l4 f4 ?_
    refine go_aload_n (n := 0) (by decide +kernel) l0 f0 ?_
    refine go_getf (x := 61) (ci := 13) (kf := 19) (fin := 1) (t := 2) (by decide +kernel) (by decide +kernel) (by decide +kernel) R f0 (fx_k (c := 13) R (by decide +kernel)) fun v_18 f_19 => ?_
    have f_20 := q_is_eq (b := 86) f_19 (fx_v R (by decide +kernel)).symm
    refine go_iload_n (n := 1) (by decide +kernel) l1 f1 ?_
    obtain ⟨g_23, h⟩ := gd_s h
    obtain ⟨x_25, e_26, h⟩ := lx_s h
    refine go_iald (kd := 100) (by decide +kernel) rfl R f_20 f1 (fx_k (c := 100) R (by decide +kernel)) (fx_x (a := 86) (ln := 30) R (by decide +kernel) g_23) fun v_21 f_22 => ?_
    have f_24 := q_is_eq f_22 e_26
    refine go_icmp (c := .ge) (o := 30) (t := 43) (P := ¬ (y4 < x_25)) (by decide +kernel) (by decide +kernel) f4 f_24 (Int.not_lt.symm) (fun hp_27 => ?_) (fun hp_27 => ?_)
    · have h := it_f hp_27 h
      refine go_iload_n (n := 3) (by decide +kernel) l3 f3 ?_
      obtain ⟨g_28, h⟩ := gd_s h
      cases h
      exact go_iret (by decide +kernel) rfl (Or.inr ⟨rfl, g_28⟩) f3 (hQ _ _ R (q_out_v (by decide) f3))
    · have h := it_n hp_27 h
      refine go_iload_n (n := 3) (by decide +kernel) l3 f3 ?_
      refine go_if (c := .ne) (o := 14) (t := 31) (P := ¬ (y3 = 0)) (by decide +kernel) (by decide +kernel) f3 (Iff.rfl) (fun hp_29 => ?_) (fun hp_29 => ?_)
      · have h := it_f hp_29 h
        refine go_iconst (n := 1) (z := 1) (by decide +kernel) (by decide) fun v_30 f_31 => ?_
        refine go_goto (o := 4) (t := 36) (by decide +kernel) (by decide +kernel) ?_
        refine go_istore_n (n := 3) (by decide +kernel) (by decide +kernel) f_31 fun L_32 l_33 kp_34 => ?_
        have l_35 := kp_34 0 _ l0 (by decide) (Or.inl (by decide))
        have l_36 := kp_34 1 _ l1 (by decide) (Or.inl (by decide))
        have l_37 := kp_34 2 _ l2 (by decide) (Or.inr (q_is_cat f2 (Or.inl rfl)))
        have l_38 := kp_34 4 _ l4 (by decide) (Or.inl (by decide))
        refine go_iinc (n := 4) (c := 1) (c' := 1) (by decide +kernel) (by decide +kernel) l_38 f4 (by decide) fun L_39 v_40 f_41 l_42 kp_43 => ?_
        obtain ⟨x_44, e_45, h⟩ := lx_s h
        have f_46 := q_is_eq f_41 e_45
        have l_47 := kp_43 0 _ l_35 (by decide) (Or.inl (by decide))
        have l_48 := kp_43 1 _ l_36 (by decide) (Or.inl (by decide))
        have l_49 := kp_43 2 _ l_37 (by decide) (Or.inl (by decide))
        have l_50 := kp_43 3 _ l_33 (by decide) (Or.inr (q_is_cat f_31 (Or.inl rfl)))
        refine go_goto (o := (-35)) (t := 5) (by decide +kernel) (by decide +kernel) ?_
        exact ih h R l_47 f0 l_48 f1 l_49 f2 l_50 f_31 l_42 f_46
      · have h := it_n hp_29 h
        refine go_aload_n (n := 0) (by decide +kernel) l0 f0 ?_
        refine go_iload_n (n := 1) (by decide +kernel) l1 f1 ?_
        refine go_iload (n := 4) (by decide +kernel) l4 f4 ?_
        obtain ⟨x_52, hc_51, h⟩ := bp_s h
        refine go_callV (x := 341) (mi := 204) (n := 2) (ci := 13) (as := [v1, v4]) (rest := []) (by decide +kernel) (by decide +kernel) rfl rfl (q_sum8 _ (Nat.le_of_ble_eq_true rfl)) R f0 (fx_k (c := 13) R (by decide +kernel)) (om_X12_kindAt (Nat.le_trans (by decide) hd) R f0 f1 f4 hc_51) (fun _ S_56 q_59 => ?_) (fun _ _ qq => kr_x qq)
        refine kr_z (by decide) q_59 fun v_54 f_55 R_57 E_58 => ?_
        refine go_iload_n (n := 2) (by decide +kernel) l2 f2 ?_
        refine go_icmp (c := .ne) (o := 7) (t := 35) (P := ¬ (x_52 = y2)) (by decide +kernel) (by decide +kernel) f_55 f2 (Iff.rfl) (fun hp_60 => ?_) (fun hp_60 => ?_)
        · have h := it_f hp_60 h
          refine go_iconst (n := 0) (z := 0) (by decide +kernel) (by decide) fun v_61 f_62 => ?_
          refine go_istore_n (n := 3) (by decide +kernel) (by decide +kernel) f_62 fun L_63 l_64 kp_65 => ?_
          have l_66 := kp_65 0 _ l0 (by decide) (Or.inl (by decide))
          have l_67 := kp_65 1 _ l1 (by decide) (Or.inl (by decide))
          have l_68 := kp_65 2 _ l2 (by decide) (Or.inr (q_is_cat f2 (Or.inl rfl)))
          have l_69 := kp_65 4 _ l4 (by decide) (Or.inl (by decide))
          refine go_iinc (n := 4) (c := 1) (c' := 1) (by decide +kernel) (by decide +kernel) l_69 f4 (by decide) fun L_70 v_71 f_72 l_73 kp_74 => ?_
          obtain ⟨x_75, e_76, h⟩ := lx_s h
          have f_77 := q_is_eq f_72 e_76
          have l_78 := kp_74 0 _ l_66 (by decide) (Or.inl (by decide))
          have l_79 := kp_74 1 _ l_67 (by decide) (Or.inl (by decide))
          have l_80 := kp_74 2 _ l_68 (by decide) (Or.inl (by decide))
          have l_81 := kp_74 3 _ l_64 (by decide) (Or.inr (q_is_cat f_62 (Or.inl rfl)))
          refine go_goto (o := (-35)) (t := 5) (by decide +kernel) (by decide +kernel) ?_
          exact ih h R_57 l_78 f0 l_79 f1 l_80 f2 l_81 f_62 l_73 f_77
        · have h := it_n hp_60 h
          refine go_iconst (n := 1) (z := 1) (by decide +kernel) (by decide) fun v_82 f_83 => ?_
          refine go_goto (o := 4) (t := 36) (by decide +kernel) (by decide +kernel) ?_
          refine go_istore_n (n := 3) (by decide +kernel) (by decide +kernel) f_83 fun L_84 l_85 kp_86 => ?_
          have l_87 := kp_86 0 _ l0 (by decide) (Or.inl (by decide))
          have l_88 := kp_86 1 _ l1 (by decide) (Or.inl (by decide))
          have l_89 := kp_86 2 _ l2 (by decide) (Or.inr (q_is_cat f2 (Or.inl rfl)))
          have l_90 := kp_86 4 _ l4 (by decide) (Or.inl (by decide))
          refine go_iinc (n := 4) (c := 1) (c' := 1) (by decide +kernel) (by decide +kernel) l_90 f4 (by decide) fun L_91 v_92 f_93 l_94 kp_95 => ?_
          obtain ⟨x_96, e_97, h⟩ := lx_s h
          have f_98 := q_is_eq f_93 e_97
          have l_99 := kp_95 0 _ l_87 (by decide) (Or.inl (by decide))
          have l_100 := kp_95 1 _ l_88 (by decide) (Or.inl (by decide))
          have l_101 := kp_95 2 _ l_89 (by decide) (Or.inl (by decide))
          have l_102 := kp_95 3 _ l_85 (by decide) (Or.inr (q_is_cat f_83 (Or.inl rfl)))
          refine go_goto (o := (-35)) (t := 5) (by decide +kernel) (by decide +kernel) ?_
          exact ih h R_57 l_99 f0 l_100 f1 l_101 f2 l_102 f_83 l_94 f_98
noncomputable def fm_X12_hasCome (p1 p2 : Int) (m0 : MM) : Option Int := fl_X12_hasCome_5 p1 p2 m0  BIG 0 0
set_option maxHeartbeats 4000000 in
theorem om_X12_hasCome {xs : List Int32} {d : Nat} {S : QS} {m0 : MM} {p1 p2 : Int} {v0 : Value} {v1 : Value} {v2 : Value} {rz : Int}
  (hd : 3 ≤ d) (R : Rp S m0) (f0 : q_is 2 v0 68) (f1 : q_is 0 v1 p1) (f2 : q_is 0 v2 p2)
  (h : fm_X12_hasCome p1 p2 m0 = some rz) : Mt xs d 211 [v0, v1, v2] S (Cr 0 m0 m0 rz) := by
  obtain ⟨d, rfl⟩ : ∃ e, d = e + 1 := ⟨d - 1, by omega⟩
  have hd : 2 ≤ d := Nat.le_of_succ_le_succ hd
  refine Mt.of (M := qM_X12_hasCome) rfl (by rw [sl_1 (q_is_cat f0 (Or.inr rfl)), sl_1 (q_is_cat f1 (Or.inl rfl)), sl_1 (q_is_cat f2 (Or.inl rfl)), sl_0]; decide) ?_
  rw [la_1 (q_is_cat f0 (Or.inr rfl)), la_1 (q_is_cat f1 (Or.inl rfl)), la_1 (q_is_cat f2 (Or.inl rfl)), la_0]
  obtain ⟨L, hL⟩ : ∃ L : QL, L = [(0, v0), (0 + 1, v1), (0 + 1 + 1, v2)] := ⟨_, rfl⟩
  rw [← hL]
  have l0 : q_lo L 0 = some v0 := by rw [hL]; rfl
  have l1 : q_lo L 1 = some v1 := by rw [hL]; rfl
  have l2 : q_lo L 2 = some v2 := by rw [hL]; rfl
  have hQ : ∀ o S1, Rp S1 m0 → q_out 0 o rz → (Cr 0 m0 m0 rz) o S1 := fun o S1 a b => ⟨a, Ext.rf _, b⟩
  unfold fm_X12_hasCome at h
  refine go_iconst (n := 0) (z := 0) (by decide +kernel) (by decide) fun v_1 f_2 => ?_
  refine go_istore_n (n := 3) (by decide +kernel) (by decide +kernel) f_2 fun L_3 l_4 kp_5 => ?_
  have l_6 := kp_5 0 _ l0 (by decide) (Or.inl (by decide))
  have l_7 := kp_5 1 _ l1 (by decide) (Or.inl (by decide))
  have l_8 := kp_5 2 _ l2 (by decide) (Or.inr (q_is_cat f2 (Or.inl rfl)))
  refine go_iconst (n := 0) (z := 0) (by decide +kernel) (by decide) fun v_9 f_10 => ?_
  refine go_istore (n := 4) (by decide +kernel) (by decide +kernel) f_10 fun L_11 l_12 kp_13 => ?_
  have l_14 := kp_13 0 _ l_6 (by decide) (Or.inl (by decide))
  have l_15 := kp_13 1 _ l_7 (by decide) (Or.inl (by decide))
  have l_16 := kp_13 2 _ l_8 (by decide) (Or.inl (by decide))
  have l_17 := kp_13 3 _ l_4 (by decide) (Or.inr (q_is_cat f_2 (Or.inl rfl)))
  refine ol_X12_hasCome_5 hd   hQ BIG h R l_14 f0 l_15 f1 l_16 f2 l_17 f_2 l_12 f_10
end DF26
