/-! Methods as functions (written by wip/whole/dec.py), 43: X12_isRunning, X12_beginsFor, X12_comes, X12_point, X12_looksAtSchedule, X12_pass. -/
section DF43
noncomputable def fm_X12_isRunning (p1 : Int) (m0 : MM) : Option Int := gd (0 ≤ p1 ∧ p1 < 4) <| lx (m0 134 p1) fun x_8 =>
if x_8 = (-1) then
some 0
else
gd (0 ≤ x_8 ∧ x_8 < 30) <| lx (m0 83 x_8) fun x_28 =>
if x_28 = 0 then
some 1
else
some 0
set_option maxHeartbeats 4000000 in
theorem om_X12_isRunning {xs : List Int32} {d : Nat} {S : QS} {m0 : MM} {p1 : Int} {v0 : Value} {v1 : Value} {rz : Int}
  (hd : 1 ≤ d) (R : Rp S m0) (f0 : q_is 2 v0 68) (f1 : q_is 0 v1 p1)
  (h : fm_X12_isRunning p1 m0 = some rz) : Mt xs d 309 [v0, v1] S (Cr 0 m0 m0 rz) := by
  obtain ⟨d, rfl⟩ : ∃ e, d = e + 1 := ⟨d - 1, by omega⟩
  have hd : 0 ≤ d := Nat.le_of_succ_le_succ hd
  refine Mt.of (M := qM_X12_isRunning) rfl (by rw [sl_1 (q_is_cat f0 (Or.inr rfl)), sl_1 (q_is_cat f1 (Or.inl rfl)), sl_0]; decide) ?_
  rw [la_1 (q_is_cat f0 (Or.inr rfl)), la_1 (q_is_cat f1 (Or.inl rfl)), la_0]
  obtain ⟨L, hL⟩ : ∃ L : QL, L = [(0, v0), (0 + 1, v1)] := ⟨_, rfl⟩
  rw [← hL]
  have l0 : q_lo L 0 = some v0 := by rw [hL]; rfl
  have l1 : q_lo L 1 = some v1 := by rw [hL]; rfl
  have hQ : ∀ o S1, Rp S1 m0 → q_out 0 o rz → (Cr 0 m0 m0 rz) o S1 := fun o S1 a b => ⟨a, Ext.rf _, b⟩
  unfold fm_X12_isRunning at h
  refine go_aload_n (n := 0) (by decide +kernel) l0 f0 ?_
  refine go_getf (x := 216) (ci := 13) (kf := 76) (fin := 1) (t := 2) (by decide +kernel) (by decide +kernel) (by decide +kernel) R f0 (fx_k (c := 13) R (by decide +kernel)) fun v_1 f_2 => ?_
  have f_3 := q_is_eq (b := 134) f_2 (fx_v R (by decide +kernel)).symm
  refine go_iload_n (n := 1) (by decide +kernel) l1 f1 ?_
  obtain ⟨g_6, h⟩ := gd_s h
  obtain ⟨x_8, e_9, h⟩ := lx_s h
  refine go_iald (kd := 100) (by decide +kernel) rfl R f_3 f1 (fx_k (c := 100) R (by decide +kernel)) (fx_x (a := 134) (ln := 4) R (by decide +kernel) g_6) fun v_4 f_5 => ?_
  have f_7 := q_is_eq f_5 e_9
  refine go_iconst (n := (-1)) (z := (-1)) (by decide +kernel) (by decide) fun v_10 f_11 => ?_
  refine go_icmp (c := .eq) (o := 21) (t := 28) (P := x_8 = (-1)) (by decide +kernel) (by decide +kernel) f_7 f_11 (Iff.rfl) (fun hp_12 => ?_) (fun hp_12 => ?_)
  · have h := it_t hp_12 h
    refine go_iconst (n := 0) (z := 0) (by decide +kernel) (by decide) fun v_13 f_14 => ?_
    cases h
    exact go_iret (by decide +kernel) rfl (Or.inr ⟨rfl, by decide⟩) f_14 (hQ _ _ R (q_out_v (by decide) f_14))
  · have h := it_f hp_12 h
    refine go_aload_n (n := 0) (by decide +kernel) l0 f0 ?_
    refine go_getf (x := 52) (ci := 13) (kf := 16) (fin := 1) (t := 2) (by decide +kernel) (by decide +kernel) (by decide +kernel) R f0 (fx_k (c := 13) R (by decide +kernel)) fun v_15 f_16 => ?_
    have f_17 := q_is_eq (b := 83) f_16 (fx_v R (by decide +kernel)).symm
    refine go_aload_n (n := 0) (by decide +kernel) l0 f0 ?_
    refine go_getf (x := 216) (ci := 13) (kf := 76) (fin := 1) (t := 2) (by decide +kernel) (by decide +kernel) (by decide +kernel) R f0 (fx_k (c := 13) R (by decide +kernel)) fun v_18 f_19 => ?_
    have f_20 := q_is_eq (b := 134) f_19 (fx_v R (by decide +kernel)).symm
    refine go_iload_n (n := 1) (by decide +kernel) l1 f1 ?_
    refine go_iald (kd := 100) (by decide +kernel) rfl R f_20 f1 (fx_k (c := 100) R (by decide +kernel)) (fx_x (a := 134) (ln := 4) R (by decide +kernel) g_6) fun v_21 f_22 => ?_
    have f_23 := q_is_eq f_22 e_9
    obtain ⟨g_26, h⟩ := gd_s h
    obtain ⟨x_28, e_29, h⟩ := lx_s h
    refine go_iald (kd := 100) (by decide +kernel) rfl R f_17 f_23 (fx_k (c := 100) R (by decide +kernel)) (fx_x (a := 83) (ln := 30) R (by decide +kernel) g_26) fun v_24 f_25 => ?_
    have f_27 := q_is_eq f_25 e_29
    refine go_if (c := .ne) (o := 7) (t := 28) (P := ¬ (x_28 = 0)) (by decide +kernel) (by decide +kernel) f_27 (Iff.rfl) (fun hp_30 => ?_) (fun hp_30 => ?_)
    · have h := it_f hp_30 h
      refine go_iconst (n := 0) (z := 0) (by decide +kernel) (by decide) fun v_31 f_32 => ?_
      cases h
      exact go_iret (by decide +kernel) rfl (Or.inr ⟨rfl, by decide⟩) f_32 (hQ _ _ R (q_out_v (by decide) f_32))
    · have h := it_n hp_30 h
      refine go_iconst (n := 1) (z := 1) (by decide +kernel) (by decide) fun v_33 f_34 => ?_
      refine go_goto (o := 4) (t := 29) (by decide +kernel) (by decide +kernel) ?_
      cases h
      exact go_iret (by decide +kernel) rfl (Or.inr ⟨rfl, by decide⟩) f_34 (hQ _ _ R (q_out_v (by decide) f_34))
noncomputable def fm_X12_beginsFor (p1 p2 : Int) (m0 : MM) : Option (Int × MM) := gd (0 ≤ p1 ∧ p1 < 4) <| lx (m0 128 p1) fun x_8 =>
lx (m0 68 12) fun x_19 =>
if x_19 = 30 then
some ((-1), m0)
else
lx (m0 129 p1) fun x_30 =>
gd (0 ≤ x_8 ∧ x_8 < 4) <| lx (m0 69 x_8) fun x_39 =>
bd (fm_X12_makes x_8 x_30 (w32 (x_39 - 1)) p2 (-1) (-1) m0) fun x_50 m_51 =>
some (x_50, m_51)
set_option maxHeartbeats 4000000 in
theorem om_X12_beginsFor {xs : List Int32} {d : Nat} {S : QS} {m0 : MM} {p1 p2 : Int} {v0 : Value} {v1 : Value} {v2 : Value} {rz : Int} {rm : MM}
  (hd : 5 ≤ d) (R : Rp S m0) (f0 : q_is 2 v0 68) (f1 : q_is 0 v1 p1) (f2 : q_is 0 v2 p2)
  (h : fm_X12_beginsFor p1 p2 m0 = some (rz, rm)) : Mt xs d 308 [v0, v1, v2] S (Cr 0 m0 rm rz) := by
  obtain ⟨d, rfl⟩ : ∃ e, d = e + 1 := ⟨d - 1, by omega⟩
  have hd : 4 ≤ d := Nat.le_of_succ_le_succ hd
  refine Mt.of (M := qM_X12_beginsFor) rfl (by rw [sl_1 (q_is_cat f0 (Or.inr rfl)), sl_1 (q_is_cat f1 (Or.inl rfl)), sl_1 (q_is_cat f2 (Or.inl rfl)), sl_0]; decide) ?_
  rw [la_1 (q_is_cat f0 (Or.inr rfl)), la_1 (q_is_cat f1 (Or.inl rfl)), la_1 (q_is_cat f2 (Or.inl rfl)), la_0]
  obtain ⟨L, hL⟩ : ∃ L : QL, L = [(0, v0), (0 + 1, v1), (0 + 1 + 1, v2)] := ⟨_, rfl⟩
  rw [← hL]
  have l0 : q_lo L 0 = some v0 := by rw [hL]; rfl
  have l1 : q_lo L 1 = some v1 := by rw [hL]; rfl
  have l2 : q_lo L 2 = some v2 := by rw [hL]; rfl
  have hQ : Ext m0 rm → ∀ o S1, Rp S1 rm → q_out 0 o rz → (Cr 0 m0 rm rz) o S1 := fun a o S1 b e => ⟨b, a, e⟩
  unfold fm_X12_beginsFor at h
  refine go_aload_n (n := 0) (by decide +kernel) l0 f0 ?_
  refine go_getf (x := 198) (ci := 13) (kf := 70) (fin := 1) (t := 2) (by decide +kernel) (by decide +kernel) (by decide +kernel) R f0 (fx_k (c := 13) R (by decide +kernel)) fun v_1 f_2 => ?_
  have f_3 := q_is_eq (b := 128) f_2 (fx_v R (by decide +kernel)).symm
  refine go_iload_n (n := 1) (by decide +kernel) l1 f1 ?_
  obtain ⟨g_6, h⟩ := gd_s h
  obtain ⟨x_8, e_9, h⟩ := lx_s h
  refine go_iald (kd := 100) (by decide +kernel) rfl R f_3 f1 (fx_k (c := 100) R (by decide +kernel)) (fx_x (a := 128) (ln := 4) R (by decide +kernel) g_6) fun v_4 f_5 => ?_
  have f_7 := q_is_eq f_5 e_9
  refine go_istore_n (n := 3) (by decide +kernel) (by decide +kernel) f_7 fun L_10 l_11 kp_12 => ?_
  have l_13 := kp_12 0 _ l0 (by decide) (Or.inl (by decide))
  have l_14 := kp_12 1 _ l1 (by decide) (Or.inl (by decide))
  have l_15 := kp_12 2 _ l2 (by decide) (Or.inr (q_is_cat f2 (Or.inl rfl)))
  refine go_aload_n (n := 0) (by decide +kernel) l_13 f0 ?_
  obtain ⟨x_19, e_20, h⟩ := lx_s h
  refine go_getf (x := 310) (ci := 13) (kf := 12) (fin := 0) (t := 0) (by decide +kernel) (by decide +kernel) (by decide +kernel) R f0 (fx_k (c := 13) R (by decide +kernel)) fun v_16 f_17 => ?_
  have f_18 := q_is_eq f_17 e_20
  refine go_bipush (n := 30) (z := 30) (by decide +kernel) (by decide) fun v_21 f_22 => ?_
  refine go_icmp (c := .ne) (o := 7) (t := 20) (P := ¬ (x_19 = 30)) (by decide +kernel) (by decide +kernel) f_18 f_22 (Iff.rfl) (fun hp_23 => ?_) (fun hp_23 => ?_)
  · have h := it_f hp_23 h
    refine go_aload_n (n := 0) (by decide +kernel) l_13 f0 ?_
    refine go_iload_n (n := 3) (by decide +kernel) l_11 f_7 ?_
    refine go_aload_n (n := 0) (by decide +kernel) l_13 f0 ?_
    refine go_getf (x := 201) (ci := 13) (kf := 71) (fin := 1) (t := 2) (by decide +kernel) (by decide +kernel) (by decide +kernel) R f0 (fx_k (c := 13) R (by decide +kernel)) fun v_24 f_25 => ?_
    have f_26 := q_is_eq (b := 129) f_25 (fx_v R (by decide +kernel)).symm
    refine go_iload_n (n := 1) (by decide +kernel) l_14 f1 ?_
    obtain ⟨x_30, e_31, h⟩ := lx_s h
    refine go_iald (kd := 100) (by decide +kernel) rfl R f_26 f1 (fx_k (c := 100) R (by decide +kernel)) (fx_x (a := 129) (ln := 4) R (by decide +kernel) g_6) fun v_27 f_28 => ?_
    have f_29 := q_is_eq f_28 e_31
    refine go_aload_n (n := 0) (by decide +kernel) l_13 f0 ?_
    refine go_getf (x := 7) (ci := 13) (kf := 1) (fin := 1) (t := 2) (by decide +kernel) (by decide +kernel) (by decide +kernel) R f0 (fx_k (c := 13) R (by decide +kernel)) fun v_32 f_33 => ?_
    have f_34 := q_is_eq (b := 69) f_33 (fx_v R (by decide +kernel)).symm
    refine go_iload_n (n := 3) (by decide +kernel) l_11 f_7 ?_
    obtain ⟨g_37, h⟩ := gd_s h
    obtain ⟨x_39, e_40, h⟩ := lx_s h
    refine go_iald (kd := 100) (by decide +kernel) rfl R f_34 f_7 (fx_k (c := 100) R (by decide +kernel)) (fx_x (a := 69) (ln := 4) R (by decide +kernel) g_37) fun v_35 f_36 => ?_
    have f_38 := q_is_eq f_36 e_40
    refine go_iconst (n := 1) (z := 1) (by decide +kernel) (by decide) fun v_41 f_42 => ?_
    refine go_isub (by decide +kernel) f_38 f_42 fun v_43 f_44 => ?_
    refine go_iload_n (n := 2) (by decide +kernel) l_15 f2 ?_
    refine go_iconst (n := (-1)) (z := (-1)) (by decide +kernel) (by decide) fun v_45 f_46 => ?_
    refine go_iconst (n := (-1)) (z := (-1)) (by decide +kernel) (by decide) fun v_47 f_48 => ?_
    obtain ⟨x_50, m_51, hc_49, h⟩ := bd_s h
    refine go_callV (x := 576) (mi := 212) (n := 6) (ci := 13) (as := [v_4, v_27, v_43, v2, v_45, v_47]) (rest := []) (by decide +kernel) (by decide +kernel) rfl rfl (q_sum8 _ (Nat.le_of_ble_eq_true rfl)) R f0 (fx_k (c := 13) R (by decide +kernel)) (om_X12_makes (Nat.le_trans (by decide) hd) R f0 f_7 f_29 f_44 f2 f_46 f_48 hc_49) (fun _ S_54 q_57 => ?_) (fun _ _ qq => kr_x qq)
    refine kr_z (by decide) q_57 fun v_52 f_53 R_55 E_56 => ?_
    have E_60 := E_56
    cases h
    exact go_iret (by decide +kernel) rfl (Or.inl rfl) f_53 (hQ E_60 _ _ R_55 (q_out_v (by decide) f_53))
  · have h := it_n hp_23 h
    refine go_iconst (n := (-1)) (z := (-1)) (by decide +kernel) (by decide) fun v_61 f_62 => ?_
    refine go_goto (o := 25) (t := 42) (by decide +kernel) (by decide +kernel) ?_
    cases h
    exact go_iret (by decide +kernel) rfl (Or.inl rfl) f_62 (hQ (Ext.rf _) _ _ R (q_out_v (by decide) f_62))
noncomputable def fm_X12_comes (p1 p2 : Int) (m0 : MM) : Option (Int × MM) := bd (fm_X12_beginsFor p1 p2 m0) fun x_2 m_3 =>
if x_2 = (-1) then
gd (0 ≤ p1 ∧ p1 < 4) <| lx (m_3 134 p1) fun x_39 =>
up m_3 134 p1 x_39 fun m_41 =>
some (0, m_41)
else
gd (0 ≤ p1 ∧ p1 < 4) <| up m_3 134 p1 x_2 fun m_25 =>
some (0, m_25)
set_option maxHeartbeats 4000000 in
theorem om_X12_comes {xs : List Int32} {d : Nat} {S : QS} {m0 : MM} {p1 p2 : Int} {v0 : Value} {v1 : Value} {v2 : Value} {rz : Int} {rm : MM}
  (hd : 6 ≤ d) (R : Rp S m0) (f0 : q_is 2 v0 68) (f1 : q_is 0 v1 p1) (f2 : q_is 0 v2 p2)
  (h : fm_X12_comes p1 p2 m0 = some (rz, rm)) : Mt xs d 310 [v0, v1, v2] S (Cr 9 m0 rm rz) := by
  obtain ⟨d, rfl⟩ : ∃ e, d = e + 1 := ⟨d - 1, by omega⟩
  have hd : 5 ≤ d := Nat.le_of_succ_le_succ hd
  refine Mt.of (M := qM_X12_comes) rfl (by rw [sl_1 (q_is_cat f0 (Or.inr rfl)), sl_1 (q_is_cat f1 (Or.inl rfl)), sl_1 (q_is_cat f2 (Or.inl rfl)), sl_0]; decide) ?_
  rw [la_1 (q_is_cat f0 (Or.inr rfl)), la_1 (q_is_cat f1 (Or.inl rfl)), la_1 (q_is_cat f2 (Or.inl rfl)), la_0]
  obtain ⟨L, hL⟩ : ∃ L : QL, L = [(0, v0), (0 + 1, v1), (0 + 1 + 1, v2)] := ⟨_, rfl⟩
  rw [← hL]
  have l0 : q_lo L 0 = some v0 := by rw [hL]; rfl
  have l1 : q_lo L 1 = some v1 := by rw [hL]; rfl
  have l2 : q_lo L 2 = some v2 := by rw [hL]; rfl
  have hQ : Ext m0 rm → ∀ o S1, Rp S1 rm → q_out 9 o rz → (Cr 9 m0 rm rz) o S1 := fun a o S1 b e => ⟨b, a, e⟩
  unfold fm_X12_comes at h
  refine go_aload_n (n := 0) (by decide +kernel) l0 f0 ?_
  refine go_iload_n (n := 1) (by decide +kernel) l1 f1 ?_
  refine go_iload_n (n := 2) (by decide +kernel) l2 f2 ?_
  obtain ⟨x_2, m_3, hc_1, h⟩ := bd_s h
  refine go_callV (x := 694) (mi := 308) (n := 2) (ci := 13) (as := [v1, v2]) (rest := []) (by decide +kernel) (by decide +kernel) rfl rfl (q_sum8 _ (Nat.le_of_ble_eq_true rfl)) R f0 (fx_k (c := 13) R (by decide +kernel)) (om_X12_beginsFor (Nat.le_trans (by decide) hd) R f0 f1 f2 hc_1) (fun _ S_6 q_9 => ?_) (fun _ _ qq => kr_x qq)
  refine kr_z (by decide) q_9 fun v_4 f_5 R_7 E_8 => ?_
  have E_12 := E_8
  refine go_istore_n (n := 3) (by decide +kernel) (by decide +kernel) f_5 fun L_13 l_14 kp_15 => ?_
  have l_16 := kp_15 0 _ l0 (by decide) (Or.inl (by decide))
  have l_17 := kp_15 1 _ l1 (by decide) (Or.inl (by decide))
  refine go_aload_n (n := 0) (by decide +kernel) l_16 f0 ?_
  refine go_getf (x := 216) (ci := 13) (kf := 76) (fin := 1) (t := 2) (by decide +kernel) (by decide +kernel) (by decide +kernel) R_7 f0 (fx_k (c := 13) R_7 (by decide +kernel)) fun v_18 f_19 => ?_
  have f_20 := q_is_eq (b := 134) f_19 (fx_v R_7 (by decide +kernel)).symm
  refine go_iload_n (n := 1) (by decide +kernel) l_17 f1 ?_
  refine go_iload_n (n := 3) (by decide +kernel) l_14 f_5 ?_
  refine go_iconst (n := (-1)) (z := (-1)) (by decide +kernel) (by decide) fun v_21 f_22 => ?_
  refine go_icmp (c := .ne) (o := 12) (t := 26) (P := ¬ (x_2 = (-1))) (by decide +kernel) (by decide +kernel) f_5 f_22 (Iff.rfl) (fun hp_23 => ?_) (fun hp_23 => ?_)
  · have h := it_f hp_23 h
    refine go_iload_n (n := 3) (by decide +kernel) l_14 f_5 ?_
    obtain ⟨g_24, h⟩ := gd_s h
    obtain ⟨m_25, e_26, h⟩ := up_s h
    refine go_iast (kd := 100) (by decide +kernel) rfl R_7 f_20 f1 f_5 (fx_k (c := 100) R_7 (by decide +kernel)) (fx_x (a := 134) (ln := 4) R_7 (by decide +kernel) g_24) e_26 (fx_a R_7.2 (fx_k (c := 100) R_7 (by decide +kernel)) (And.left (fx_x (a := 134) (ln := 4) R_7 (by decide +kernel) g_24)) (by decide +kernel)) fun S_27 R_28 E_29 => ?_
    have E_31 := Ext.tr E_12 E_29
    cases h
    exact go_vret (by decide +kernel) rfl (hQ E_31 _ _ R_28 q_out_n)
  · have h := it_n hp_23 h
    refine go_aload_n (n := 0) (by decide +kernel) l_16 f0 ?_
    refine go_getf (x := 216) (ci := 13) (kf := 76) (fin := 1) (t := 2) (by decide +kernel) (by decide +kernel) (by decide +kernel) R_7 f0 (fx_k (c := 13) R_7 (by decide +kernel)) fun v_32 f_33 => ?_
    have f_34 := q_is_eq (b := 134) f_33 (fx_v R_7 (by decide +kernel)).symm
    refine go_iload_n (n := 1) (by decide +kernel) l_17 f1 ?_
    obtain ⟨g_37, h⟩ := gd_s h
    obtain ⟨x_39, e_40, h⟩ := lx_s h
    refine go_iald (kd := 100) (by decide +kernel) rfl R_7 f_34 f1 (fx_k (c := 100) R_7 (by decide +kernel)) (fx_x (a := 134) (ln := 4) R_7 (by decide +kernel) g_37) fun v_35 f_36 => ?_
    have f_38 := q_is_eq f_36 e_40
    refine go_goto (o := 4) (t := 27) (by decide +kernel) (by decide +kernel) ?_
    obtain ⟨m_41, e_42, h⟩ := up_s h
    refine go_iast (kd := 100) (by decide +kernel) rfl R_7 f_20 f1 f_38 (fx_k (c := 100) R_7 (by decide +kernel)) (fx_x (a := 134) (ln := 4) R_7 (by decide +kernel) g_37) e_42 (fx_a R_7.2 (fx_k (c := 100) R_7 (by decide +kernel)) (And.left (fx_x (a := 134) (ln := 4) R_7 (by decide +kernel) g_37)) (by decide +kernel)) fun S_43 R_44 E_45 => ?_
    have E_47 := Ext.tr E_12 E_45
    cases h
    exact go_vret (by decide +kernel) rfl (hQ E_47 _ _ R_44 q_out_n)
noncomputable def fj_X12_point_18 (y1 y2 : Int) (m : MM) : Option (Int × MM) := bd (fm_X12_comes y1 y2 m) fun x_12 m_13 =>
some (0, m_13)
set_option maxHeartbeats 4000000 in
theorem oj_X12_point_18 {xs : List Int32} {d : Nat} {S : QS} {L : QL} {Q : QO → QS → Prop} {m : MM} {y1 y2 : Int} {v0 : Value} {v1 : Value} {v2 : Value}  {rz : Int} {rm : MM}
  (hd : 6 ≤ d) (R : Rp S m) (l0 : q_lo L 0 = some v0) (f0 : q_is 2 v0 68) (l1 : q_lo L 1 = some v1) (f1 : q_is 0 v1 y1) (l2 : q_lo L 2 = some v2) (f2 : q_is 0 v2 y2)
  (hQ : Ext m rm → ∀ o S1, Rp S1 rm → q_out 9 o rz → Q o S1)
  (h : fj_X12_point_18 y1 y2 m = some (rz, rm)) : Go xs d qM_X12_point 18 L [] S Q := by
  unfold fj_X12_point_18 at h
  refine go_aload_n (n := 0) (by decide +kernel) l0 f0 ?_
  refine go_iload_n (n := 1) (by decide +kernel) l1 f1 ?_
  refine go_iload_n (n := 2) (by decide +kernel) l2 f2 ?_
  obtain ⟨x_12, m_13, hc_11, h⟩ := bd_s h
  refine go_callV (x := 700) (mi := 310) (n := 2) (ci := 13) (as := [v1, v2]) (rest := []) (by decide +kernel) (by decide +kernel) rfl rfl (q_sum8 _ (Nat.le_of_ble_eq_true rfl)) R f0 (fx_k (c := 13) R (by decide +kernel)) (om_X12_comes (Nat.le_trans (by decide) hd) R f0 f1 f2 hc_11) (fun _ S_16 q_19 => ?_) (fun _ _ qq => kr_x qq)
  refine kr_v q_19 fun R_17 E_18 => ?_
  have E_22 := E_18
  refine go_goto (o := 66) (t := 90) (by decide +kernel) (by decide +kernel) ?_
  cases h
  exact go_vret (by decide +kernel) rfl (hQ E_22 _ _ R_17 q_out_n)
noncomputable def fj_X12_point_63 (y1 y2 : Int) (m : MM) : Option (Int × MM) := gd (0 ≤ y1 ∧ y1 < 4) <| lx (m 131 y1) fun x_51 =>
if x_51 = 2 then
lx (m 134 y1) fun x_62 =>
bd (fm_X12_cancels x_62 m) fun x_65 m_66 =>
bd (fm_X12_comes y1 y2 m_66) fun x_77 m_78 =>
some (0, m_78)
else
some (0, m)
set_option maxHeartbeats 4000000 in
theorem oj_X12_point_63 {xs : List Int32} {d : Nat} {S : QS} {L : QL} {Q : QO → QS → Prop} {m : MM} {y1 y2 : Int} {v0 : Value} {v1 : Value} {v2 : Value}  {rz : Int} {rm : MM}
  (hd : 6 ≤ d) (R : Rp S m) (l0 : q_lo L 0 = some v0) (f0 : q_is 2 v0 68) (l1 : q_lo L 1 = some v1) (f1 : q_is 0 v1 y1) (l2 : q_lo L 2 = some v2) (f2 : q_is 0 v2 y2)
  (hQ : Ext m rm → ∀ o S1, Rp S1 rm → q_out 9 o rz → Q o S1)
  (h : fj_X12_point_63 y1 y2 m = some (rz, rm)) : Go xs d qM_X12_point 63 L [] S Q := by
  unfold fj_X12_point_63 at h
  refine go_aload_n (n := 0) (by decide +kernel) l0 f0 ?_
  refine go_getf (x := 207) (ci := 13) (kf := 73) (fin := 1) (t := 2) (by decide +kernel) (by decide +kernel) (by decide +kernel) R f0 (fx_k (c := 13) R (by decide +kernel)) fun v_44 f_45 => ?_
  have f_46 := q_is_eq (b := 131) f_45 (fx_v R (by decide +kernel)).symm
  refine go_iload_n (n := 1) (by decide +kernel) l1 f1 ?_
  obtain ⟨g_49, h⟩ := gd_s h
  obtain ⟨x_51, e_52, h⟩ := lx_s h
  refine go_iald (kd := 100) (by decide +kernel) rfl R f_46 f1 (fx_k (c := 100) R (by decide +kernel)) (fx_x (a := 131) (ln := 4) R (by decide +kernel) g_49) fun v_47 f_48 => ?_
  have f_50 := q_is_eq f_48 e_52
  refine go_iconst (n := 2) (z := 2) (by decide +kernel) (by decide) fun v_53 f_54 => ?_
  refine go_icmp (c := .ne) (o := 20) (t := 90) (P := ¬ (x_51 = 2)) (by decide +kernel) (by decide +kernel) f_50 f_54 (Iff.rfl) (fun hp_55 => ?_) (fun hp_55 => ?_)
  · have h := it_f hp_55 h
    cases h
    exact go_vret (by decide +kernel) rfl (hQ (Ext.rf _) _ _ R q_out_n)
  · have h := it_n hp_55 h
    refine go_aload_n (n := 0) (by decide +kernel) l0 f0 ?_
    refine go_aload_n (n := 0) (by decide +kernel) l0 f0 ?_
    refine go_getf (x := 216) (ci := 13) (kf := 76) (fin := 1) (t := 2) (by decide +kernel) (by decide +kernel) (by decide +kernel) R f0 (fx_k (c := 13) R (by decide +kernel)) fun v_56 f_57 => ?_
    have f_58 := q_is_eq (b := 134) f_57 (fx_v R (by decide +kernel)).symm
    refine go_iload_n (n := 1) (by decide +kernel) l1 f1 ?_
    obtain ⟨x_62, e_63, h⟩ := lx_s h
    refine go_iald (kd := 100) (by decide +kernel) rfl R f_58 f1 (fx_k (c := 100) R (by decide +kernel)) (fx_x (a := 134) (ln := 4) R (by decide +kernel) g_49) fun v_59 f_60 => ?_
    have f_61 := q_is_eq f_60 e_63
    obtain ⟨x_65, m_66, hc_64, h⟩ := bd_s h
    refine go_callV (x := 558) (mi := 214) (n := 1) (ci := 13) (as := [v_59]) (rest := []) (by decide +kernel) (by decide +kernel) rfl rfl (q_sum8 _ (Nat.le_of_ble_eq_true rfl)) R f0 (fx_k (c := 13) R (by decide +kernel)) (om_X12_cancels (Nat.le_trans (by decide) hd) R f0 f_61 hc_64) (fun _ S_69 q_72 => ?_) (fun _ _ qq => kr_x qq)
    refine kr_z (by decide) q_72 fun v_67 f_68 R_70 E_71 => ?_
    have E_75 := E_71
    refine go_pop (by decide +kernel) f_68 (Or.inl rfl) ?_
    refine go_aload_n (n := 0) (by decide +kernel) l0 f0 ?_
    refine go_iload_n (n := 1) (by decide +kernel) l1 f1 ?_
    refine go_iload_n (n := 2) (by decide +kernel) l2 f2 ?_
    obtain ⟨x_77, m_78, hc_76, h⟩ := bd_s h
    refine go_callV (x := 700) (mi := 310) (n := 2) (ci := 13) (as := [v1, v2]) (rest := []) (by decide +kernel) (by decide +kernel) rfl rfl (q_sum8 _ (Nat.le_of_ble_eq_true rfl)) R_70 f0 (fx_k (c := 13) R_70 (by decide +kernel)) (om_X12_comes (Nat.le_trans (by decide) hd) R_70 f0 f1 f2 hc_76) (fun _ S_81 q_84 => ?_) (fun _ _ qq => kr_x qq)
    refine kr_v q_84 fun R_82 E_83 => ?_
    have E_87 := Ext.tr E_75 E_83
    cases h
    exact go_vret (by decide +kernel) rfl (hQ E_87 _ _ R_82 q_out_n)
noncomputable def fm_X12_point (p1 p2 : Int) (m0 : MM) : Option (Int × MM) := bp (fm_X12_isRunning p1 m0) fun x_2 =>
if x_2 = 0 then
fj_X12_point_18 p1 p2 m0
else
gd (0 ≤ p1 ∧ p1 < 4) <| lx (m0 131 p1) fun x_30 =>
if x_30 = 3 then
fj_X12_point_18 p1 p2 m0
else
if x_30 = 1 then
lx (m0 135 p1) fun x_94 =>
if x_94 = 0 then
up m0 135 p1 1 fun m_102 =>
up m_102 136 p1 p2 fun m_112 =>
some (0, m_112)
else
fj_X12_point_63 p1 p2 m0
else
fj_X12_point_63 p1 p2 m0
set_option maxHeartbeats 4000000 in
theorem om_X12_point {xs : List Int32} {d : Nat} {S : QS} {m0 : MM} {p1 p2 : Int} {v0 : Value} {v1 : Value} {v2 : Value} {rz : Int} {rm : MM}
  (hd : 7 ≤ d) (R : Rp S m0) (f0 : q_is 2 v0 68) (f1 : q_is 0 v1 p1) (f2 : q_is 0 v2 p2)
  (h : fm_X12_point p1 p2 m0 = some (rz, rm)) : Mt xs d 312 [v0, v1, v2] S (Cr 9 m0 rm rz) := by
  obtain ⟨d, rfl⟩ : ∃ e, d = e + 1 := ⟨d - 1, by omega⟩
  have hd : 6 ≤ d := Nat.le_of_succ_le_succ hd
  refine Mt.of (M := qM_X12_point) rfl (by rw [sl_1 (q_is_cat f0 (Or.inr rfl)), sl_1 (q_is_cat f1 (Or.inl rfl)), sl_1 (q_is_cat f2 (Or.inl rfl)), sl_0]; decide) ?_
  rw [la_1 (q_is_cat f0 (Or.inr rfl)), la_1 (q_is_cat f1 (Or.inl rfl)), la_1 (q_is_cat f2 (Or.inl rfl)), la_0]
  obtain ⟨L, hL⟩ : ∃ L : QL, L = [(0, v0), (0 + 1, v1), (0 + 1 + 1, v2)] := ⟨_, rfl⟩
  rw [← hL]
  have l0 : q_lo L 0 = some v0 := by rw [hL]; rfl
  have l1 : q_lo L 1 = some v1 := by rw [hL]; rfl
  have l2 : q_lo L 2 = some v2 := by rw [hL]; rfl
  have hQ : Ext m0 rm → ∀ o S1, Rp S1 rm → q_out 9 o rz → (Cr 9 m0 rm rz) o S1 := fun a o S1 b e => ⟨b, a, e⟩
  unfold fm_X12_point at h
  refine go_aload_n (n := 0) (by decide +kernel) l0 f0 ?_
  refine go_iload_n (n := 1) (by decide +kernel) l1 f1 ?_
  obtain ⟨x_2, hc_1, h⟩ := bp_s h
  refine go_callV (x := 697) (mi := 309) (n := 1) (ci := 13) (as := [v1]) (rest := []) (by decide +kernel) (by decide +kernel) rfl rfl (q_sum8 _ (Nat.le_of_ble_eq_true rfl)) R f0 (fx_k (c := 13) R (by decide +kernel)) (om_X12_isRunning (Nat.le_trans (by decide) hd) R f0 f1 hc_1) (fun _ S_6 q_9 => ?_) (fun _ _ qq => kr_x qq)
  refine kr_z (by decide) q_9 fun v_4 f_5 R_7 E_8 => ?_
  refine go_if (c := .eq) (o := 13) (t := 18) (P := x_2 = 0) (by decide +kernel) (by decide +kernel) f_5 (Iff.rfl) (fun hp_10 => ?_) (fun hp_10 => ?_)
  · have h := it_t hp_10 h
    exact oj_X12_point_18 hd R_7 l0 f0 l1 f1 l2 f2 hQ h
  · have h := it_f hp_10 h
    refine go_aload_n (n := 0) (by decide +kernel) l0 f0 ?_
    refine go_getf (x := 207) (ci := 13) (kf := 73) (fin := 1) (t := 2) (by decide +kernel) (by decide +kernel) (by decide +kernel) R_7 f0 (fx_k (c := 13) R_7 (by decide +kernel)) fun v_23 f_24 => ?_
    have f_25 := q_is_eq (b := 131) f_24 (fx_v R_7 (by decide +kernel)).symm
    refine go_iload_n (n := 1) (by decide +kernel) l1 f1 ?_
    obtain ⟨g_28, h⟩ := gd_s h
    obtain ⟨x_30, e_31, h⟩ := lx_s h
    refine go_iald (kd := 100) (by decide +kernel) rfl R_7 f_25 f1 (fx_k (c := 100) R_7 (by decide +kernel)) (fx_x (a := 131) (ln := 4) R_7 (by decide +kernel) g_28) fun v_26 f_27 => ?_
    have f_29 := q_is_eq f_27 e_31
    refine go_iconst (n := 3) (z := 3) (by decide +kernel) (by decide) fun v_32 f_33 => ?_
    refine go_icmp (c := .ne) (o := 12) (t := 27) (P := ¬ (x_30 = 3)) (by decide +kernel) (by decide +kernel) f_29 f_33 (Iff.rfl) (fun hp_34 => ?_) (fun hp_34 => ?_)
    · have h := it_f hp_34 h
      refine go_aload_n (n := 0) (by decide +kernel) l0 f0 ?_
      refine go_getf (x := 207) (ci := 13) (kf := 73) (fin := 1) (t := 2) (by decide +kernel) (by decide +kernel) (by decide +kernel) R_7 f0 (fx_k (c := 13) R_7 (by decide +kernel)) fun v_35 f_36 => ?_
      have f_37 := q_is_eq (b := 131) f_36 (fx_v R_7 (by decide +kernel)).symm
      refine go_iload_n (n := 1) (by decide +kernel) l1 f1 ?_
      refine go_iald (kd := 100) (by decide +kernel) rfl R_7 f_37 f1 (fx_k (c := 100) R_7 (by decide +kernel)) (fx_x (a := 131) (ln := 4) R_7 (by decide +kernel) g_28) fun v_38 f_39 => ?_
      have f_40 := q_is_eq f_39 e_31
      refine go_iconst (n := 1) (z := 1) (by decide +kernel) (by decide) fun v_41 f_42 => ?_
      refine go_icmp (c := .ne) (o := 29) (t := 63) (P := ¬ (x_30 = 1)) (by decide +kernel) (by decide +kernel) f_40 f_42 (Iff.rfl) (fun hp_43 => ?_) (fun hp_43 => ?_)
      · have h := it_f hp_43 h
        exact oj_X12_point_63 hd R_7 l0 f0 l1 f1 l2 f2 hQ h
      · have h := it_n hp_43 h
        refine go_aload_n (n := 0) (by decide +kernel) l0 f0 ?_
        refine go_getf (x := 219) (ci := 13) (kf := 77) (fin := 1) (t := 2) (by decide +kernel) (by decide +kernel) (by decide +kernel) R_7 f0 (fx_k (c := 13) R_7 (by decide +kernel)) fun v_88 f_89 => ?_
        have f_90 := q_is_eq (b := 135) f_89 (fx_v R_7 (by decide +kernel)).symm
        refine go_iload_n (n := 1) (by decide +kernel) l1 f1 ?_
        obtain ⟨x_94, e_95, h⟩ := lx_s h
        refine go_bald (kd := 102) (by decide +kernel) rfl R_7 f_90 f1 (fx_k (c := 102) R_7 (by decide +kernel)) (fx_x (a := 135) (ln := 4) R_7 (by decide +kernel) g_28) fun v_91 f_92 => ?_
        have f_93 := q_is_eq f_92 e_95
        refine go_if (c := .ne) (o := 20) (t := 63) (P := ¬ (x_94 = 0)) (by decide +kernel) (by decide +kernel) f_93 (Iff.rfl) (fun hp_96 => ?_) (fun hp_96 => ?_)
        · have h := it_f hp_96 h
          exact oj_X12_point_63 hd R_7 l0 f0 l1 f1 l2 f2 hQ h
        · have h := it_n hp_96 h
          refine go_aload_n (n := 0) (by decide +kernel) l0 f0 ?_
          refine go_getf (x := 219) (ci := 13) (kf := 77) (fin := 1) (t := 2) (by decide +kernel) (by decide +kernel) (by decide +kernel) R_7 f0 (fx_k (c := 13) R_7 (by decide +kernel)) fun v_97 f_98 => ?_
          have f_99 := q_is_eq (b := 135) f_98 (fx_v R_7 (by decide +kernel)).symm
          refine go_iload_n (n := 1) (by decide +kernel) l1 f1 ?_
          refine go_iconst (n := 1) (z := 1) (by decide +kernel) (by decide) fun v_100 f_101 => ?_
          obtain ⟨m_102, e_103, h⟩ := up_s h
          refine go_bast (kd := 102) (by decide +kernel) rfl R_7 f_99 f1 f_101 (by decide) (fx_k (c := 102) R_7 (by decide +kernel)) (fx_x (a := 135) (ln := 4) R_7 (by decide +kernel) g_28) e_103 (fx_a R_7.2 (fx_k (c := 102) R_7 (by decide +kernel)) (And.left (fx_x (a := 135) (ln := 4) R_7 (by decide +kernel) g_28)) (by decide +kernel)) fun S_104 R_105 E_106 => ?_
          have E_108 := E_106
          refine go_aload_n (n := 0) (by decide +kernel) l0 f0 ?_
          refine go_getf (x := 222) (ci := 13) (kf := 78) (fin := 1) (t := 2) (by decide +kernel) (by decide +kernel) (by decide +kernel) R_105 f0 (fx_k (c := 13) R_105 (by decide +kernel)) fun v_109 f_110 => ?_
          have f_111 := q_is_eq (b := 136) f_110 (fx_v R_105 (by decide +kernel)).symm
          refine go_iload_n (n := 1) (by decide +kernel) l1 f1 ?_
          refine go_iload_n (n := 2) (by decide +kernel) l2 f2 ?_
          obtain ⟨m_112, e_113, h⟩ := up_s h
          refine go_iast (kd := 100) (by decide +kernel) rfl R_105 f_111 f1 f2 (fx_k (c := 100) R_105 (by decide +kernel)) (fx_x (a := 136) (ln := 4) R_105 (by decide +kernel) g_28) e_113 (fx_a R_105.2 (fx_k (c := 100) R_105 (by decide +kernel)) (And.left (fx_x (a := 136) (ln := 4) R_105 (by decide +kernel) g_28)) (by decide +kernel)) fun S_114 R_115 E_116 => ?_
          have E_118 := Ext.tr E_108 E_116
          refine go_goto (o := 30) (t := 90) (by decide +kernel) (by decide +kernel) ?_
          cases h
          exact go_vret (by decide +kernel) rfl (hQ E_118 _ _ R_115 q_out_n)
    · have h := it_n hp_34 h
      exact oj_X12_point_18 hd R_7 l0 f0 l1 f1 l2 f2 hQ h
noncomputable def fl_X12_looksAtSchedule_54 (y1 y2 : Int) (k94 : MM → Option (Int × MM)) : Nat → Int → MM → Option (Int × MM)
  | 0, _, _ => none
  | n + 1, y3, m => if y2 < y3 then
k94 m
else
gd (0 ≤ y1 ∧ y1 < 4) <| lx (m 130 y1) fun x_61 =>
gd (x_61 ≠ 0) <| if Int.tmod y3 x_61 = 0 then
lx (m 133 y1) fun x_84 =>
if x_84 = 0 then
bp (fm_X12_ofThousand y3 m) fun x_99 =>
bd (fm_X12_point y1 x_99 m) fun x_108 m_109 =>
lx (w32 (y3 + 1)) fun x_124 =>
fl_X12_looksAtSchedule_54 y1 y2 k94 n x_124 m_109
else
lx (w32 (y3 + 1)) fun x_92 =>
fl_X12_looksAtSchedule_54 y1 y2 k94 n x_92 m
else
lx (w32 (y3 + 1)) fun x_72 =>
fl_X12_looksAtSchedule_54 y1 y2 k94 n x_72 m
set_option maxHeartbeats 4000000 in
theorem ol_X12_looksAtSchedule_54 {xs : List Int32} {d : Nat} {Q : QO → QS → Prop} {mb : MM} {y1 y2 : Int} {k94 : MM → Option (Int × MM)} {rz : Int} {rm : MM}
  (hd : 7 ≤ d)
  (hk94 : ∀ mq : MM, Ext mb mq → ∀ {Sq : QS} {Lq : QL} {u0 : Value} {u1 : Value} {u2 : Value}, k94 mq = some (rz, rm) → Rp Sq mq → q_lo Lq 0 = some u0 → q_is 2 u0 68 → q_lo Lq 1 = some u1 → q_is 0 u1 y1 → q_lo Lq 2 = some u2 → q_is 0 u2 y2 → Go xs d qM_X12_looksAtSchedule 94 Lq [] Sq Q)
  (hQ : Ext mb rm → ∀ o S1, Rp S1 rm → q_out 9 o rz → Q o S1) :
  ∀ (n : Nat) {m : MM} {S : QS} {L : QL} {y3 : Int} {v0 : Value} {v1 : Value} {v2 : Value} {v3 : Value} , Ext mb m → fl_X12_looksAtSchedule_54 y1 y2 k94 n y3 m = some (rz, rm) → Rp S m → q_lo L 0 = some v0 → q_is 2 v0 68 → q_lo L 1 = some v1 → q_is 0 v1 y1 → q_lo L 2 = some v2 → q_is 0 v2 y2 → q_lo L 3 = some v3 → q_is 0 v3 y3 → Go xs d qM_X12_looksAtSchedule 54 L [] S Q := by
  intro n
  induction n with
  | zero => intro m S L y3 v0 v1 v2 v3; intro E h R l0 f0 l1 f1 l2 f2 l3 f3; cases h
  | succ n ih0 =>
    intro m S L y3 v0 v1 v2 v3; intro E h R l0 f0 l1 f1 l2 f2 l3 f3
    have ih : ∀ mq : MM, Ext mb mq → ∀ {z3 : Int} {Sq : QS} {Lq : QL} {u0 : Value} {u1 : Value} {u2 : Value} {u3 : Value}, fl_X12_looksAtSchedule_54 y1 y2 k94 n z3 mq = some (rz, rm) → Rp Sq mq → q_lo Lq 0 = some u0 → q_is 2 u0 68 → q_lo Lq 1 = some u1 → q_is 0 u1 y1 → q_lo Lq 2 = some u2 → q_is 0 u2 y2 → q_lo Lq 3 = some u3 → q_is 0 u3 z3 → Go xs d qM_X12_looksAtSchedule 54 Lq [] Sq Q := fun mq b => by intros; exact ih0 b ‹_› ‹_› ‹_› ‹_› ‹_› ‹_› ‹_› ‹_› ‹_› ‹_›
    unfold fl_X12_looksAtSchedule_54 at h
    refine go_iload_n (n := 3) (by decide +kernel) l3 f3 ?_
    refine go_iload_n (n := 2) (by decide +kernel) l2 f2 ?_
    refine go_icmp (c := .gt) (o := 38) (t := 94) (P := y2 < y3) (by decide +kernel) (by decide +kernel) f3 f2 (Iff.rfl) (fun hp_53 => ?_) (fun hp_53 => ?_)
    · have h := it_t hp_53 h
      exact hk94 m E h R l0 f0 l1 f1 l2 f2
    · have h := it_f hp_53 h
      refine go_iload_n (n := 3) (by decide +kernel) l3 f3 ?_
      refine go_aload_n (n := 0) (by decide +kernel) l0 f0 ?_
      refine go_getf (x := 204) (ci := 13) (kf := 72) (fin := 1) (t := 2) (by decide +kernel) (by decide +kernel) (by decide +kernel) R f0 (fx_k (c := 13) R (by decide +kernel)) fun v_54 f_55 => ?_
      have f_56 := q_is_eq (b := 130) f_55 (fx_v R (by decide +kernel)).symm
      refine go_iload_n (n := 1) (by decide +kernel) l1 f1 ?_
      obtain ⟨g_59, h⟩ := gd_s h
      obtain ⟨x_61, e_62, h⟩ := lx_s h
      refine go_iald (kd := 100) (by decide +kernel) rfl R f_56 f1 (fx_k (c := 100) R (by decide +kernel)) (fx_x (a := 130) (ln := 4) R (by decide +kernel) g_59) fun v_57 f_58 => ?_
      have f_60 := q_is_eq f_58 e_62
      obtain ⟨g_65, h⟩ := gd_s h
      refine go_irem (by decide +kernel) f3 f_60 g_65 fun v_63 f_64 => ?_
      refine go_if (c := .ne) (o := 21) (t := 88) (P := ¬ (Int.tmod y3 x_61 = 0)) (by decide +kernel) (by decide +kernel) f_64 (Iff.rfl) (fun hp_66 => ?_) (fun hp_66 => ?_)
      · have h := it_f hp_66 h
        refine go_iinc (n := 3) (c := 1) (c' := 1) (by decide +kernel) (by decide +kernel) l3 f3 (by decide) fun L_67 v_68 f_69 l_70 kp_71 => ?_
        obtain ⟨x_72, e_73, h⟩ := lx_s h
        have f_74 := q_is_eq f_69 e_73
        have l_75 := kp_71 0 _ l0 (by decide) (Or.inl (by decide))
        have l_76 := kp_71 1 _ l1 (by decide) (Or.inl (by decide))
        have l_77 := kp_71 2 _ l2 (by decide) (Or.inr (q_is_cat f2 (Or.inl rfl)))
        refine go_goto (o := (-37)) (t := 54) (by decide +kernel) (by decide +kernel) ?_
        exact ih m E h R l_75 f0 l_76 f1 l_77 f2 l_70 f_74
      · have h := it_n hp_66 h
        refine go_aload_n (n := 0) (by decide +kernel) l0 f0 ?_
        refine go_getf (x := 213) (ci := 13) (kf := 75) (fin := 1) (t := 2) (by decide +kernel) (by decide +kernel) (by decide +kernel) R f0 (fx_k (c := 13) R (by decide +kernel)) fun v_78 f_79 => ?_
        have f_80 := q_is_eq (b := 133) f_79 (fx_v R (by decide +kernel)).symm
        refine go_iload_n (n := 1) (by decide +kernel) l1 f1 ?_
        obtain ⟨x_84, e_85, h⟩ := lx_s h
        refine go_bald (kd := 102) (by decide +kernel) rfl R f_80 f1 (fx_k (c := 102) R (by decide +kernel)) (fx_x (a := 133) (ln := 4) R (by decide +kernel) g_59) fun v_81 f_82 => ?_
        have f_83 := q_is_eq f_82 e_85
        refine go_if (c := .ne) (o := 12) (t := 88) (P := ¬ (x_84 = 0)) (by decide +kernel) (by decide +kernel) f_83 (Iff.rfl) (fun hp_86 => ?_) (fun hp_86 => ?_)
        · have h := it_f hp_86 h
          refine go_iinc (n := 3) (c := 1) (c' := 1) (by decide +kernel) (by decide +kernel) l3 f3 (by decide) fun L_87 v_88 f_89 l_90 kp_91 => ?_
          obtain ⟨x_92, e_93, h⟩ := lx_s h
          have f_94 := q_is_eq f_89 e_93
          have l_95 := kp_91 0 _ l0 (by decide) (Or.inl (by decide))
          have l_96 := kp_91 1 _ l1 (by decide) (Or.inl (by decide))
          have l_97 := kp_91 2 _ l2 (by decide) (Or.inr (q_is_cat f2 (Or.inl rfl)))
          refine go_goto (o := (-37)) (t := 54) (by decide +kernel) (by decide +kernel) ?_
          exact ih m E h R l_95 f0 l_96 f1 l_97 f2 l_90 f_94
        · have h := it_n hp_86 h
          refine go_aload_n (n := 0) (by decide +kernel) l0 f0 ?_
          refine go_iload_n (n := 1) (by decide +kernel) l1 f1 ?_
          refine go_iload_n (n := 3) (by decide +kernel) l3 f3 ?_
          obtain ⟨x_99, hc_98, h⟩ := bp_s h
          refine go_callS (x := 703) (mi := 195) (n := 1) (b := 0) (as := [v3]) (rest := [v1, v0]) (by decide +kernel) (by decide +kernel) rfl rfl (q_sum8 _ (Nat.le_of_ble_eq_true rfl)) (om_X12_ofThousand (Nat.le_trans (by decide) hd) R f3 hc_98) (fun _ S_103 q_106 => ?_) (fun _ _ qq => kr_x qq)
          refine kr_z (by decide) q_106 fun v_101 f_102 R_104 E_105 => ?_
          obtain ⟨x_108, m_109, hc_107, h⟩ := bd_s h
          refine go_callV (x := 706) (mi := 312) (n := 2) (ci := 13) (as := [v1, v_101]) (rest := []) (by decide +kernel) (by decide +kernel) rfl rfl (q_sum8 _ (Nat.le_of_ble_eq_true rfl)) R_104 f0 (fx_k (c := 13) R_104 (by decide +kernel)) (om_X12_point (Nat.le_trans (by decide) hd) R_104 f0 f1 f_102 hc_107) (fun _ S_112 q_115 => ?_) (fun _ _ qq => kr_x qq)
          refine kr_v q_115 fun R_113 E_114 => ?_
          have E_118 := Ext.tr E E_114
          refine go_iinc (n := 3) (c := 1) (c' := 1) (by decide +kernel) (by decide +kernel) l3 f3 (by decide) fun L_119 v_120 f_121 l_122 kp_123 => ?_
          obtain ⟨x_124, e_125, h⟩ := lx_s h
          have f_126 := q_is_eq f_121 e_125
          have l_127 := kp_123 0 _ l0 (by decide) (Or.inl (by decide))
          have l_128 := kp_123 1 _ l1 (by decide) (Or.inl (by decide))
          have l_129 := kp_123 2 _ l2 (by decide) (Or.inr (q_is_cat f2 (Or.inl rfl)))
          refine go_goto (o := (-37)) (t := 54) (by decide +kernel) (by decide +kernel) ?_
          exact ih m_109 E_118 h R_113 l_127 f0 l_128 f1 l_129 f2 l_122 f_126
noncomputable def fj_X12_looksAtSchedule_35 (y1 : Int) (m : MM) : Option (Int × MM) := lx (m 68 0) fun x_14 =>
lx (m 68 68) fun x_19 =>
lx (w32 (x_14 + x_19)) fun x_23 =>
gd (0 ≤ y1 ∧ y1 < 4) <| lx (m 132 y1) fun x_38 =>
lx (w32 (x_38 + 1)) fun x_44 =>
fl_X12_looksAtSchedule_54 y1 x_23 (fun m_142 =>
lx (m_142 132 y1) fun x_156 =>
bp (fm_X12_most x_156 x_23 m_142) fun x_159 =>
up m_142 132 y1 x_159 fun m_167 =>
some (0, m_167)) BIG x_44 m
set_option maxHeartbeats 4000000 in
theorem oj_X12_looksAtSchedule_35 {xs : List Int32} {d : Nat} {S : QS} {L : QL} {Q : QO → QS → Prop} {m : MM} {y1 : Int} {v0 : Value} {v1 : Value}  {rz : Int} {rm : MM}
  (hd : 7 ≤ d) (R : Rp S m) (l0 : q_lo L 0 = some v0) (f0 : q_is 2 v0 68) (l1 : q_lo L 1 = some v1) (f1 : q_is 0 v1 y1)
  (hQ : Ext m rm → ∀ o S1, Rp S1 rm → q_out 9 o rz → Q o S1)
  (h : fj_X12_looksAtSchedule_35 y1 m = some (rz, rm)) : Go xs d qM_X12_looksAtSchedule 35 L [] S Q := by
  unfold fj_X12_looksAtSchedule_35 at h
  refine go_aload_n (n := 0) (by decide +kernel) l0 f0 ?_
  obtain ⟨x_14, e_15, h⟩ := lx_s h
  refine go_getf (x := 357) (ci := 13) (kf := 0) (fin := 0) (t := 0) (by decide +kernel) (by decide +kernel) (by decide +kernel) R f0 (fx_k (c := 13) R (by decide +kernel)) fun v_11 f_12 => ?_
  have f_13 := q_is_eq f_12 e_15
  refine go_aload_n (n := 0) (by decide +kernel) l0 f0 ?_
  obtain ⟨x_19, e_20, h⟩ := lx_s h
  refine go_getf (x := 691) (ci := 13) (kf := 68) (fin := 0) (t := 0) (by decide +kernel) (by decide +kernel) (by decide +kernel) R f0 (fx_k (c := 13) R (by decide +kernel)) fun v_16 f_17 => ?_
  have f_18 := q_is_eq f_17 e_20
  refine go_iadd (by decide +kernel) f_13 f_18 fun v_21 f_22 => ?_
  obtain ⟨x_23, e_24, h⟩ := lx_s h
  have f_25 := q_is_eq f_22 e_24
  refine go_istore_n (n := 2) (by decide +kernel) (by decide +kernel) f_25 fun L_26 l_27 kp_28 => ?_
  have l_29 := kp_28 0 _ l0 (by decide) (Or.inl (by decide))
  have l_30 := kp_28 1 _ l1 (by decide) (Or.inr (q_is_cat f1 (Or.inl rfl)))
  refine go_aload_n (n := 0) (by decide +kernel) l_29 f0 ?_
  refine go_getf (x := 210) (ci := 13) (kf := 74) (fin := 1) (t := 2) (by decide +kernel) (by decide +kernel) (by decide +kernel) R f0 (fx_k (c := 13) R (by decide +kernel)) fun v_31 f_32 => ?_
  have f_33 := q_is_eq (b := 132) f_32 (fx_v R (by decide +kernel)).symm
  refine go_iload_n (n := 1) (by decide +kernel) l_30 f1 ?_
  obtain ⟨g_36, h⟩ := gd_s h
  obtain ⟨x_38, e_39, h⟩ := lx_s h
  refine go_iald (kd := 100) (by decide +kernel) rfl R f_33 f1 (fx_k (c := 100) R (by decide +kernel)) (fx_x (a := 132) (ln := 4) R (by decide +kernel) g_36) fun v_34 f_35 => ?_
  have f_37 := q_is_eq f_35 e_39
  refine go_iconst (n := 1) (z := 1) (by decide +kernel) (by decide) fun v_40 f_41 => ?_
  refine go_iadd (by decide +kernel) f_37 f_41 fun v_42 f_43 => ?_
  obtain ⟨x_44, e_45, h⟩ := lx_s h
  have f_46 := q_is_eq f_43 e_45
  refine go_istore_n (n := 3) (by decide +kernel) (by decide +kernel) f_46 fun L_47 l_48 kp_49 => ?_
  have l_50 := kp_49 0 _ l_29 (by decide) (Or.inl (by decide))
  have l_51 := kp_49 1 _ l_30 (by decide) (Or.inl (by decide))
  have l_52 := kp_49 2 _ l_27 (by decide) (Or.inr (q_is_cat f_25 (Or.inl rfl)))
  refine ol_X12_looksAtSchedule_54 hd  ?_ hQ BIG (Ext.rf _) h R l_50 f0 l_51 f1 l_52 f_25 l_48 f_46
  intro m_142 E_143
  intro S_139 L_140 v_130 v_131 v_132
  intro h R_141 l_133 f_136 l_134 f_137 l_135 f_138
  have E_144 := E_143
  refine go_aload_n (n := 0) (by decide +kernel) l_133 f_136 ?_
  refine go_getf (x := 210) (ci := 13) (kf := 74) (fin := 1) (t := 2) (by decide +kernel) (by decide +kernel) (by decide +kernel) R_141 f_136 (fx_k (c := 13) R_141 (by decide +kernel)) fun v_147 f_148 => ?_
  have f_149 := q_is_eq (b := 132) f_148 (fx_v R_141 (by decide +kernel)).symm
  refine go_iload_n (n := 1) (by decide +kernel) l_134 f_137 ?_
  refine go_aload_n (n := 0) (by decide +kernel) l_133 f_136 ?_
  refine go_getf (x := 210) (ci := 13) (kf := 74) (fin := 1) (t := 2) (by decide +kernel) (by decide +kernel) (by decide +kernel) R_141 f_136 (fx_k (c := 13) R_141 (by decide +kernel)) fun v_150 f_151 => ?_
  have f_152 := q_is_eq (b := 132) f_151 (fx_v R_141 (by decide +kernel)).symm
  refine go_iload_n (n := 1) (by decide +kernel) l_134 f_137 ?_
  obtain ⟨x_156, e_157, h⟩ := lx_s h
  refine go_iald (kd := 100) (by decide +kernel) rfl R_141 f_152 f_137 (fx_k (c := 100) R_141 (by decide +kernel)) (fx_x (a := 132) (ln := 4) R_141 (by decide +kernel) g_36) fun v_153 f_154 => ?_
  have f_155 := q_is_eq f_154 e_157
  refine go_iload_n (n := 2) (by decide +kernel) l_135 f_138 ?_
  obtain ⟨x_159, hc_158, h⟩ := bp_s h
  refine go_callS (x := 338) (mi := 190) (n := 2) (b := 0) (as := [v_153, v_132]) (rest := [v_131, v_147]) (by decide +kernel) (by decide +kernel) rfl rfl (q_sum8 _ (Nat.le_of_ble_eq_true rfl)) (om_X12_most (Nat.le_trans (by decide) hd) R_141 f_155 f_138 hc_158) (fun _ S_163 q_166 => ?_) (fun _ _ qq => kr_x qq)
  refine kr_z (by decide) q_166 fun v_161 f_162 R_164 E_165 => ?_
  obtain ⟨m_167, e_168, h⟩ := up_s h
  refine go_iast (kd := 100) (by decide +kernel) rfl R_164 f_149 f_137 f_162 (fx_k (c := 100) R_164 (by decide +kernel)) (fx_x (a := 132) (ln := 4) R_164 (by decide +kernel) g_36) e_168 (fx_a R_164.2 (fx_k (c := 100) R_164 (by decide +kernel)) (And.left (fx_x (a := 132) (ln := 4) R_164 (by decide +kernel) g_36)) (by decide +kernel)) fun S_169 R_170 E_171 => ?_
  have E_173 := Ext.tr E_144 E_171
  cases h
  exact go_vret (by decide +kernel) rfl (hQ E_173 _ _ R_170 q_out_n)
noncomputable def fm_X12_looksAtSchedule (p1 : Int) (m0 : MM) : Option (Int × MM) := gd (0 ≤ p1 ∧ p1 < 4) <| lx (m0 135 p1) fun x_8 =>
if x_8 = 0 then
fj_X12_looksAtSchedule_35 p1 m0
else
bp (fm_X12_isRunning p1 m0) fun x_175 =>
if x_175 = 0 then
up m0 135 p1 0 fun m_189 =>
lx (m_189 136 p1) fun x_202 =>
bd (fm_X12_comes p1 x_202 m_189) fun x_205 m_206 =>
fj_X12_looksAtSchedule_35 p1 m_206
else
fj_X12_looksAtSchedule_35 p1 m0
set_option maxHeartbeats 4000000 in
theorem om_X12_looksAtSchedule {xs : List Int32} {d : Nat} {S : QS} {m0 : MM} {p1 : Int} {v0 : Value} {v1 : Value} {rz : Int} {rm : MM}
  (hd : 8 ≤ d) (R : Rp S m0) (f0 : q_is 2 v0 68) (f1 : q_is 0 v1 p1)
  (h : fm_X12_looksAtSchedule p1 m0 = some (rz, rm)) : Mt xs d 311 [v0, v1] S (Cr 9 m0 rm rz) := by
  obtain ⟨d, rfl⟩ : ∃ e, d = e + 1 := ⟨d - 1, by omega⟩
  have hd : 7 ≤ d := Nat.le_of_succ_le_succ hd
  refine Mt.of (M := qM_X12_looksAtSchedule) rfl (by rw [sl_1 (q_is_cat f0 (Or.inr rfl)), sl_1 (q_is_cat f1 (Or.inl rfl)), sl_0]; decide) ?_
  rw [la_1 (q_is_cat f0 (Or.inr rfl)), la_1 (q_is_cat f1 (Or.inl rfl)), la_0]
  obtain ⟨L, hL⟩ : ∃ L : QL, L = [(0, v0), (0 + 1, v1)] := ⟨_, rfl⟩
  rw [← hL]
  have l0 : q_lo L 0 = some v0 := by rw [hL]; rfl
  have l1 : q_lo L 1 = some v1 := by rw [hL]; rfl
  have hQ : Ext m0 rm → ∀ o S1, Rp S1 rm → q_out 9 o rz → (Cr 9 m0 rm rz) o S1 := fun a o S1 b e => ⟨b, a, e⟩
  unfold fm_X12_looksAtSchedule at h
  refine go_aload_n (n := 0) (by decide +kernel) l0 f0 ?_
  refine go_getf (x := 219) (ci := 13) (kf := 77) (fin := 1) (t := 2) (by decide +kernel) (by decide +kernel) (by decide +kernel) R f0 (fx_k (c := 13) R (by decide +kernel)) fun v_1 f_2 => ?_
  have f_3 := q_is_eq (b := 135) f_2 (fx_v R (by decide +kernel)).symm
  refine go_iload_n (n := 1) (by decide +kernel) l1 f1 ?_
  obtain ⟨g_6, h⟩ := gd_s h
  obtain ⟨x_8, e_9, h⟩ := lx_s h
  refine go_bald (kd := 102) (by decide +kernel) rfl R f_3 f1 (fx_k (c := 102) R (by decide +kernel)) (fx_x (a := 135) (ln := 4) R (by decide +kernel) g_6) fun v_4 f_5 => ?_
  have f_7 := q_is_eq f_5 e_9
  refine go_if (c := .eq) (o := 29) (t := 35) (P := x_8 = 0) (by decide +kernel) (by decide +kernel) f_7 (Iff.rfl) (fun hp_10 => ?_) (fun hp_10 => ?_)
  · have h := it_t hp_10 h
    exact oj_X12_looksAtSchedule_35 hd R l0 f0 l1 f1 hQ h
  · have h := it_f hp_10 h
    refine go_aload_n (n := 0) (by decide +kernel) l0 f0 ?_
    refine go_iload_n (n := 1) (by decide +kernel) l1 f1 ?_
    obtain ⟨x_175, hc_174, h⟩ := bp_s h
    refine go_callV (x := 697) (mi := 309) (n := 1) (ci := 13) (as := [v1]) (rest := []) (by decide +kernel) (by decide +kernel) rfl rfl (q_sum8 _ (Nat.le_of_ble_eq_true rfl)) R f0 (fx_k (c := 13) R (by decide +kernel)) (om_X12_isRunning (Nat.le_trans (by decide) hd) R f0 f1 hc_174) (fun _ S_179 q_182 => ?_) (fun _ _ qq => kr_x qq)
    refine kr_z (by decide) q_182 fun v_177 f_178 R_180 E_181 => ?_
    refine go_if (c := .ne) (o := 21) (t := 35) (P := ¬ (x_175 = 0)) (by decide +kernel) (by decide +kernel) f_178 (Iff.rfl) (fun hp_183 => ?_) (fun hp_183 => ?_)
    · have h := it_f hp_183 h
      exact oj_X12_looksAtSchedule_35 hd R_180 l0 f0 l1 f1 hQ h
    · have h := it_n hp_183 h
      refine go_aload_n (n := 0) (by decide +kernel) l0 f0 ?_
      refine go_getf (x := 219) (ci := 13) (kf := 77) (fin := 1) (t := 2) (by decide +kernel) (by decide +kernel) (by decide +kernel) R_180 f0 (fx_k (c := 13) R_180 (by decide +kernel)) fun v_184 f_185 => ?_
      have f_186 := q_is_eq (b := 135) f_185 (fx_v R_180 (by decide +kernel)).symm
      refine go_iload_n (n := 1) (by decide +kernel) l1 f1 ?_
      refine go_iconst (n := 0) (z := 0) (by decide +kernel) (by decide) fun v_187 f_188 => ?_
      obtain ⟨m_189, e_190, h⟩ := up_s h
      refine go_bast (kd := 102) (by decide +kernel) rfl R_180 f_186 f1 f_188 (by decide) (fx_k (c := 102) R_180 (by decide +kernel)) (fx_x (a := 135) (ln := 4) R_180 (by decide +kernel) g_6) e_190 (fx_a R_180.2 (fx_k (c := 102) R_180 (by decide +kernel)) (And.left (fx_x (a := 135) (ln := 4) R_180 (by decide +kernel) g_6)) (by decide +kernel)) fun S_191 R_192 E_193 => ?_
      have E_195 := E_193
      refine go_aload_n (n := 0) (by decide +kernel) l0 f0 ?_
      refine go_iload_n (n := 1) (by decide +kernel) l1 f1 ?_
      refine go_aload_n (n := 0) (by decide +kernel) l0 f0 ?_
      refine go_getf (x := 222) (ci := 13) (kf := 78) (fin := 1) (t := 2) (by decide +kernel) (by decide +kernel) (by decide +kernel) R_192 f0 (fx_k (c := 13) R_192 (by decide +kernel)) fun v_196 f_197 => ?_
      have f_198 := q_is_eq (b := 136) f_197 (fx_v R_192 (by decide +kernel)).symm
      refine go_iload_n (n := 1) (by decide +kernel) l1 f1 ?_
      obtain ⟨x_202, e_203, h⟩ := lx_s h
      refine go_iald (kd := 100) (by decide +kernel) rfl R_192 f_198 f1 (fx_k (c := 100) R_192 (by decide +kernel)) (fx_x (a := 136) (ln := 4) R_192 (by decide +kernel) g_6) fun v_199 f_200 => ?_
      have f_201 := q_is_eq f_200 e_203
      obtain ⟨x_205, m_206, hc_204, h⟩ := bd_s h
      refine go_callV (x := 700) (mi := 310) (n := 2) (ci := 13) (as := [v1, v_199]) (rest := []) (by decide +kernel) (by decide +kernel) rfl rfl (q_sum8 _ (Nat.le_of_ble_eq_true rfl)) R_192 f0 (fx_k (c := 13) R_192 (by decide +kernel)) (om_X12_comes (Nat.le_trans (by decide) hd) R_192 f0 f1 f_201 hc_204) (fun _ S_209 q_212 => ?_) (fun _ _ qq => kr_x qq)
      refine kr_v q_212 fun R_210 E_211 => ?_
      have E_215 := Ext.tr E_195 E_211
      exact oj_X12_looksAtSchedule_35 hd R_210 l0 f0 l1 f1 (fun b => hQ (Ext.tr E_215 b)) h
noncomputable def fl_X12_pass_43 (y1 y2 : Int) (k61 : MM → Option (Int × MM)) : Nat → Int → MM → Option (Int × MM)
  | 0, _, _ => none
  | n + 1, y3, m => if y3 < 3 then
gd (0 ≤ y3 ∧ y3 < 3) <| up m 120 y3 0 fun m_76 =>
lx (w32 (y3 + 1)) fun x_88 =>
fl_X12_pass_43 y1 y2 k61 n x_88 m_76
else
k61 m
set_option maxHeartbeats 4000000 in
theorem ol_X12_pass_43 {xs : List Int32} {d : Nat} {Q : QO → QS → Prop} {mb : MM} {y1 y2 : Int} {k61 : MM → Option (Int × MM)} {rz : Int} {rm : MM}
  (hd : 8 ≤ d)
  (hk61 : ∀ mq : MM, Ext mb mq → ∀ {Sq : QS} {Lq : QL} {u0 : Value} {u1 : Value} {u2 : Value}, k61 mq = some (rz, rm) → Rp Sq mq → q_lo Lq 0 = some u0 → q_is 2 u0 68 → q_lo Lq 1 = some u1 → q_is 0 u1 y1 → q_lo Lq 2 = some u2 → q_is 0 u2 y2 → Go xs d qM_X12_pass 61 Lq [] Sq Q)
  (hQ : Ext mb rm → ∀ o S1, Rp S1 rm → q_out 0 o rz → Q o S1) :
  ∀ (n : Nat) {m : MM} {S : QS} {L : QL} {y3 : Int} {v0 : Value} {v1 : Value} {v2 : Value} {v3 : Value} , Ext mb m → fl_X12_pass_43 y1 y2 k61 n y3 m = some (rz, rm) → Rp S m → q_lo L 0 = some v0 → q_is 2 v0 68 → q_lo L 1 = some v1 → q_is 0 v1 y1 → q_lo L 2 = some v2 → q_is 0 v2 y2 → q_lo L 3 = some v3 → q_is 0 v3 y3 → Go xs d qM_X12_pass 43 L [] S Q := by
  intro n
  induction n with
  | zero => intro m S L y3 v0 v1 v2 v3; intro E h R l0 f0 l1 f1 l2 f2 l3 f3; cases h
  | succ n ih0 =>
    intro m S L y3 v0 v1 v2 v3; intro E h R l0 f0 l1 f1 l2 f2 l3 f3
    have ih : ∀ mq : MM, Ext mb mq → ∀ {z3 : Int} {Sq : QS} {Lq : QL} {u0 : Value} {u1 : Value} {u2 : Value} {u3 : Value}, fl_X12_pass_43 y1 y2 k61 n z3 mq = some (rz, rm) → Rp Sq mq → q_lo Lq 0 = some u0 → q_is 2 u0 68 → q_lo Lq 1 = some u1 → q_is 0 u1 y1 → q_lo Lq 2 = some u2 → q_is 0 u2 y2 → q_lo Lq 3 = some u3 → q_is 0 u3 z3 → Go xs d qM_X12_pass 43 Lq [] Sq Q := fun mq b => by intros; exact ih0 b ‹_› ‹_› ‹_› ‹_› ‹_› ‹_› ‹_› ‹_› ‹_› ‹_›
    unfold fl_X12_pass_43 at h
    refine go_iload_n (n := 3) (by decide +kernel) l3 f3 ?_
    refine go_iconst (n := 3) (z := 3) (by decide +kernel) (by decide) fun v_67 f_68 => ?_
    refine go_icmp (c := .ge) (o := 16) (t := 61) (P := ¬ (y3 < 3)) (by decide +kernel) (by decide +kernel) f3 f_68 (Int.not_lt.symm) (fun hp_69 => ?_) (fun hp_69 => ?_)
    · have h := it_f hp_69 h
      exact hk61 m E h R l0 f0 l1 f1 l2 f2
    · have h := it_n hp_69 h
      refine go_aload_n (n := 0) (by decide +kernel) l0 f0 ?_
      refine go_getf (x := 174) (ci := 13) (kf := 60) (fin := 1) (t := 2) (by decide +kernel) (by decide +kernel) (by decide +kernel) R f0 (fx_k (c := 13) R (by decide +kernel)) fun v_70 f_71 => ?_
      have f_72 := q_is_eq (b := 120) f_71 (fx_v R (by decide +kernel)).symm
      refine go_iload_n (n := 3) (by decide +kernel) l3 f3 ?_
      refine go_iconst (n := 0) (z := 0) (by decide +kernel) (by decide) fun v_73 f_74 => ?_
      obtain ⟨g_75, h⟩ := gd_s h
      obtain ⟨m_76, e_77, h⟩ := up_s h
      refine go_iast (kd := 100) (by decide +kernel) rfl R f_72 f3 f_74 (fx_k (c := 100) R (by decide +kernel)) (fx_x (a := 120) (ln := 3) R (by decide +kernel) g_75) e_77 (fx_a R.2 (fx_k (c := 100) R (by decide +kernel)) (And.left (fx_x (a := 120) (ln := 3) R (by decide +kernel) g_75)) (by decide +kernel)) fun S_78 R_79 E_80 => ?_
      have E_82 := Ext.tr E E_80
      refine go_iinc (n := 3) (c := 1) (c' := 1) (by decide +kernel) (by decide +kernel) l3 f3 (by decide) fun L_83 v_84 f_85 l_86 kp_87 => ?_
      obtain ⟨x_88, e_89, h⟩ := lx_s h
      have f_90 := q_is_eq f_85 e_89
      have l_91 := kp_87 0 _ l0 (by decide) (Or.inl (by decide))
      have l_92 := kp_87 1 _ l1 (by decide) (Or.inl (by decide))
      have l_93 := kp_87 2 _ l2 (by decide) (Or.inr (q_is_cat f2 (Or.inl rfl)))
      refine go_goto (o := (-15)) (t := 43) (by decide +kernel) (by decide +kernel) ?_
      exact ih m_76 E_82 h R_79 l_91 f0 l_92 f1 l_93 f2 l_86 f_90
noncomputable def fl_X12_pass_71 (y1 y2 : Int) (k90 : MM → Option (Int × MM)) : Nat → Int → MM → Option (Int × MM)
  | 0, _, _ => none
  | n + 1, y3, m => lx (m 68 69) fun x_146 =>
if y3 < x_146 then
bd (fm_X12_looksAtSchedule y3 m) fun x_150 m_151 =>
lx (w32 (y3 + 1)) fun x_166 =>
fl_X12_pass_71 y1 y2 k90 n x_166 m_151
else
k90 m
set_option maxHeartbeats 4000000 in
theorem ol_X12_pass_71 {xs : List Int32} {d : Nat} {Q : QO → QS → Prop} {mb : MM} {y1 y2 : Int} {k90 : MM → Option (Int × MM)} {rz : Int} {rm : MM}
  (hd : 8 ≤ d)
  (hk90 : ∀ mq : MM, Ext mb mq → ∀ {Sq : QS} {Lq : QL} {u0 : Value} {u1 : Value} {u2 : Value}, k90 mq = some (rz, rm) → Rp Sq mq → q_lo Lq 0 = some u0 → q_is 2 u0 68 → q_lo Lq 1 = some u1 → q_is 0 u1 y1 → q_lo Lq 2 = some u2 → q_is 0 u2 y2 → Go xs d qM_X12_pass 90 Lq [] Sq Q)
  (hQ : Ext mb rm → ∀ o S1, Rp S1 rm → q_out 0 o rz → Q o S1) :
  ∀ (n : Nat) {m : MM} {S : QS} {L : QL} {y3 : Int} {v0 : Value} {v1 : Value} {v2 : Value} {v3 : Value} , Ext mb m → fl_X12_pass_71 y1 y2 k90 n y3 m = some (rz, rm) → Rp S m → q_lo L 0 = some v0 → q_is 2 v0 68 → q_lo L 1 = some v1 → q_is 0 v1 y1 → q_lo L 2 = some v2 → q_is 0 v2 y2 → q_lo L 3 = some v3 → q_is 0 v3 y3 → Go xs d qM_X12_pass 71 L [] S Q := by
  intro n
  induction n with
  | zero => intro m S L y3 v0 v1 v2 v3; intro E h R l0 f0 l1 f1 l2 f2 l3 f3; cases h
  | succ n ih0 =>
    intro m S L y3 v0 v1 v2 v3; intro E h R l0 f0 l1 f1 l2 f2 l3 f3
    have ih : ∀ mq : MM, Ext mb mq → ∀ {z3 : Int} {Sq : QS} {Lq : QL} {u0 : Value} {u1 : Value} {u2 : Value} {u3 : Value}, fl_X12_pass_71 y1 y2 k90 n z3 mq = some (rz, rm) → Rp Sq mq → q_lo Lq 0 = some u0 → q_is 2 u0 68 → q_lo Lq 1 = some u1 → q_is 0 u1 y1 → q_lo Lq 2 = some u2 → q_is 0 u2 y2 → q_lo Lq 3 = some u3 → q_is 0 u3 z3 → Go xs d qM_X12_pass 71 Lq [] Sq Q := fun mq b => by intros; exact ih0 b ‹_› ‹_› ‹_› ‹_› ‹_› ‹_› ‹_› ‹_› ‹_› ‹_›
    unfold fl_X12_pass_71 at h
    refine go_iload_n (n := 3) (by decide +kernel) l3 f3 ?_
    refine go_aload_n (n := 0) (by decide +kernel) l0 f0 ?_
    obtain ⟨x_146, e_147, h⟩ := lx_s h
    refine go_getf (x := 655) (ci := 13) (kf := 69) (fin := 0) (t := 0) (by decide +kernel) (by decide +kernel) (by decide +kernel) R f0 (fx_k (c := 13) R (by decide +kernel)) fun v_143 f_144 => ?_
    have f_145 := q_is_eq f_144 e_147
    refine go_icmp (c := .ge) (o := 14) (t := 90) (P := ¬ (y3 < x_146)) (by decide +kernel) (by decide +kernel) f3 f_145 (Int.not_lt.symm) (fun hp_148 => ?_) (fun hp_148 => ?_)
    · have h := it_f hp_148 h
      exact hk90 m E h R l0 f0 l1 f1 l2 f2
    · have h := it_n hp_148 h
      refine go_aload_n (n := 0) (by decide +kernel) l0 f0 ?_
      refine go_iload_n (n := 3) (by decide +kernel) l3 f3 ?_
      obtain ⟨x_150, m_151, hc_149, h⟩ := bd_s h
      refine go_callV (x := 658) (mi := 311) (n := 1) (ci := 13) (as := [v3]) (rest := []) (by decide +kernel) (by decide +kernel) rfl rfl (q_sum8 _ (Nat.le_of_ble_eq_true rfl)) R f0 (fx_k (c := 13) R (by decide +kernel)) (om_X12_looksAtSchedule (Nat.le_trans (by decide) hd) R f0 f3 hc_149) (fun _ S_154 q_157 => ?_) (fun _ _ qq => kr_x qq)
      refine kr_v q_157 fun R_155 E_156 => ?_
      have E_160 := Ext.tr E E_156
      refine go_iinc (n := 3) (c := 1) (c' := 1) (by decide +kernel) (by decide +kernel) l3 f3 (by decide) fun L_161 v_162 f_163 l_164 kp_165 => ?_
      obtain ⟨x_166, e_167, h⟩ := lx_s h
      have f_168 := q_is_eq f_163 e_167
      have l_169 := kp_165 0 _ l0 (by decide) (Or.inl (by decide))
      have l_170 := kp_165 1 _ l1 (by decide) (Or.inl (by decide))
      have l_171 := kp_165 2 _ l2 (by decide) (Or.inr (q_is_cat f2 (Or.inl rfl)))
      refine go_goto (o := (-16)) (t := 71) (by decide +kernel) (by decide +kernel) ?_
      exact ih m_151 E_160 h R_155 l_169 f0 l_170 f1 l_171 f2 l_164 f_168
noncomputable def fl_X12_pass_26 (y1 : Int) : Nat → Int → MM → Option (Int × MM)
  | 0, _, _ => none
  | n + 1, y2, m => if y2 < y1 then
lx (m 68 0) fun x_46 =>
up m 68 0 (w32 (x_46 + 1)) fun m_52 =>
fl_X12_pass_43 y1 y2 (fun m_106 =>
bd (fm_X12_fires m_106) fun x_112 m_113 =>
bd (fm_X12_looksAtActivities m_113) fun x_124 m_125 =>
fl_X12_pass_71 y1 y2 (fun m_184 =>
lx (w32 (y2 + 1)) fun x_194 =>
fl_X12_pass_26 y1 n x_194 m_184) BIG 0 m_125) BIG 0 m_52
else
lx (m 68 0) fun x_41 =>
some (x_41, m)
set_option maxHeartbeats 4000000 in
theorem ol_X12_pass_26 {xs : List Int32} {d : Nat} {Q : QO → QS → Prop} {mb : MM} {y1 : Int} {rz : Int} {rm : MM}
  (hd : 8 ≤ d)
  (hQ : Ext mb rm → ∀ o S1, Rp S1 rm → q_out 0 o rz → Q o S1) :
  ∀ (n : Nat) {m : MM} {S : QS} {L : QL} {y2 : Int} {v0 : Value} {v1 : Value} {v2 : Value} , Ext mb m → fl_X12_pass_26 y1 n y2 m = some (rz, rm) → Rp S m → q_lo L 0 = some v0 → q_is 2 v0 68 → q_lo L 1 = some v1 → q_is 0 v1 y1 → q_lo L 2 = some v2 → q_is 0 v2 y2 → Go xs d qM_X12_pass 26 L [] S Q := by
  intro n
  induction n with
  | zero => intro m S L y2 v0 v1 v2; intro E h R l0 f0 l1 f1 l2 f2; cases h
  | succ n ih0 =>
    intro m S L y2 v0 v1 v2; intro E h R l0 f0 l1 f1 l2 f2
    have ih : ∀ mq : MM, Ext mb mq → ∀ {z2 : Int} {Sq : QS} {Lq : QL} {u0 : Value} {u1 : Value} {u2 : Value}, fl_X12_pass_26 y1 n z2 mq = some (rz, rm) → Rp Sq mq → q_lo Lq 0 = some u0 → q_is 2 u0 68 → q_lo Lq 1 = some u1 → q_is 0 u1 y1 → q_lo Lq 2 = some u2 → q_is 0 u2 z2 → Go xs d qM_X12_pass 26 Lq [] Sq Q := fun mq b => by intros; exact ih0 b ‹_› ‹_› ‹_› ‹_› ‹_› ‹_› ‹_› ‹_›
    unfold fl_X12_pass_26 at h
    refine go_iload_n (n := 2) (by decide +kernel) l2 f2 ?_
    refine go_iload_n (n := 1) (by decide +kernel) l1 f1 ?_
    refine go_icmp (c := .ge) (o := 68) (t := 96) (P := ¬ (y2 < y1)) (by decide +kernel) (by decide +kernel) f2 f1 (Int.not_lt.symm) (fun hp_37 => ?_) (fun hp_37 => ?_)
    · have h := it_f hp_37 h
      refine go_aload_n (n := 0) (by decide +kernel) l0 f0 ?_
      obtain ⟨x_41, e_42, h⟩ := lx_s h
      refine go_getf (x := 357) (ci := 13) (kf := 0) (fin := 0) (t := 0) (by decide +kernel) (by decide +kernel) (by decide +kernel) R f0 (fx_k (c := 13) R (by decide +kernel)) fun v_38 f_39 => ?_
      have f_40 := q_is_eq f_39 e_42
      cases h
      exact go_iret (by decide +kernel) rfl (Or.inl rfl) f_40 (hQ E _ _ R (q_out_v (by decide) f_40))
    · have h := it_n hp_37 h
      refine go_aload_n (n := 0) (by decide +kernel) l0 f0 ?_
      refine go_dup (by decide +kernel) f0 (Or.inr rfl) ?_
      obtain ⟨x_46, e_47, h⟩ := lx_s h
      refine go_getf (x := 357) (ci := 13) (kf := 0) (fin := 0) (t := 0) (by decide +kernel) (by decide +kernel) (by decide +kernel) R f0 (fx_k (c := 13) R (by decide +kernel)) fun v_43 f_44 => ?_
      have f_45 := q_is_eq f_44 e_47
      refine go_iconst (n := 1) (z := 1) (by decide +kernel) (by decide) fun v_48 f_49 => ?_
      refine go_iadd (by decide +kernel) f_45 f_49 fun v_50 f_51 => ?_
      obtain ⟨m_52, e_53, h⟩ := up_s h
      refine go_putf (x := 357) (ci := 13) (kf := 0) (fin := 0) (zt := 0) (by decide +kernel) (by decide +kernel) (by decide) (by decide +kernel) (by decide) (Or.inl rfl) R f0 f_51 (fun hq => absurd hq (by decide)) (fx_k (c := 13) R (by decide +kernel)) e_53 (fx_f (j := 0) R.2 (fx_k (c := 13) R (by decide +kernel)) (by decide +kernel)) fun S_54 R_55 E_56 => ?_
      have E_58 := Ext.tr E E_56
      refine go_iconst (n := 0) (z := 0) (by decide +kernel) (by decide) fun v_59 f_60 => ?_
      refine go_istore_n (n := 3) (by decide +kernel) (by decide +kernel) f_60 fun L_61 l_62 kp_63 => ?_
      have l_64 := kp_63 0 _ l0 (by decide) (Or.inl (by decide))
      have l_65 := kp_63 1 _ l1 (by decide) (Or.inl (by decide))
      have l_66 := kp_63 2 _ l2 (by decide) (Or.inr (q_is_cat f2 (Or.inl rfl)))
      refine ol_X12_pass_43 hd  ?_ (fun b => hQ (Ext.tr E_58 b)) BIG (Ext.rf _) h R_55 l_64 f0 l_65 f1 l_66 f2 l_62 f_60
      intro m_106 E_107
      intro S_103 L_104 v_94 v_95 v_96
      intro h R_105 l_97 f_100 l_98 f_101 l_99 f_102
      have E_108 := Ext.tr E_58 E_107
      refine go_aload_n (n := 0) (by decide +kernel) l_97 f_100 ?_
      obtain ⟨x_112, m_113, hc_111, h⟩ := bd_s h
      refine go_callV (x := 649) (mi := 291) (n := 0) (ci := 13) (as := []) (rest := []) (by decide +kernel) (by decide +kernel) rfl rfl (q_sum8 _ (Nat.le_of_ble_eq_true rfl)) R_105 f_100 (fx_k (c := 13) R_105 (by decide +kernel)) (om_X12_fires (Nat.le_trans (by decide) hd) R_105 f_100 hc_111) (fun _ S_116 q_119 => ?_) (fun _ _ qq => kr_x qq)
      refine kr_v q_119 fun R_117 E_118 => ?_
      have E_122 := Ext.tr E_108 E_118
      refine go_aload_n (n := 0) (by decide +kernel) l_97 f_100 ?_
      obtain ⟨x_124, m_125, hc_123, h⟩ := bd_s h
      refine go_callV (x := 652) (mi := 292) (n := 0) (ci := 13) (as := []) (rest := []) (by decide +kernel) (by decide +kernel) rfl rfl (q_sum8 _ (Nat.le_of_ble_eq_true rfl)) R_117 f_100 (fx_k (c := 13) R_117 (by decide +kernel)) (om_X12_looksAtActivities (Nat.le_trans (by decide) hd) R_117 f_100 hc_123) (fun _ S_128 q_131 => ?_) (fun _ _ qq => kr_x qq)
      refine kr_v q_131 fun R_129 E_130 => ?_
      have E_134 := Ext.tr E_122 E_130
      refine go_iconst (n := 0) (z := 0) (by decide +kernel) (by decide) fun v_135 f_136 => ?_
      refine go_istore_n (n := 3) (by decide +kernel) (by decide +kernel) f_136 fun L_137 l_138 kp_139 => ?_
      have l_140 := kp_139 0 _ l_97 (by decide) (Or.inl (by decide))
      have l_141 := kp_139 1 _ l_98 (by decide) (Or.inl (by decide))
      have l_142 := kp_139 2 _ l_99 (by decide) (Or.inr (q_is_cat f_102 (Or.inl rfl)))
      refine ol_X12_pass_71 hd  ?_ (fun b => hQ (Ext.tr E_134 b)) BIG (Ext.rf _) h R_129 l_140 f_100 l_141 f_101 l_142 f_102 l_138 f_136
      intro m_184 E_185
      intro S_181 L_182 v_172 v_173 v_174
      intro h R_183 l_175 f_178 l_176 f_179 l_177 f_180
      have E_186 := Ext.tr E_134 E_185
      refine go_iinc (n := 2) (c := 1) (c' := 1) (by decide +kernel) (by decide +kernel) l_177 f_180 (by decide) fun L_189 v_190 f_191 l_192 kp_193 => ?_
      obtain ⟨x_194, e_195, h⟩ := lx_s h
      have f_196 := q_is_eq f_191 e_195
      have l_197 := kp_193 0 _ l_175 (by decide) (Or.inl (by decide))
      have l_198 := kp_193 1 _ l_176 (by decide) (Or.inr (q_is_cat f_179 (Or.inl rfl)))
      refine go_goto (o := (-67)) (t := 26) (by decide +kernel) (by decide +kernel) ?_
      exact ih m_184 E_186 h R_183 l_197 f_178 l_198 f_179 l_192 f_196
noncomputable def fj_X12_pass_16 (y1 s0 : Int) (m : MM) : Option (Int × MM) := bd (fm_X12_fails s0 m) fun x_18 m_19 =>
if x_18 = 0 then
fl_X12_pass_26 y1  BIG 0 m_19
else
some (0, m_19)
set_option maxHeartbeats 4000000 in
theorem oj_X12_pass_16 {xs : List Int32} {d : Nat} {S : QS} {L : QL} {Q : QO → QS → Prop} {m : MM} {y1 s0 : Int} {v0 : Value} {v1 : Value} {w0 : Value} {w1 : Value}  {rz : Int} {rm : MM}
  (hd : 8 ≤ d) (R : Rp S m) (l0 : q_lo L 0 = some v0) (f0 : q_is 2 v0 68) (l1 : q_lo L 1 = some v1) (f1 : q_is 0 v1 y1) (fs0 : q_is 0 w0 s0) (fs1 : q_is 2 w1 68)
  (hQ : Ext m rm → ∀ o S1, Rp S1 rm → q_out 0 o rz → Q o S1)
  (h : fj_X12_pass_16 y1 s0 m = some (rz, rm)) : Go xs d qM_X12_pass 16 L [w0, w1] S Q := by
  unfold fj_X12_pass_16 at h
  obtain ⟨x_18, m_19, hc_17, h⟩ := bd_s h
  refine go_callV (x := 324) (mi := 186) (n := 1) (ci := 13) (as := [w0]) (rest := []) (by decide +kernel) (by decide +kernel) rfl rfl (q_sum8 _ (Nat.le_of_ble_eq_true rfl)) R fs1 (fx_k (c := 13) R (by decide +kernel)) (om_X12_fails (Nat.le_trans (by decide) hd) R fs1 fs0 hc_17) (fun _ S_22 q_25 => ?_) (fun _ _ qq => kr_x qq)
  refine kr_z (by decide) q_25 fun v_20 f_21 R_23 E_24 => ?_
  have E_28 := E_24
  refine go_if (c := .eq) (o := 5) (t := 24) (P := x_18 = 0) (by decide +kernel) (by decide +kernel) f_21 (Iff.rfl) (fun hp_29 => ?_) (fun hp_29 => ?_)
  · have h := it_t hp_29 h
    refine go_iconst (n := 0) (z := 0) (by decide +kernel) (by decide) fun v_30 f_31 => ?_
    refine go_istore_n (n := 2) (by decide +kernel) (by decide +kernel) f_31 fun L_32 l_33 kp_34 => ?_
    have l_35 := kp_34 0 _ l0 (by decide) (Or.inl (by decide))
    have l_36 := kp_34 1 _ l1 (by decide) (Or.inr (q_is_cat f1 (Or.inl rfl)))
    refine ol_X12_pass_26 hd   (fun b => hQ (Ext.tr E_28 b)) BIG (Ext.rf _) h R_23 l_35 f0 l_36 f1 l_33 f_31
  · have h := it_f hp_29 h
    refine go_iconst (n := 0) (z := 0) (by decide +kernel) (by decide) fun v_199 f_200 => ?_
    cases h
    exact go_iret (by decide +kernel) rfl (Or.inl rfl) f_200 (hQ E_28 _ _ R_23 (q_out_v (by decide) f_200))
noncomputable def fm_X12_pass (p1 : Int) (m0 : MM) : Option (Int × MM) := bp (fm_X12_isIn p1 1 100 m0) fun x_6 =>
if x_6 = 0 then
fj_X12_pass_16 p1 1 m0
else
fj_X12_pass_16 p1 0 m0
set_option maxHeartbeats 4000000 in
theorem om_X12_pass {xs : List Int32} {d : Nat} {S : QS} {m0 : MM} {p1 : Int} {v0 : Value} {v1 : Value} {rz : Int} {rm : MM}
  (hd : 9 ≤ d) (R : Rp S m0) (f0 : q_is 2 v0 68) (f1 : q_is 0 v1 p1)
  (h : fm_X12_pass p1 m0 = some (rz, rm)) : Mt xs d 293 [v0, v1] S (Cr 0 m0 rm rz) := by
  obtain ⟨d, rfl⟩ : ∃ e, d = e + 1 := ⟨d - 1, by omega⟩
  have hd : 8 ≤ d := Nat.le_of_succ_le_succ hd
  refine Mt.of (M := qM_X12_pass) rfl (by rw [sl_1 (q_is_cat f0 (Or.inr rfl)), sl_1 (q_is_cat f1 (Or.inl rfl)), sl_0]; decide) ?_
  rw [la_1 (q_is_cat f0 (Or.inr rfl)), la_1 (q_is_cat f1 (Or.inl rfl)), la_0]
  obtain ⟨L, hL⟩ : ∃ L : QL, L = [(0, v0), (0 + 1, v1)] := ⟨_, rfl⟩
  rw [← hL]
  have l0 : q_lo L 0 = some v0 := by rw [hL]; rfl
  have l1 : q_lo L 1 = some v1 := by rw [hL]; rfl
  have hQ : Ext m0 rm → ∀ o S1, Rp S1 rm → q_out 0 o rz → (Cr 0 m0 rm rz) o S1 := fun a o S1 b e => ⟨b, a, e⟩
  unfold fm_X12_pass at h
  refine go_aload_n (n := 0) (by decide +kernel) l0 f0 ?_
  refine go_iload_n (n := 1) (by decide +kernel) l1 f1 ?_
  refine go_iconst (n := 1) (z := 1) (by decide +kernel) (by decide) fun v_1 f_2 => ?_
  refine go_bipush (n := 100) (z := 100) (by decide +kernel) (by decide) fun v_3 f_4 => ?_
  obtain ⟨x_6, hc_5, h⟩ := bp_s h
  refine go_callS (x := 306) (mi := 188) (n := 3) (b := 0) (as := [v1, v_1, v_3]) (rest := [v0]) (by decide +kernel) (by decide +kernel) rfl rfl (q_sum8 _ (Nat.le_of_ble_eq_true rfl)) (om_X12_isIn (Nat.le_trans (by decide) hd) R f1 f_2 f_4 hc_5) (fun _ S_10 q_13 => ?_) (fun _ _ qq => kr_x qq)
  refine kr_z (by decide) q_13 fun v_8 f_9 R_11 E_12 => ?_
  refine go_if (c := .eq) (o := 7) (t := 15) (P := x_6 = 0) (by decide +kernel) (by decide +kernel) f_9 (Iff.rfl) (fun hp_14 => ?_) (fun hp_14 => ?_)
  · have h := it_t hp_14 h
    refine go_iconst (n := 1) (z := 1) (by decide +kernel) (by decide) fun v_15 f_16 => ?_
    exact oj_X12_pass_16 hd R_11 l0 f0 l1 f1 f_16 f0 hQ h
  · have h := it_f hp_14 h
    refine go_iconst (n := 0) (z := 0) (by decide +kernel) (by decide) fun v_201 f_202 => ?_
    refine go_goto (o := 4) (t := 16) (by decide +kernel) (by decide +kernel) ?_
    exact oj_X12_pass_16 hd R_11 l0 f0 l1 f1 f_202 f0 hQ h
end DF43
