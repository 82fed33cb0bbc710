/-! Methods as functions (written by wip/whole/dec.py), 43: X12_isRunning, X12_beginsFor, X12_comes, X12_point, X12_looksAtSchedule, X12_pass. -/
section DF43
noncomputable def fm_X12_isRunning (p1 : Int) (m0 : MM) : Option Int := gd (0 ≤ p1 ∧ p1 < 4) <| lx (m0 134 p1) fun x_8 =>
if x_8 = (-1) then
some 0
else
gd (0 ≤ x_8 ∧ x_8 < 30) <| lx (m0 83 x_8) fun x_28 =>
if x_28 = 0 then
some 1
else
some 0
set_option maxHeartbeats 4000000 in
theorem om_X12_isRunning {xs : List Int32} {d : Nat} {S : QS} {m0 : MM} {p1 : Int} {v0 : Value} {v1 : Value} {rz : Int}
  (hd : 1 ≤ d) (R : Rp S m0) (f0 : q_is 2 v0 68) (f1 : q_is 0 v1 p1)
  (h : fm_X12_isRunning p1 m0 = some rz) : Mt xs d 309 [v0, v1] S (Cr 0 m0 m0 rz) := by
  obtain ⟨d, rfl⟩ : ∃ e, d = e + 1 := ⟨d - 1, by omega⟩
  have hd : 0 ≤ d := Nat.le_of_succ_le_succ hd
  refine Mt.of (M := qM_X12_isRunning) rfl (by rw [sl_1 (q_is_cat f0 (Or.inr rfl)), sl_1 (q_is_cat f1 (Or.inl rfl)), sl_0]; decide) ?_
  rw [la_1 (q_is_cat f0 (Or.inr rfl)), la_1 (q_is_cat f1 (Or.inl rfl)), la_0]
  obtain ⟨L, hL⟩ : ∃ L : QL, L = [(0, v0), (0 + 1, v1)] := ⟨_, rfl⟩
  rw [← hL]
  have l0 : q_lo L 0 = some v0 := by rw [hL]; rfl
  have l1 : q_lo L 1 = some v1 := by rw [hL]; rfl
  have hQ : ∀ o S1, Rp S1 m0 → q_out 0 o rz → (Cr 0 m0 m0 rz) o S1 := fun o S1 a b => ⟨a, Ext.rf _, b⟩
  unfold fm_X12_isRunning at h
  refine go_aload_n (n := 0) (by decide +kernel) l0 f0 ?_
  refine go_getf (x := 216) (ci := 13) (kf := 76) (fin := 1) (t := 2) (by decide +kernel) (by decide +kernel) (by decide +kernel) R f0 (fx_k (c := 13) R (by decide +kernel)) fun v_1 f_2 => ?_
  have f_3 := q_is_eq (b := 134) f_2 (fx_v R (by decide +kernel)).symm
  refine go_iload_n (n := 1) (by decide +kernel) l1 f1 ?_
  obtain ⟨g_6, h⟩ := gd_s h
  obtain ⟨x_8, e_9, h⟩ := lx_s h
  refine go_iald (kd := 100) (by decide +kernel) rfl R f_3 f1 (fx_k (c := 100) R (by decide +kernel)) (fx_x (a := 134) (ln := 4) R (by decide +kernel) g_6) fun v_4 f_5 => ?_
  have f_7 := q_is_eq f_5 e_9
  refine go_iconst (n := (-1)) (z := (-1)) (by decide +kernel) (by decide) fun v_10 f_11 => ?_
  refine go_icmp (c := .eq) (o := 21) (t := 28) (P := x_8 = (-1)) (by decide +kernel) (by decide +kernel) f_7 f_11 (Iff.rfl) (fun hp_12 => ?_) (fun hp_12 => ?_)
  · have h := it_t hp_12 h
    refine go_iconst (n := 0) (z := 0) (by decide +kernel) (by decide) fun v_13 f_14 => ?_
    cases h
    exact go_iret (by decide +kernel) rfl (Or.inr ⟨rfl, by decide⟩) f_14 (hQ _ _ R (q_out_v (by decide) f_14))
  · have h := it_f hp_12 h
    refine go_aload_n (n := 0) (by decide +kernel) l0 f0 ?_
    refine go_getf (x := 52) (ci := 13) (kf := 16) (fin := 1) (t := 2) (by decide +kernel) (by decide +kernel) (by decide +kernel) R f0 (fx_k (c := 13) R (by decide +kernel)) fun v_15 f_16 => ?_
    have f_17 := q_is_eq (b := 83) f_16 (fx_v R (by decide +kernel)).symm
    refine go_aload_n (n := 0) (by decide +kernel) l0 f0 ?_
    refine go_getf (x := 216) (ci := 13) (kf := 76) (fin := 1) (t := 2) (by decide +kernel) (by decide +kernel) (by decide +kernel) R f0 (fx_k (c := 13) R (by decide +kernel)) fun v_18 f_19 => ?_
    have f_20 := q_is_eq (b := 134) f_19 (fx_v R (by decide +kernel)).symm
    refine go_iload_n (n := 1) (by decide +kernel) l1 f1 ?_
    refine go_iald (kd := 100) (by decide +kernel) rfl R f_20 f1 (fx_k (c := 100) R (by decide +kernel)) (fx_x (a := 134) (ln := 4) R (by decide +kernel) g_6) fun v_21 f_22 => ?_
    have f_23 := q_is_eq f_22 e_9
    obtain ⟨g_26, h⟩ := gd_s h
    obtain ⟨x_28, e_29, h⟩ := lx_s h
    refine go_iald (kd := 100) (by decide +kernel) rfl R f_17 f_23 (fx_k (c := 100) R (by decide +kernel)) (fx_x (a := 83) (ln := 30) R (by decide +kernel) g_26) fun v_24 f_25 => ?_
    have f_27 := q_is_eq f_25 e_29
    refine go_if (c := .ne) (o := 7) (t := 28) (P := ¬ (x_28 = 0)) (by decide +kernel) (by decide +kernel) f_27 (Iff.rfl) (fun hp_30 => ?_) (fun hp_30 => ?_)
    · have h := it_f hp_30 h
      refine go_iconst (n := 0) (z := 0) (by decide +kernel) (by decide) fun v_31 f_32 => ?_
      cases h
      exact go_iret (by decide +kernel) rfl (Or.inr ⟨rfl, by decide⟩) f_32 (hQ _ _ R (q_out_v (by decide) f_32))
    · have h := it_n hp_30 h
      refine go_iconst (n := 1) (z := 1) (by decide +kernel) (by decide) fun v_33 f_34 => ?_
      refine go_goto (o := 4) (t := 29) (by decide +kernel) (by decide +kernel) ?_
      cases h
      exact go_iret (by decide +kernel) rfl (Or.inr ⟨rfl, by decide⟩) f_34 (hQ _ _ R (q_out_v (by decide) f_34))
noncomputable def fm_X12_beginsFor (p1 p2 : Int) (m0 : MM) : Option (Int × MM) := gd (0 ≤ p1 ∧ p1 < 4) <| lx (m0 128 p1) fun x_8 =>
lx (m0 68 12) fun x_19 =>
if x_19 = 30 then
some ((-1), m0)
else
lx (m0 129 p1) fun x_30 =>
gd (0 ≤ x_8 ∧ x_8 < 4) <| lx (m0 69 x_8) fun x_39 =>
bd (fm_X12_makes x_8 x_30 (w32 (x_39 - 1)) p2 (-1) (-1) m0) fun x_50 m_51 =>
some (x_50, m_51)
set_option maxHeartbeats 4000000 in
theorem om_X12_beginsFor {xs : List Int32} {d : Nat} {S : QS} {m0 : MM} {p1 p2 : Int} {v0 : Value} {v1 : Value} {v2 : Value} {rz : Int} {rm : MM}
  (hd : 5 ≤ d) (R : Rp S m0) (f0 : q_is 2 v0 68) (f1 : q_is 0 v1 p1) (f2 : q_is 0 v2 p2)
  (h : fm_X12_beginsFor p1 p2 m0 = some (rz, rm)) : Mt xs d 308 [v0, v1, v2] S (Cr 0 m0 rm rz) := by
  obtain ⟨d, rfl⟩ : ∃ e, d = e + 1 := ⟨d - 1, by omega⟩
  have hd : 4 ≤ d := Nat.le_of_succ_le_succ hd
  refine Mt.of (M := qM_X12_beginsFor) rfl (by rw [sl_1 (q_is_cat f0 (Or.inr rfl)), sl_1 (q_is_cat f1 (Or.inl rfl)), sl_1 (q_is_cat f2 (Or.inl rfl)), sl_0]; decide) ?_
  rw [la_1 (q_is_cat f0 (Or.inr rfl)), la_1 (q_is_cat f1 (Or.inl rfl)), la_1 (q_is_cat f2 (Or.inl rfl)), la_0]
  obtain ⟨L, hL⟩ : ∃ L : QL, L = [(0, v0), (0 + 1, v1), (0 + 1 + 1, v2)] := ⟨_, rfl⟩
  rw [← hL]
  have l0 : q_lo L 0 = some v0 := by rw [hL]; rfl
  have l1 : q_lo L 1 = some v1 := by rw [hL]; rfl
  have l2 : q_lo L 2 = some v2 := by rw [hL]; rfl
  have hQ : Ext m0 rm → ∀ o S1, Rp S1 rm → q_out 0 o rz → (Cr 0 m0 rm rz) o S1 := fun a o S1 b e => ⟨b, a, e⟩
  unfold fm_X12_beginsFor at h
  refine go_aload_n (n := 0) (by decide +kernel) l0 f0 ?_
  refine go_getf (x := 198) (ci := 13) (kf := 70) (fin := 1) (t := 2) (by decide +kernel) (by decide +kernel) (by decide +kernel) R f0 (fx_k (c := 13) R (by decide +kernel)) fun v_1 f_2 => ?_
  have f_3 := q_is_eq (b := 128) f_2 (fx_v R (by decide +kernel)).symm
  refine go_iload_n (n := 1) (by decide +kernel) l1 f1 ?_
  obtain ⟨g_6, h⟩ := gd_s h
  obtain ⟨x_8, e_9, h⟩ := lx_s h
  refine go_iald (kd := 100) (by decide +kernel) rfl R f_3 f1 (fx_k (c := 100) R (by decide +kernel)) (fx_x (a := 128) (ln := 4) R (by decide +kernel) g_6) fun v_4 f_5 => ?_
  have f_7 := q_is_eq f_5 e_9
  refine go_istore_n (n := 3) (by decide +kernel) (by decide +kernel) f_7 fun L_10 l_11 kp_12 => ?_
  have l_13 := kp_12 0 _ l0 (by decide) (Or.inl (by decide))
  have l_14 := kp_12 1 _ l1 (by decide) (Or.inl (by decide))
  have l_15 := kp_12 2 _ l2 (by decide) (Or.inr (q_is_cat f2 (Or.inl rfl)))
  refine go_aload_n (n := 0) (by decide +kernel) l_13 f0 ?_
  obtain ⟨x_19, e_20, h⟩ := lx_s h
  refine go_getf (x := 310) (ci := 13) (kf := 12) (fin := 0) (t := 0) (by decide +kernel) (by decide +kernel) (by decide +kernel) R f0 (fx_k (c := 13) R (by decide +kernel)) fun v_16 f_17 => ?_
  have f_18 := q_is_eq f_17 e_20
  refine go_bipush (n := 30) (z := 30) (by decide +kernel) (by decide) fun v_21 f_22 => ?_
  refine go_icmp (c := .ne) (o := 7) (t := 20) (P := ¬ (x_19 = 30)) (by decide +kernel) (by decide +kernel) f_18 f_22 (Iff.rfl) (fun hp_23 => ?_) (fun hp_23 => ?_)
  · have h := it_f hp_23 h
    refine go_aload_n (n := 0) (by decide +kernel) l_13 f0 ?_
    refine go_iload_n (n := 3) (by decide +kernel) l_11 f_7 ?_
    refine go_aload_n (n := 0) (by decide +kernel) l_13 f0 ?_
    refine go_getf (x := 201) (ci := 13) (kf := 71) (fin := 1) (t := 2) (by decide +kernel) (by decide +kernel) (by decide +kernel) R f0 (fx_k (c := 13) R (by decide +kernel)) fun v_24 f_25 => ?_
    have f_26 := q_is_eq (b := 129) f_25 (fx_v R (by decide +kernel)).symm
    refine go_iload_n (n := 1) (by decide +kernel) l_14 f1 ?_
    obtain ⟨x_30, e_31, h⟩ := lx_s h
    refine go_iald (kd := 100) (by decide +kernel) rfl R f_26 f1 (fx_k (c := 100) R (by decide +kernel)) (fx_x (a := 129) (ln := 4) R (by decide +kernel) g_6) fun v_27 f_28 => ?_
    have f_29 := q_is_eq f_28 e_31
    refine go_aload_n (n := 0) (by decide +kernel) l_13 f0 ?_
    refine go_getf (x := 7) (ci := 13) (kf := 1) (fin := 1) (t := 2) (by decide +kernel) (by decide +kernel) (by decide +kernel) R f0 (fx_k (c := 13) R (by decide +kernel)) fun v_32 f_33 => ?_
    have f_34 := q_is_eq (b := 69) f_33 (fx_v R (by decide +kernel)).symm
    refine go_iload_n (n := 3) (by decide +kernel) l_11 f_7 ?_
    obtain ⟨g_37, h⟩ := gd_s h
    obtain ⟨x_39, e_40, h⟩ := lx_s h
    refine go_iald (kd := 100) (by decide +kernel) rfl R f_34 f_7 (fx_k (c := 100) R (by decide +kernel)) (fx_x (a := 69) (ln := 4) R (by decide +kernel) g_37) fun v_35 f_36 => ?_
    have f_38 := q_is_eq f_36 e_40
    refine go_iconst (n := 1) (z := 1) (by decide +kernel) (by decide) fun v_41 f_42 => ?_
    refine go_isub (by decide +kernel) f_38 f_42 fun v_43 f_44 => ?_
    refine go_iload_n (n := 2) (by decide +kernel) l_15 f2 ?_
    refine go_iconst (n := (-1)) (z := (-1)) (by decide +kernel) (by decide) fun v_45 f_46 => ?_
    refine go_iconst (n := (-1)) (z := (-1)) (by decide +kernel) (by decide) fun v_47 f_48 => ?_
    obtain ⟨x_50, m_51, hc_49, h⟩ := bd_s h
    refine go_callV (x := 576) (mi := 212) (n := 6) (ci := 13) (as := [v_4, v_27, v_43, v2, v_45, v_47]) (rest := []) (by decide +kernel) (by decide +kernel) rfl rfl (q_sum8 _ (Nat.le_of_ble_eq_true rfl)) R f0 (fx_k (c := 13) R (by decide +kernel)) (om_X12_makes (Nat.le_trans (by decide) hd) R f0 f_7 f_29 f_44 f2 f_46 f_48 hc_49) (fun _ S_54 q_57 => ?_) (fun _ _ qq => kr_x qq)
    refine kr_z (by decide) q_57 fun v_52 f_53 R_55 E_56 => ?_
    have E_58 := E_56
    cases h
    exact go_iret (by decide +kernel) rfl (Or.inl rfl) f_53 (hQ E_58 _ _ R_55 (q_out_v (by decide) f_53))
  · have h := it_n hp_23 h
    refine go_iconst (n := (-1)) (z := (-1)) (by decide +kernel) (by decide) fun v_59 f_60 => ?_
    refine go_goto (o := 25) (t := 42) (by decide +kernel) (by decide +kernel) ?_
    cases h
    exact go_iret (by decide +kernel) rfl (Or.inl rfl) f_60 (hQ (Ext.rf _) _ _ R (q_out_v (by decide) f_60))
noncomputable def fm_X12_comes (p1 p2 : Int) (m0 : MM) : Option (Int × MM) := bd (fm_X12_beginsFor p1 p2 m0) fun x_2 m_3 =>
if x_2 = (-1) then
gd (0 ≤ p1 ∧ p1 < 4) <| lx (m_3 134 p1) fun x_36 =>
up m_3 134 p1 x_36 fun m_38 =>
some (0, m_38)
else
gd (0 ≤ p1 ∧ p1 < 4) <| up m_3 134 p1 x_2 fun m_23 =>
some (0, m_23)
set_option maxHeartbeats 4000000 in
theorem om_X12_comes {xs : List Int32} {d : Nat} {S : QS} {m0 : MM} {p1 p2 : Int} {v0 : Value} {v1 : Value} {v2 : Value} {rz : Int} {rm : MM}
  (hd : 6 ≤ d) (R : Rp S m0) (f0 : q_is 2 v0 68) (f1 : q_is 0 v1 p1) (f2 : q_is 0 v2 p2)
  (h : fm_X12_comes p1 p2 m0 = some (rz, rm)) : Mt xs d 310 [v0, v1, v2] S (Cr 9 m0 rm rz) := by
  obtain ⟨d, rfl⟩ : ∃ e, d = e + 1 := ⟨d - 1, by omega⟩
  have hd : 5 ≤ d := Nat.le_of_succ_le_succ hd
  refine Mt.of (M := qM_X12_comes) rfl (by rw [sl_1 (q_is_cat f0 (Or.inr rfl)), sl_1 (q_is_cat f1 (Or.inl rfl)), sl_1 (q_is_cat f2 (Or.inl rfl)), sl_0]; decide) ?_
  rw [la_1 (q_is_cat f0 (Or.inr rfl)), la_1 (q_is_cat f1 (Or.inl rfl)), la_1 (q_is_cat f2 (Or.inl rfl)), la_0]
  obtain ⟨L, hL⟩ : ∃ L : QL, L = [(0, v0), (0 + 1, v1), (0 + 1 + 1, v2)] := ⟨_, rfl⟩
  rw [← hL]
  have l0 : q_lo L 0 = some v0 := by rw [hL]; rfl
  have l1 : q_lo L 1 = some v1 := by rw [hL]; rfl
  have l2 : q_lo L 2 = some v2 := by rw [hL]; rfl
  have hQ : Ext m0 rm → ∀ o S1, Rp S1 rm → q_out 9 o rz → (Cr 9 m0 rm rz) o S1 := fun a o S1 b e => ⟨b, a, e⟩
  unfold fm_X12_comes at h
  refine go_aload_n (n := 0) (by decide +kernel) l0 f0 ?_
  refine go_iload_n (n := 1) (by decide +kernel) l1 f1 ?_
  refine go_iload_n (n := 2) (by decide +kernel) l2 f2 ?_
  obtain ⟨x_2, m_3, hc_1, h⟩ := bd_s h
  refine go_callV (x := 694) (mi := 308) (n := 2) (ci := 13) (as := [v1, v2]) (rest := []) (by decide +kernel) (by decide +kernel) rfl rfl (q_sum8 _ (Nat.le_of_ble_eq_true rfl)) R f0 (fx_k (c := 13) R (by decide +kernel)) (om_X12_beginsFor (Nat.le_trans (by decide) hd) R f0 f1 f2 hc_1) (fun _ S_6 q_9 => ?_) (fun _ _ qq => kr_x qq)
  refine kr_z (by decide) q_9 fun v_4 f_5 R_7 E_8 => ?_
  have E_10 := E_8
  refine go_istore_n (n := 3) (by decide +kernel) (by decide +kernel) f_5 fun L_11 l_12 kp_13 => ?_
  have l_14 := kp_13 0 _ l0 (by decide) (Or.inl (by decide))
  have l_15 := kp_13 1 _ l1 (by decide) (Or.inl (by decide))
  refine go_aload_n (n := 0) (by decide +kernel) l_14 f0 ?_
  refine go_getf (x := 216) (ci := 13) (kf := 76) (fin := 1) (t := 2) (by decide +kernel) (by decide +kernel) (by decide +kernel) R_7 f0 (fx_k (c := 13) R_7 (by decide +kernel)) fun v_16 f_17 => ?_
  have f_18 := q_is_eq (b := 134) f_17 (fx_v R_7 (by decide +kernel)).symm
  refine go_iload_n (n := 1) (by decide +kernel) l_15 f1 ?_
  refine go_iload_n (n := 3) (by decide +kernel) l_12 f_5 ?_
  refine go_iconst (n := (-1)) (z := (-1)) (by decide +kernel) (by decide) fun v_19 f_20 => ?_
  refine go_icmp (c := .ne) (o := 12) (t := 26) (P := ¬ (x_2 = (-1))) (by decide +kernel) (by decide +kernel) f_5 f_20 (Iff.rfl) (fun hp_21 => ?_) (fun hp_21 => ?_)
  · have h := it_f hp_21 h
    refine go_iload_n (n := 3) (by decide +kernel) l_12 f_5 ?_
    obtain ⟨g_22, h⟩ := gd_s h
    obtain ⟨m_23, e_24, h⟩ := up_s h
    refine go_iast (kd := 100) (by decide +kernel) rfl R_7 f_18 f1 f_5 (fx_k (c := 100) R_7 (by decide +kernel)) (fx_x (a := 134) (ln := 4) R_7 (by decide +kernel) g_22) e_24 (fx_a R_7.2 (fx_k (c := 100) R_7 (by decide +kernel)) (And.left (fx_x (a := 134) (ln := 4) R_7 (by decide +kernel) g_22)) (by decide +kernel)) fun S_25 R_26 E_27 => ?_
    have E_28 := Ext.tr E_10 E_27
    cases h
    exact go_vret (by decide +kernel) rfl (hQ E_28 _ _ R_26 q_out_n)
  · have h := it_n hp_21 h
    refine go_aload_n (n := 0) (by decide +kernel) l_14 f0 ?_
    refine go_getf (x := 216) (ci := 13) (kf := 76) (fin := 1) (t := 2) (by decide +kernel) (by decide +kernel) (by decide +kernel) R_7 f0 (fx_k (c := 13) R_7 (by decide +kernel)) fun v_29 f_30 => ?_
    have f_31 := q_is_eq (b := 134) f_30 (fx_v R_7 (by decide +kernel)).symm
    refine go_iload_n (n := 1) (by decide +kernel) l_15 f1 ?_
    obtain ⟨g_34, h⟩ := gd_s h
    obtain ⟨x_36, e_37, h⟩ := lx_s h
    refine go_iald (kd := 100) (by decide +kernel) rfl R_7 f_31 f1 (fx_k (c := 100) R_7 (by decide +kernel)) (fx_x (a := 134) (ln := 4) R_7 (by decide +kernel) g_34) fun v_32 f_33 => ?_
    have f_35 := q_is_eq f_33 e_37
    refine go_goto (o := 4) (t := 27) (by decide +kernel) (by decide +kernel) ?_
    obtain ⟨m_38, e_39, h⟩ := up_s h
    refine go_iast (kd := 100) (by decide +kernel) rfl R_7 f_18 f1 f_35 (fx_k (c := 100) R_7 (by decide +kernel)) (fx_x (a := 134) (ln := 4) R_7 (by decide +kernel) g_34) e_39 (fx_a R_7.2 (fx_k (c := 100) R_7 (by decide +kernel)) (And.left (fx_x (a := 134) (ln := 4) R_7 (by decide +kernel) g_34)) (by decide +kernel)) fun S_40 R_41 E_42 => ?_
    have E_43 := Ext.tr E_10 E_42
    cases h
    exact go_vret (by decide +kernel) rfl (hQ E_43 _ _ R_41 q_out_n)
noncomputable def fj_X12_point_18 (y1 y2 : Int) (m : MM) : Option (Int × MM) := bd (fm_X12_comes y1 y2 m) fun x_12 m_13 =>
some (0, m_13)
set_option maxHeartbeats 4000000 in
theorem oj_X12_point_18 {xs : List Int32} {d : Nat} {S : QS} {L : QL} {Q : QO → QS → Prop} {m : MM} {y1 y2 : Int} {v0 : Value} {v1 : Value} {v2 : Value}  {rz : Int} {rm : MM}
  (hd : 6 ≤ d) (R : Rp S m) (l0 : q_lo L 0 = some v0) (f0 : q_is 2 v0 68) (l1 : q_lo L 1 = some v1) (f1 : q_is 0 v1 y1) (l2 : q_lo L 2 = some v2) (f2 : q_is 0 v2 y2)
  (hQ : Ext m rm → ∀ o S1, Rp S1 rm → q_out 9 o rz → Q o S1)
  (h : fj_X12_point_18 y1 y2 m = some (rz, rm)) : Go xs d qM_X12_point 18 L [] S Q := by
  unfold fj_X12_point_18 at h
  refine go_aload_n (n := 0) (by decide +kernel) l0 f0 ?_
  refine go_iload_n (n := 1) (by decide +kernel) l1 f1 ?_
  refine go_iload_n (n := 2) (by decide +kernel) l2 f2 ?_
  obtain ⟨x_12, m_13, hc_11, h⟩ := bd_s h
  refine go_callV (x := 700) (mi := 310) (n := 2) (ci := 13) (as := [v1, v2]) (rest := []) (by decide +kernel) (by decide +kernel) rfl rfl (q_sum8 _ (Nat.le_of_ble_eq_true rfl)) R f0 (fx_k (c := 13) R (by decide +kernel)) (om_X12_comes (Nat.le_trans (by decide) hd) R f0 f1 f2 hc_11) (fun _ S_16 q_19 => ?_) (fun _ _ qq => kr_x qq)
  refine kr_v q_19 fun R_17 E_18 => ?_
  have E_20 := E_18
  refine go_goto (o := 66) (t := 90) (by decide +kernel) (by decide +kernel) ?_
  cases h
  exact go_vret (by decide +kernel) rfl (hQ E_20 _ _ R_17 q_out_n)
noncomputable def fj_X12_point_63 (y1 y2 : Int) (m : MM) : Option (Int × MM) := gd (0 ≤ y1 ∧ y1 < 4) <| lx (m 131 y1) fun x_49 =>
if x_49 = 2 then
lx (m 134 y1) fun x_60 =>
bd (fm_X12_cancels x_60 m) fun x_63 m_64 =>
bd (fm_X12_comes y1 y2 m_64) fun x_73 m_74 =>
some (0, m_74)
else
some (0, m)
set_option maxHeartbeats 4000000 in
theorem oj_X12_point_63 {xs : List Int32} {d : Nat} {S : QS} {L : QL} {Q : QO → QS → Prop} {m : MM} {y1 y2 : Int} {v0 : Value} {v1 : Value} {v2 : Value}  {rz : Int} {rm : MM}
  (hd : 6 ≤ d) (R : Rp S m) (l0 : q_lo L 0 = some v0) (f0 : q_is 2 v0 68) (l1 : q_lo L 1 = some v1) (f1 : q_is 0 v1 y1) (l2 : q_lo L 2 = some v2) (f2 : q_is 0 v2 y2)
  (hQ : Ext m rm → ∀ o S1, Rp S1 rm → q_out 9 o rz → Q o S1)
  (h : fj_X12_point_63 y1 y2 m = some (rz, rm)) : Go xs d qM_X12_point 63 L [] S Q := by
  unfold fj_X12_point_63 at h
  refine go_aload_n (n := 0) (by decide +kernel) l0 f0 ?_
  refine go_getf (x := 207) (ci := 13) (kf := 73) (fin := 1) (t := 2) (by decide +kernel) (by decide +kernel) (by decide +kernel) R f0 (fx_k (c := 13) R (by decide +kernel)) fun v_42 f_43 => ?_
  have f_44 := q_is_eq (b := 131) f_43 (fx_v R (by decide +kernel)).symm
  refine go_iload_n (n := 1) (by decide +kernel) l1 f1 ?_
  obtain ⟨g_47, h⟩ := gd_s h
  obtain ⟨x_49, e_50, h⟩ := lx_s h
  refine go_iald (kd := 100) (by decide +kernel) rfl R f_44 f1 (fx_k (c := 100) R (by decide +kernel)) (fx_x (a := 131) (ln := 4) R (by decide +kernel) g_47) fun v_45 f_46 => ?_
  have f_48 := q_is_eq f_46 e_50
  refine go_iconst (n := 2) (z := 2) (by decide +kernel) (by decide) fun v_51 f_52 => ?_
  refine go_icmp (c := .ne) (o := 20) (t := 90) (P := ¬ (x_49 = 2)) (by decide +kernel) (by decide +kernel) f_48 f_52 (Iff.rfl) (fun hp_53 => ?_) (fun hp_53 => ?_)
  · have h := it_f hp_53 h
    cases h
    exact go_vret (by decide +kernel) rfl (hQ (Ext.rf _) _ _ R q_out_n)
  · have h := it_n hp_53 h
    refine go_aload_n (n := 0) (by decide +kernel) l0 f0 ?_
    refine go_aload_n (n := 0) (by decide +kernel) l0 f0 ?_
    refine go_getf (x := 216) (ci := 13) (kf := 76) (fin := 1) (t := 2) (by decide +kernel) (by decide +kernel) (by decide +kernel) R f0 (fx_k (c := 13) R (by decide +kernel)) fun v_54 f_55 => ?_
    have f_56 := q_is_eq (b := 134) f_55 (fx_v R (by decide +kernel)).symm
    refine go_iload_n (n := 1) (by decide +kernel) l1 f1 ?_
    obtain ⟨x_60, e_61, h⟩ := lx_s h
    refine go_iald (kd := 100) (by decide +kernel) rfl R f_56 f1 (fx_k (c := 100) R (by decide +kernel)) (fx_x (a := 134) (ln := 4) R (by decide +kernel) g_47) fun v_57 f_58 => ?_
    have f_59 := q_is_eq f_58 e_61
    obtain ⟨x_63, m_64, hc_62, h⟩ := bd_s h
    refine go_callV (x := 558) (mi := 214) (n := 1) (ci := 13) (as := [v_57]) (rest := []) (by decide +kernel) (by decide +kernel) rfl rfl (q_sum8 _ (Nat.le_of_ble_eq_true rfl)) R f0 (fx_k (c := 13) R (by decide +kernel)) (om_X12_cancels (Nat.le_trans (by decide) hd) R f0 f_59 hc_62) (fun _ S_67 q_70 => ?_) (fun _ _ qq => kr_x qq)
    refine kr_z (by decide) q_70 fun v_65 f_66 R_68 E_69 => ?_
    have E_71 := E_69
    refine go_pop (by decide +kernel) f_66 (Or.inl rfl) ?_
    refine go_aload_n (n := 0) (by decide +kernel) l0 f0 ?_
    refine go_iload_n (n := 1) (by decide +kernel) l1 f1 ?_
    refine go_iload_n (n := 2) (by decide +kernel) l2 f2 ?_
    obtain ⟨x_73, m_74, hc_72, h⟩ := bd_s h
    refine go_callV (x := 700) (mi := 310) (n := 2) (ci := 13) (as := [v1, v2]) (rest := []) (by decide +kernel) (by decide +kernel) rfl rfl (q_sum8 _ (Nat.le_of_ble_eq_true rfl)) R_68 f0 (fx_k (c := 13) R_68 (by decide +kernel)) (om_X12_comes (Nat.le_trans (by decide) hd) R_68 f0 f1 f2 hc_72) (fun _ S_77 q_80 => ?_) (fun _ _ qq => kr_x qq)
    refine kr_v q_80 fun R_78 E_79 => ?_
    have E_81 := Ext.tr E_71 E_79
    cases h
    exact go_vret (by decide +kernel) rfl (hQ E_81 _ _ R_78 q_out_n)
noncomputable def fm_X12_point (p1 p2 : Int) (m0 : MM) : Option (Int × MM) := bp (fm_X12_isRunning p1 m0) fun x_2 =>
if x_2 = 0 then
fj_X12_point_18 p1 p2 m0
else
gd (0 ≤ p1 ∧ p1 < 4) <| lx (m0 131 p1) fun x_28 =>
if x_28 = 3 then
fj_X12_point_18 p1 p2 m0
else
if x_28 = 1 then
lx (m0 135 p1) fun x_88 =>
if x_88 = 0 then
up m0 135 p1 1 fun m_96 =>
up m_96 136 p1 p2 fun m_105 =>
some (0, m_105)
else
fj_X12_point_63 p1 p2 m0
else
fj_X12_point_63 p1 p2 m0
set_option maxHeartbeats 4000000 in
theorem om_X12_point {xs : List Int32} {d : Nat} {S : QS} {m0 : MM} {p1 p2 : Int} {v0 : Value} {v1 : Value} {v2 : Value} {rz : Int} {rm : MM}
  (hd : 7 ≤ d) (R : Rp S m0) (f0 : q_is 2 v0 68) (f1 : q_is 0 v1 p1) (f2 : q_is 0 v2 p2)
  (h : fm_X12_point p1 p2 m0 = some (rz, rm)) : Mt xs d 312 [v0, v1, v2] S (Cr 9 m0 rm rz) := by
  obtain ⟨d, rfl⟩ : ∃ e, d = e + 1 := ⟨d - 1, by omega⟩
  have hd : 6 ≤ d := Nat.le_of_succ_le_succ hd
  refine Mt.of (M := qM_X12_point) rfl (by rw [sl_1 (q_is_cat f0 (Or.inr rfl)), sl_1 (q_is_cat f1 (Or.inl rfl)), sl_1 (q_is_cat f2 (Or.inl rfl)), sl_0]; decide) ?_
  rw [la_1 (q_is_cat f0 (Or.inr rfl)), la_1 (q_is_cat f1 (Or.inl rfl)), la_1 (q_is_cat f2 (Or.inl rfl)), la_0]
  obtain ⟨L, hL⟩ : ∃ L : QL, L = [(0, v0), (0 + 1, v1), (0 + 1 + 1, v2)] := ⟨_, rfl⟩
  rw [← hL]
  have l0 : q_lo L 0 = some v0 := by rw [hL]; rfl
  have l1 : q_lo L 1 = some v1 := by rw [hL]; rfl
  have l2 : q_lo L 2 = some v2 := by rw [hL]; rfl
  have hQ : Ext m0 rm → ∀ o S1, Rp S1 rm → q_out 9 o rz → (Cr 9 m0 rm rz) o S1 := fun a o S1 b e => ⟨b, a, e⟩
  unfold fm_X12_point at h
  refine go_aload_n (n := 0) (by decide +kernel) l0 f0 ?_
  refine go_iload_n (n := 1) (by decide +kernel) l1 f1 ?_
  obtain ⟨x_2, hc_1, h⟩ := bp_s h
  refine go_callV (x := 697) (mi := 309) (n := 1) (ci := 13) (as := [v1]) (rest := []) (by decide +kernel) (by decide +kernel) rfl rfl (q_sum8 _ (Nat.le_of_ble_eq_true rfl)) R f0 (fx_k (c := 13) R (by decide +kernel)) (om_X12_isRunning (Nat.le_trans (by decide) hd) R f0 f1 hc_1) (fun _ S_6 q_9 => ?_) (fun _ _ qq => kr_x qq)
  refine kr_z (by decide) q_9 fun v_4 f_5 R_7 E_8 => ?_
  refine go_if (c := .eq) (o := 13) (t := 18) (P := x_2 = 0) (by decide +kernel) (by decide +kernel) f_5 (Iff.rfl) (fun hp_10 => ?_) (fun hp_10 => ?_)
  · have h := it_t hp_10 h
    exact oj_X12_point_18 hd R_7 l0 f0 l1 f1 l2 f2 hQ h
  · have h := it_f hp_10 h
    refine go_aload_n (n := 0) (by decide +kernel) l0 f0 ?_
    refine go_getf (x := 207) (ci := 13) (kf := 73) (fin := 1) (t := 2) (by decide +kernel) (by decide +kernel) (by decide +kernel) R_7 f0 (fx_k (c := 13) R_7 (by decide +kernel)) fun v_21 f_22 => ?_
    have f_23 := q_is_eq (b := 131) f_22 (fx_v R_7 (by decide +kernel)).symm
    refine go_iload_n (n := 1) (by decide +kernel) l1 f1 ?_
    obtain ⟨g_26, h⟩ := gd_s h
    obtain ⟨x_28, e_29, h⟩ := lx_s h
    refine go_iald (kd := 100) (by decide +kernel) rfl R_7 f_23 f1 (fx_k (c := 100) R_7 (by decide +kernel)) (fx_x (a := 131) (ln := 4) R_7 (by decide +kernel) g_26) fun v_24 f_25 => ?_
    have f_27 := q_is_eq f_25 e_29
    refine go_iconst (n := 3) (z := 3) (by decide +kernel) (by decide) fun v_30 f_31 => ?_
    refine go_icmp (c := .ne) (o := 12) (t := 27) (P := ¬ (x_28 = 3)) (by decide +kernel) (by decide +kernel) f_27 f_31 (Iff.rfl) (fun hp_32 => ?_) (fun hp_32 => ?_)
    · have h := it_f hp_32 h
      refine go_aload_n (n := 0) (by decide +kernel) l0 f0 ?_
      refine go_getf (x := 207) (ci := 13) (kf := 73) (fin := 1) (t := 2) (by decide +kernel) (by decide +kernel) (by decide +kernel) R_7 f0 (fx_k (c := 13) R_7 (by decide +kernel)) fun v_33 f_34 => ?_
      have f_35 := q_is_eq (b := 131) f_34 (fx_v R_7 (by decide +kernel)).symm
      refine go_iload_n (n := 1) (by decide +kernel) l1 f1 ?_
      refine go_iald (kd := 100) (by decide +kernel) rfl R_7 f_35 f1 (fx_k (c := 100) R_7 (by decide +kernel)) (fx_x (a := 131) (ln := 4) R_7 (by decide +kernel) g_26) fun v_36 f_37 => ?_
      have f_38 := q_is_eq f_37 e_29
      refine go_iconst (n := 1) (z := 1) (by decide +kernel) (by decide) fun v_39 f_40 => ?_
      refine go_icmp (c := .ne) (o := 29) (t := 63) (P := ¬ (x_28 = 1)) (by decide +kernel) (by decide +kernel) f_38 f_40 (Iff.rfl) (fun hp_41 => ?_) (fun hp_41 => ?_)
      · have h := it_f hp_41 h
        exact oj_X12_point_63 hd R_7 l0 f0 l1 f1 l2 f2 hQ h
      · have h := it_n hp_41 h
        refine go_aload_n (n := 0) (by decide +kernel) l0 f0 ?_
        refine go_getf (x := 219) (ci := 13) (kf := 77) (fin := 1) (t := 2) (by decide +kernel) (by decide +kernel) (by decide +kernel) R_7 f0 (fx_k (c := 13) R_7 (by decide +kernel)) fun v_82 f_83 => ?_
        have f_84 := q_is_eq (b := 135) f_83 (fx_v R_7 (by decide +kernel)).symm
        refine go_iload_n (n := 1) (by decide +kernel) l1 f1 ?_
        obtain ⟨x_88, e_89, h⟩ := lx_s h
        refine go_bald (kd := 102) (by decide +kernel) rfl R_7 f_84 f1 (fx_k (c := 102) R_7 (by decide +kernel)) (fx_x (a := 135) (ln := 4) R_7 (by decide +kernel) g_26) fun v_85 f_86 => ?_
        have f_87 := q_is_eq f_86 e_89
        refine go_if (c := .ne) (o := 20) (t := 63) (P := ¬ (x_88 = 0)) (by decide +kernel) (by decide +kernel) f_87 (Iff.rfl) (fun hp_90 => ?_) (fun hp_90 => ?_)
        · have h := it_f hp_90 h
          exact oj_X12_point_63 hd R_7 l0 f0 l1 f1 l2 f2 hQ h
        · have h := it_n hp_90 h
          refine go_aload_n (n := 0) (by decide +kernel) l0 f0 ?_
          refine go_getf (x := 219) (ci := 13) (kf := 77) (fin := 1) (t := 2) (by decide +kernel) (by decide +kernel) (by decide +kernel) R_7 f0 (fx_k (c := 13) R_7 (by decide +kernel)) fun v_91 f_92 => ?_
          have f_93 := q_is_eq (b := 135) f_92 (fx_v R_7 (by decide +kernel)).symm
          refine go_iload_n (n := 1) (by decide +kernel) l1 f1 ?_
          refine go_iconst (n := 1) (z := 1) (by decide +kernel) (by decide) fun v_94 f_95 => ?_
          obtain ⟨m_96, e_97, h⟩ := up_s h
          refine go_bast (kd := 102) (by decide +kernel) rfl R_7 f_93 f1 f_95 (by decide) (fx_k (c := 102) R_7 (by decide +kernel)) (fx_x (a := 135) (ln := 4) R_7 (by decide +kernel) g_26) e_97 (fx_a R_7.2 (fx_k (c := 102) R_7 (by decide +kernel)) (And.left (fx_x (a := 135) (ln := 4) R_7 (by decide +kernel) g_26)) (by decide +kernel)) fun S_98 R_99 E_100 => ?_
          have E_101 := E_100
          refine go_aload_n (n := 0) (by decide +kernel) l0 f0 ?_
          refine go_getf (x := 222) (ci := 13) (kf := 78) (fin := 1) (t := 2) (by decide +kernel) (by decide +kernel) (by decide +kernel) R_99 f0 (fx_k (c := 13) R_99 (by decide +kernel)) fun v_102 f_103 => ?_
          have f_104 := q_is_eq (b := 136) f_103 (fx_v R_99 (by decide +kernel)).symm
          refine go_iload_n (n := 1) (by decide +kernel) l1 f1 ?_
          refine go_iload_n (n := 2) (by decide +kernel) l2 f2 ?_
          obtain ⟨m_105, e_106, h⟩ := up_s h
          refine go_iast (kd := 100) (by decide +kernel) rfl R_99 f_104 f1 f2 (fx_k (c := 100) R_99 (by decide +kernel)) (fx_x (a := 136) (ln := 4) R_99 (by decide +kernel) g_26) e_106 (fx_a R_99.2 (fx_k (c := 100) R_99 (by decide +kernel)) (And.left (fx_x (a := 136) (ln := 4) R_99 (by decide +kernel) g_26)) (by decide +kernel)) fun S_107 R_108 E_109 => ?_
          have E_110 := Ext.tr E_101 E_109
          refine go_goto (o := 30) (t := 90) (by decide +kernel) (by decide +kernel) ?_
          cases h
          exact go_vret (by decide +kernel) rfl (hQ E_110 _ _ R_108 q_out_n)
    · have h := it_n hp_32 h
      exact oj_X12_point_18 hd R_7 l0 f0 l1 f1 l2 f2 hQ h
noncomputable def fl_X12_looksAtSchedule_54 (y1 y2 : Int) (k94 : MM → Option (Int × MM)) : Nat → Int → MM → Option (Int × MM)
  | 0, _, _ => none
  | n + 1, y3, m => if y2 < y3 then
k94 m
else
gd (0 ≤ y1 ∧ y1 < 4) <| lx (m 130 y1) fun x_61 =>
gd (x_61 ≠ 0) <| if Int.tmod y3 x_61 = 0 then
lx (m 133 y1) fun x_84 =>
if x_84 = 0 then
bp (fm_X12_ofThousand y3 m) fun x_99 =>
bd (fm_X12_point y1 x_99 m) fun x_108 m_109 =>
lx (w32 (y3 + 1)) fun x_122 =>
fl_X12_looksAtSchedule_54 y1 y2 k94 n x_122 m_109
else
lx (w32 (y3 + 1)) fun x_92 =>
fl_X12_looksAtSchedule_54 y1 y2 k94 n x_92 m
else
lx (w32 (y3 + 1)) fun x_72 =>
fl_X12_looksAtSchedule_54 y1 y2 k94 n x_72 m
set_option maxHeartbeats 4000000 in
theorem ol_X12_looksAtSchedule_54 {xs : List Int32} {d : Nat} {Q : QO → QS → Prop} {mb : MM} {y1 y2 : Int} {k94 : MM → Option (Int × MM)} {rz : Int} {rm : MM}
  (hd : 7 ≤ d)
  (hk94 : ∀ mq : MM, Ext mb mq → ∀ {Sq : QS} {Lq : QL} {u0 : Value} {u1 : Value} {u2 : Value}, k94 mq = some (rz, rm) → Rp Sq mq → q_lo Lq 0 = some u0 → q_is 2 u0 68 → q_lo Lq 1 = some u1 → q_is 0 u1 y1 → q_lo Lq 2 = some u2 → q_is 0 u2 y2 → Go xs d qM_X12_looksAtSchedule 94 Lq [] Sq Q)
  (hQ : Ext mb rm → ∀ o S1, Rp S1 rm → q_out 9 o rz → Q o S1) :
  ∀ (n : Nat) {m : MM} {S : QS} {L : QL} {y3 : Int} {v0 : Value} {v1 : Value} {v2 : Value} {v3 : Value} , Ext mb m → fl_X12_looksAtSchedule_54 y1 y2 k94 n y3 m = some (rz, rm) → Rp S m → q_lo L 0 = some v0 → q_is 2 v0 68 → q_lo L 1 = some v1 → q_is 0 v1 y1 → q_lo L 2 = some v2 → q_is 0 v2 y2 → q_lo L 3 = some v3 → q_is 0 v3 y3 → Go xs d qM_X12_looksAtSchedule 54 L [] S Q := by
  intro n
  induction n with
  | zero => intro m S L y3 v0 v1 v2 v3; intro E h R l0 f0 l1 f1 l2 f2 l3 f3; cases h
  | succ n ih0 =>
    intro m S L y3 v0 v1 v2 v3; intro E h R l0 f0 l1 f1 l2 f2 l3 f3
    have ih : ∀ mq : MM, Ext mb mq → ∀ {z3 : Int} {Sq : QS} {Lq : QL} {u0 : Value} {u1 : Value} {u2 : Value} {u3 : Value}, fl_X12_looksAtSchedule_54 y1 y2 k94 n z3 mq = some (rz, rm) → Rp Sq mq → q_lo Lq 0 = some u0 → q_is 2 u0 68 → q_lo Lq 1 = some u1 → q_is 0 u1 y1 → q_lo Lq 2 = some u2 → q_is 0 u2 y2 → q_lo Lq 3 = some u3 → q_is 0 u3 z3 → Go xs d qM_X12_looksAtSchedule 54 Lq [] Sq Q := fun mq b => by intros; exact ih0 b ‹_› ‹_› ‹_› ‹_› ‹_› ‹_› ‹_› ‹_› ‹_› ‹_›
    unfold fl_X12_looksAtSchedule_54 at h
    refine go_iload_n (n := 3) (by decide +kernel) l3 f3 ?_
    refine go_iload_n (n := 2) (by decide +kernel) l2 f2 ?_
    refine go_icmp (c := .gt) (o := 38) (t := 94) (P := y2 < y3) (by decide +kernel) (by decide +kernel) f3 f2 (Iff.rfl) (fun hp_53 => ?_) (fun hp_53 => ?_)
    · have h := it_t hp_53 h
      exact hk94 m E h R l0 f0 l1 f1 l2 f2
    · have h := it_f hp_53 h
      refine go_iload_n (n := 3) (by decide +kernel) l3 f3 ?_
      refine go_aload_n (n := 0) (by decide +kernel) l0 f0 ?_
      refine go_getf (x := 204) (ci := 13) (kf := 72) (fin := 1) (t := 2) (by decide +kernel) (by decide +kernel) (by decide +kernel) R f0 (fx_k (c := 13) R (by decide +kernel)) fun v_54 f_55 => ?_
      have f_56 := q_is_eq (b := 130) f_55 (fx_v R (by decide +kernel)).symm
      refine go_iload_n (n := 1) (by decide +kernel) l1 f1 ?_
      obtain ⟨g_59, h⟩ := gd_s h
      obtain ⟨x_61, e_62, h⟩ := lx_s h
      refine go_iald (kd := 100) (by decide +kernel) rfl R f_56 f1 (fx_k (c := 100) R (by decide +kernel)) (fx_x (a := 130) (ln := 4) R (by decide +kernel) g_59) fun v_57 f_58 => ?_
      have f_60 := q_is_eq f_58 e_62
      obtain ⟨g_65, h⟩ := gd_s h
      refine go_irem (by decide +kernel) f3 f_60 g_65 fun v_63 f_64 => ?_
      refine go_if (c := .ne) (o := 21) (t := 88) (P := ¬ (Int.tmod y3 x_61 = 0)) (by decide +kernel) (by decide +kernel) f_64 (Iff.rfl) (fun hp_66 => ?_) (fun hp_66 => ?_)
      · have h := it_f hp_66 h
        refine go_iinc (n := 3) (c := 1) (c' := 1) (by decide +kernel) (by decide +kernel) l3 f3 (by decide) fun L_67 v_68 f_69 l_70 kp_71 => ?_
        obtain ⟨x_72, e_73, h⟩ := lx_s h
        have f_74 := q_is_eq f_69 e_73
        have l_75 := kp_71 0 _ l0 (by decide) (Or.inl (by decide))
        have l_76 := kp_71 1 _ l1 (by decide) (Or.inl (by decide))
        have l_77 := kp_71 2 _ l2 (by decide) (Or.inr (q_is_cat f2 (Or.inl rfl)))
        refine go_goto (o := (-37)) (t := 54) (by decide +kernel) (by decide +kernel) ?_
        exact ih m E h R l_75 f0 l_76 f1 l_77 f2 l_70 f_74
      · have h := it_n hp_66 h
        refine go_aload_n (n := 0) (by decide +kernel) l0 f0 ?_
        refine go_getf (x := 213) (ci := 13) (kf := 75) (fin := 1) (t := 2) (by decide +kernel) (by decide +kernel) (by decide +kernel) R f0 (fx_k (c := 13) R (by decide +kernel)) fun v_78 f_79 => ?_
        have f_80 := q_is_eq (b := 133) f_79 (fx_v R (by decide +kernel)).symm
        refine go_iload_n (n := 1) (by decide +kernel) l1 f1 ?_
        obtain ⟨x_84, e_85, h⟩ := lx_s h
        refine go_bald (kd := 102) (by decide +kernel) rfl R f_80 f1 (fx_k (c := 102) R (by decide +kernel)) (fx_x (a := 133) (ln := 4) R (by decide +kernel) g_59) fun v_81 f_82 => ?_
        have f_83 := q_is_eq f_82 e_85
        refine go_if (c := .ne) (o := 12) (t := 88) (P := ¬ (x_84 = 0)) (by decide +kernel) (by decide +kernel) f_83 (Iff.rfl) (fun hp_86 => ?_) (fun hp_86 => ?_)
        · have h := it_f hp_86 h
          refine go_iinc (n := 3) (c := 1) (c' := 1) (by decide +kernel) (by decide +kernel) l3 f3 (by decide) fun L_87 v_88 f_89 l_90 kp_91 => ?_
          obtain ⟨x_92, e_93, h⟩ := lx_s h
          have f_94 := q_is_eq f_89 e_93
          have l_95 := kp_91 0 _ l0 (by decide) (Or.inl (by decide))
          have l_96 := kp_91 1 _ l1 (by decide) (Or.inl (by decide))
          have l_97 := kp_91 2 _ l2 (by decide) (Or.inr (q_is_cat f2 (Or.inl rfl)))
          refine go_goto (o := (-37)) (t := 54) (by decide +kernel) (by decide +kernel) ?_
          exact ih m E h R l_95 f0 l_96 f1 l_97 f2 l_90 f_94
        · have h := it_n hp_86 h
          refine go_aload_n (n := 0) (by decide +kernel) l0 f0 ?_
          refine go_iload_n (n := 1) (by decide +kernel) l1 f1 ?_
          refine go_iload_n (n := 3) (by decide +kernel) l3 f3 ?_
          obtain ⟨x_99, hc_98, h⟩ := bp_s h
          refine go_callS (x := 703) (mi := 195) (n := 1) (b := 0) (as := [v3]) (rest := [v1, v0]) (by decide +kernel) (by decide +kernel) rfl rfl (q_sum8 _ (Nat.le_of_ble_eq_true rfl)) (om_X12_ofThousand (Nat.le_trans (by decide) hd) R f3 hc_98) (fun _ S_103 q_106 => ?_) (fun _ _ qq => kr_x qq)
          refine kr_z (by decide) q_106 fun v_101 f_102 R_104 E_105 => ?_
          obtain ⟨x_108, m_109, hc_107, h⟩ := bd_s h
          refine go_callV (x := 706) (mi := 312) (n := 2) (ci := 13) (as := [v1, v_101]) (rest := []) (by decide +kernel) (by decide +kernel) rfl rfl (q_sum8 _ (Nat.le_of_ble_eq_true rfl)) R_104 f0 (fx_k (c := 13) R_104 (by decide +kernel)) (om_X12_point (Nat.le_trans (by decide) hd) R_104 f0 f1 f_102 hc_107) (fun _ S_112 q_115 => ?_) (fun _ _ qq => kr_x qq)
          refine kr_v q_115 fun R_113 E_114 => ?_
          have E_116 := Ext.tr E E_114
          refine go_iinc (n := 3) (c := 1) (c' := 1) (by decide +kernel) (by decide +kernel) l3 f3 (by decide) fun L_117 v_118 f_119 l_120 kp_121 => ?_
          obtain ⟨x_122, e_123, h⟩ := lx_s h
          have f_124 := q_is_eq f_119 e_123
          have l_125 := kp_121 0 _ l0 (by decide) (Or.inl (by decide))
          have l_126 := kp_121 1 _ l1 (by decide) (Or.inl (by decide))
          have l_127 := kp_121 2 _ l2 (by decide) (Or.inr (q_is_cat f2 (Or.inl rfl)))
          refine go_goto (o := (-37)) (t := 54) (by decide +kernel) (by decide +kernel) ?_
          exact ih m_109 E_116 h R_113 l_125 f0 l_126 f1 l_127 f2 l_120 f_124
noncomputable def fj_X12_looksAtSchedule_35 (y1 : Int) (m : MM) : Option (Int × MM) := lx (m 68 0) fun x_14 =>
lx (m 68 68) fun x_19 =>
lx (w32 (x_14 + x_19)) fun x_23 =>
gd (0 ≤ y1 ∧ y1 < 4) <| lx (m 132 y1) fun x_38 =>
lx (w32 (x_38 + 1)) fun x_44 =>
fl_X12_looksAtSchedule_54 y1 x_23 (fun m_140 =>
lx (m_140 132 y1) fun x_152 =>
bp (fm_X12_most x_152 x_23 m_140) fun x_155 =>
up m_140 132 y1 x_155 fun m_163 =>
some (0, m_163)) BIG x_44 m
set_option maxHeartbeats 4000000 in
theorem oj_X12_looksAtSchedule_35 {xs : List Int32} {d : Nat} {S : QS} {L : QL} {Q : QO → QS → Prop} {m : MM} {y1 : Int} {v0 : Value} {v1 : Value}  {rz : Int} {rm : MM}
  (hd : 7 ≤ d) (R : Rp S m) (l0 : q_lo L 0 = some v0) (f0 : q_is 2 v0 68) (l1 : q_lo L 1 = some v1) (f1 : q_is 0 v1 y1)
  (hQ : Ext m rm → ∀ o S1, Rp S1 rm → q_out 9 o rz → Q o S1)
  (h : fj_X12_looksAtSchedule_35 y1 m = some (rz, rm)) : Go xs d qM_X12_looksAtSchedule 35 L [] S Q := by
  unfold fj_X12_looksAtSchedule_35 at h
  refine go_aload_n (n := 0) (by decide +kernel) l0 f0 ?_
  obtain ⟨x_14, e_15, h⟩ := lx_s h
  refine go_getf (x := 357) (ci := 13) (kf := 0) (fin := 0) (t := 0) (by decide +kernel) (by decide +kernel) (by decide +kernel) R f0 (fx_k (c := 13) R (by decide +kernel)) fun v_11 f_12 => ?_
  have f_13 := q_is_eq f_12 e_15
  refine go_aload_n (n := 0) (by decide +kernel) l0 f0 ?_
  obtain ⟨x_19, e_20, h⟩ := lx_s h
  refine go_getf (x := 691) (ci := 13) (kf := 68) (fin := 0) (t := 0) (by decide +kernel) (by decide +kernel) (by decide +kernel) R f0 (fx_k (c := 13) R (by decide +kernel)) fun v_16 f_17 => ?_
  have f_18 := q_is_eq f_17 e_20
  refine go_iadd (by decide +kernel) f_13 f_18 fun v_21 f_22 => ?_
  obtain ⟨x_23, e_24, h⟩ := lx_s h
  have f_25 := q_is_eq f_22 e_24
  refine go_istore_n (n := 2) (by decide +kernel) (by decide +kernel) f_25 fun L_26 l_27 kp_28 => ?_
  have l_29 := kp_28 0 _ l0 (by decide) (Or.inl (by decide))
  have l_30 := kp_28 1 _ l1 (by decide) (Or.inr (q_is_cat f1 (Or.inl rfl)))
  refine go_aload_n (n := 0) (by decide +kernel) l_29 f0 ?_
  refine go_getf (x := 210) (ci := 13) (kf := 74) (fin := 1) (t := 2) (by decide +kernel) (by decide +kernel) (by decide +kernel) R f0 (fx_k (c := 13) R (by decide +kernel)) fun v_31 f_32 => ?_
  have f_33 := q_is_eq (b := 132) f_32 (fx_v R (by decide +kernel)).symm
  refine go_iload_n (n := 1) (by decide +kernel) l_30 f1 ?_
  obtain ⟨g_36, h⟩ := gd_s h
  obtain ⟨x_38, e_39, h⟩ := lx_s h
  refine go_iald (kd := 100) (by decide +kernel) rfl R f_33 f1 (fx_k (c := 100) R (by decide +kernel)) (fx_x (a := 132) (ln := 4) R (by decide +kernel) g_36) fun v_34 f_35 => ?_
  have f_37 := q_is_eq f_35 e_39
  refine go_iconst (n := 1) (z := 1) (by decide +kernel) (by decide) fun v_40 f_41 => ?_
  refine go_iadd (by decide +kernel) f_37 f_41 fun v_42 f_43 => ?_
  obtain ⟨x_44, e_45, h⟩ := lx_s h
  have f_46 := q_is_eq f_43 e_45
  refine go_istore_n (n := 3) (by decide +kernel) (by decide +kernel) f_46 fun L_47 l_48 kp_49 => ?_
  have l_50 := kp_49 0 _ l_29 (by decide) (Or.inl (by decide))
  have l_51 := kp_49 1 _ l_30 (by decide) (Or.inl (by decide))
  have l_52 := kp_49 2 _ l_27 (by decide) (Or.inr (q_is_cat f_25 (Or.inl rfl)))
  refine ol_X12_looksAtSchedule_54 hd  ?_ hQ BIG (Ext.rf _) h R l_50 f0 l_51 f1 l_52 f_25 l_48 f_46
  intro m_140 E_141
  intro S_137 L_138 v_128 v_129 v_130
  intro h R_139 l_131 f_134 l_132 f_135 l_133 f_136
  have E_142 := E_141
  refine go_aload_n (n := 0) (by decide +kernel) l_131 f_134 ?_
  refine go_getf (x := 210) (ci := 13) (kf := 74) (fin := 1) (t := 2) (by decide +kernel) (by decide +kernel) (by decide +kernel) R_139 f_134 (fx_k (c := 13) R_139 (by decide +kernel)) fun v_143 f_144 => ?_
  have f_145 := q_is_eq (b := 132) f_144 (fx_v R_139 (by decide +kernel)).symm
  refine go_iload_n (n := 1) (by decide +kernel) l_132 f_135 ?_
  refine go_aload_n (n := 0) (by decide +kernel) l_131 f_134 ?_
  refine go_getf (x := 210) (ci := 13) (kf := 74) (fin := 1) (t := 2) (by decide +kernel) (by decide +kernel) (by decide +kernel) R_139 f_134 (fx_k (c := 13) R_139 (by decide +kernel)) fun v_146 f_147 => ?_
  have f_148 := q_is_eq (b := 132) f_147 (fx_v R_139 (by decide +kernel)).symm
  refine go_iload_n (n := 1) (by decide +kernel) l_132 f_135 ?_
  obtain ⟨x_152, e_153, h⟩ := lx_s h
  refine go_iald (kd := 100) (by decide +kernel) rfl R_139 f_148 f_135 (fx_k (c := 100) R_139 (by decide +kernel)) (fx_x (a := 132) (ln := 4) R_139 (by decide +kernel) g_36) fun v_149 f_150 => ?_
  have f_151 := q_is_eq f_150 e_153
  refine go_iload_n (n := 2) (by decide +kernel) l_133 f_136 ?_
  obtain ⟨x_155, hc_154, h⟩ := bp_s h
  refine go_callS (x := 338) (mi := 190) (n := 2) (b := 0) (as := [v_149, v_130]) (rest := [v_129, v_143]) (by decide +kernel) (by decide +kernel) rfl rfl (q_sum8 _ (Nat.le_of_ble_eq_true rfl)) (om_X12_most (Nat.le_trans (by decide) hd) R_139 f_151 f_136 hc_154) (fun _ S_159 q_162 => ?_) (fun _ _ qq => kr_x qq)
  refine kr_z (by decide) q_162 fun v_157 f_158 R_160 E_161 => ?_
  obtain ⟨m_163, e_164, h⟩ := up_s h
  refine go_iast (kd := 100) (by decide +kernel) rfl R_160 f_145 f_135 f_158 (fx_k (c := 100) R_160 (by decide +kernel)) (fx_x (a := 132) (ln := 4) R_160 (by decide +kernel) g_36) e_164 (fx_a R_160.2 (fx_k (c := 100) R_160 (by decide +kernel)) (And.left (fx_x (a := 132) (ln := 4) R_160 (by decide +kernel) g_36)) (by decide +kernel)) fun S_165 R_166 E_167 => ?_
  have E_168 := Ext.tr E_142 E_167
  cases h
  exact go_vret (by decide +kernel) rfl (hQ E_168 _ _ R_166 q_out_n)
noncomputable def fm_X12_looksAtSchedule (p1 : Int) (m0 : MM) : Option (Int × MM) := gd (0 ≤ p1 ∧ p1 < 4) <| lx (m0 135 p1) fun x_8 =>
if x_8 = 0 then
fj_X12_looksAtSchedule_35 p1 m0
else
bp (fm_X12_isRunning p1 m0) fun x_170 =>
if x_170 = 0 then
up m0 135 p1 0 fun m_184 =>
lx (m_184 136 p1) fun x_196 =>
bd (fm_X12_comes p1 x_196 m_184) fun x_199 m_200 =>
fj_X12_looksAtSchedule_35 p1 m_200
else
fj_X12_looksAtSchedule_35 p1 m0
set_option maxHeartbeats 4000000 in
theorem om_X12_looksAtSchedule {xs : List Int32} {d : Nat} {S : QS} {m0 : MM} {p1 : Int} {v0 : Value} {v1 : Value} {rz : Int} {rm : MM}
  (hd : 8 ≤ d) (R : Rp S m0) (f0 : q_is 2 v0 68) (f1 : q_is 0 v1 p1)
  (h : fm_X12_looksAtSchedule p1 m0 = some (rz, rm)) : Mt xs d 311 [v0, v1] S (Cr 9 m0 rm rz) := by
  obtain ⟨d, rfl⟩ : ∃ e, d = e + 1 := ⟨d - 1, by omega⟩
  have hd : 7 ≤ d := Nat.le_of_succ_le_succ hd
  refine Mt.of (M := qM_X12_looksAtSchedule) rfl (by rw [sl_1 (q_is_cat f0 (Or.inr rfl)), sl_1 (q_is_cat f1 (Or.inl rfl)), sl_0]; decide) ?_
  rw [la_1 (q_is_cat f0 (Or.inr rfl)), la_1 (q_is_cat f1 (Or.inl rfl)), la_0]
  obtain ⟨L, hL⟩ : ∃ L : QL, L = [(0, v0), (0 + 1, v1)] := ⟨_, rfl⟩
  rw [← hL]
  have l0 : q_lo L 0 = some v0 := by rw [hL]; rfl
  have l1 : q_lo L 1 = some v1 := by rw [hL]; rfl
  have hQ : Ext m0 rm → ∀ o S1, Rp S1 rm → q_out 9 o rz → (Cr 9 m0 rm rz) o S1 := fun a o S1 b e => ⟨b, a, e⟩
  unfold fm_X12_looksAtSchedule at h
  refine go_aload_n (n := 0) (by decide +kernel) l0 f0 ?_
  refine go_getf (x := 219) (ci := 13) (kf := 77) (fin := 1) (t := 2) (by decide +kernel) (by decide +kernel) (by decide +kernel) R f0 (fx_k (c := 13) R (by decide +kernel)) fun v_1 f_2 => ?_
  have f_3 := q_is_eq (b := 135) f_2 (fx_v R (by decide +kernel)).symm
  refine go_iload_n (n := 1) (by decide +kernel) l1 f1 ?_
  obtain ⟨g_6, h⟩ := gd_s h
  obtain ⟨x_8, e_9, h⟩ := lx_s h
  refine go_bald (kd := 102) (by decide +kernel) rfl R f_3 f1 (fx_k (c := 102) R (by decide +kernel)) (fx_x (a := 135) (ln := 4) R (by decide +kernel) g_6) fun v_4 f_5 => ?_
  have f_7 := q_is_eq f_5 e_9
  refine go_if (c := .eq) (o := 29) (t := 35) (P := x_8 = 0) (by decide +kernel) (by decide +kernel) f_7 (Iff.rfl) (fun hp_10 => ?_) (fun hp_10 => ?_)
  · have h := it_t hp_10 h
    exact oj_X12_looksAtSchedule_35 hd R l0 f0 l1 f1 hQ h
  · have h := it_f hp_10 h
    refine go_aload_n (n := 0) (by decide +kernel) l0 f0 ?_
    refine go_iload_n (n := 1) (by decide +kernel) l1 f1 ?_
    obtain ⟨x_170, hc_169, h⟩ := bp_s h
    refine go_callV (x := 697) (mi := 309) (n := 1) (ci := 13) (as := [v1]) (rest := []) (by decide +kernel) (by decide +kernel) rfl rfl (q_sum8 _ (Nat.le_of_ble_eq_true rfl)) R f0 (fx_k (c := 13) R (by decide +kernel)) (om_X12_isRunning (Nat.le_trans (by decide) hd) R f0 f1 hc_169) (fun _ S_174 q_177 => ?_) (fun _ _ qq => kr_x qq)
    refine kr_z (by decide) q_177 fun v_172 f_173 R_175 E_176 => ?_
    refine go_if (c := .ne) (o := 21) (t := 35) (P := ¬ (x_170 = 0)) (by decide +kernel) (by decide +kernel) f_173 (Iff.rfl) (fun hp_178 => ?_) (fun hp_178 => ?_)
    · have h := it_f hp_178 h
      exact oj_X12_looksAtSchedule_35 hd R_175 l0 f0 l1 f1 hQ h
    · have h := it_n hp_178 h
      refine go_aload_n (n := 0) (by decide +kernel) l0 f0 ?_
      refine go_getf (x := 219) (ci := 13) (kf := 77) (fin := 1) (t := 2) (by decide +kernel) (by decide +kernel) (by decide +kernel) R_175 f0 (fx_k (c := 13) R_175 (by decide +kernel)) fun v_179 f_180 => ?_
      have f_181 := q_is_eq (b := 135) f_180 (fx_v R_175 (by decide +kernel)).symm
      refine go_iload_n (n := 1) (by decide +kernel) l1 f1 ?_
      refine go_iconst (n := 0) (z := 0) (by decide +kernel) (by decide) fun v_182 f_183 => ?_
      obtain ⟨m_184, e_185, h⟩ := up_s h
      refine go_bast (kd := 102) (by decide +kernel) rfl R_175 f_181 f1 f_183 (by decide) (fx_k (c := 102) R_175 (by decide +kernel)) (fx_x (a := 135) (ln := 4) R_175 (by decide +kernel) g_6) e_185 (fx_a R_175.2 (fx_k (c := 102) R_175 (by decide +kernel)) (And.left (fx_x (a := 135) (ln := 4) R_175 (by decide +kernel) g_6)) (by decide +kernel)) fun S_186 R_187 E_188 => ?_
      have E_189 := E_188
      refine go_aload_n (n := 0) (by decide +kernel) l0 f0 ?_
      refine go_iload_n (n := 1) (by decide +kernel) l1 f1 ?_
      refine go_aload_n (n := 0) (by decide +kernel) l0 f0 ?_
      refine go_getf (x := 222) (ci := 13) (kf := 78) (fin := 1) (t := 2) (by decide +kernel) (by decide +kernel) (by decide +kernel) R_187 f0 (fx_k (c := 13) R_187 (by decide +kernel)) fun v_190 f_191 => ?_
      have f_192 := q_is_eq (b := 136) f_191 (fx_v R_187 (by decide +kernel)).symm
      refine go_iload_n (n := 1) (by decide +kernel) l1 f1 ?_
      obtain ⟨x_196, e_197, h⟩ := lx_s h
      refine go_iald (kd := 100) (by decide +kernel) rfl R_187 f_192 f1 (fx_k (c := 100) R_187 (by decide +kernel)) (fx_x (a := 136) (ln := 4) R_187 (by decide +kernel) g_6) fun v_193 f_194 => ?_
      have f_195 := q_is_eq f_194 e_197
      obtain ⟨x_199, m_200, hc_198, h⟩ := bd_s h
      refine go_callV (x := 700) (mi := 310) (n := 2) (ci := 13) (as := [v1, v_193]) (rest := []) (by decide +kernel) (by decide +kernel) rfl rfl (q_sum8 _ (Nat.le_of_ble_eq_true rfl)) R_187 f0 (fx_k (c := 13) R_187 (by decide +kernel)) (om_X12_comes (Nat.le_trans (by decide) hd) R_187 f0 f1 f_195 hc_198) (fun _ S_203 q_206 => ?_) (fun _ _ qq => kr_x qq)
      refine kr_v q_206 fun R_204 E_205 => ?_
      have E_207 := Ext.tr E_189 E_205
      exact oj_X12_looksAtSchedule_35 hd R_204 l0 f0 l1 f1 (fun b => hQ (Ext.tr E_207 b)) h
noncomputable def fl_X12_pass_43 (y1 y2 : Int) (k61 : MM → Option (Int × MM)) : Nat → Int → MM → Option (Int × MM)
  | 0, _, _ => none
  | n + 1, y3, m => if y3 < 3 then
gd (0 ≤ y3 ∧ y3 < 3) <| up m 120 y3 0 fun m_73 =>
lx (w32 (y3 + 1)) fun x_84 =>
fl_X12_pass_43 y1 y2 k61 n x_84 m_73
else
k61 m
set_option maxHeartbeats 4000000 in
theorem ol_X12_pass_43 {xs : List Int32} {d : Nat} {Q : QO → QS → Prop} {mb : MM} {y1 y2 : Int} {k61 : MM → Option (Int × MM)} {rz : Int} {rm : MM}
  (hd : 8 ≤ d)
  (hk61 : ∀ mq : MM, Ext mb mq → ∀ {Sq : QS} {Lq : QL} {u0 : Value} {u1 : Value} {u2 : Value}, k61 mq = some (rz, rm) → Rp Sq mq → q_lo Lq 0 = some u0 → q_is 2 u0 68 → q_lo Lq 1 = some u1 → q_is 0 u1 y1 → q_lo Lq 2 = some u2 → q_is 0 u2 y2 → Go xs d qM_X12_pass 61 Lq [] Sq Q)
  (hQ : Ext mb rm → ∀ o S1, Rp S1 rm → q_out 0 o rz → Q o S1) :
  ∀ (n : Nat) {m : MM} {S : QS} {L : QL} {y3 : Int} {v0 : Value} {v1 : Value} {v2 : Value} {v3 : Value} , Ext mb m → fl_X12_pass_43 y1 y2 k61 n y3 m = some (rz, rm) → Rp S m → q_lo L 0 = some v0 → q_is 2 v0 68 → q_lo L 1 = some v1 → q_is 0 v1 y1 → q_lo L 2 = some v2 → q_is 0 v2 y2 → q_lo L 3 = some v3 → q_is 0 v3 y3 → Go xs d qM_X12_pass 43 L [] S Q := by
  intro n
  induction n with
  | zero => intro m S L y3 v0 v1 v2 v3; intro E h R l0 f0 l1 f1 l2 f2 l3 f3; cases h
  | succ n ih0 =>
    intro m S L y3 v0 v1 v2 v3; intro E h R l0 f0 l1 f1 l2 f2 l3 f3
    have ih : ∀ mq : MM, Ext mb mq → ∀ {z3 : Int} {Sq : QS} {Lq : QL} {u0 : Value} {u1 : Value} {u2 : Value} {u3 : Value}, fl_X12_pass_43 y1 y2 k61 n z3 mq = some (rz, rm) → Rp Sq mq → q_lo Lq 0 = some u0 → q_is 2 u0 68 → q_lo Lq 1 = some u1 → q_is 0 u1 y1 → q_lo Lq 2 = some u2 → q_is 0 u2 y2 → q_lo Lq 3 = some u3 → q_is 0 u3 z3 → Go xs d qM_X12_pass 43 Lq [] Sq Q := fun mq b => by intros; exact ih0 b ‹_› ‹_› ‹_› ‹_› ‹_› ‹_› ‹_› ‹_› ‹_› ‹_›
    unfold fl_X12_pass_43 at h
    refine go_iload_n (n := 3) (by decide +kernel) l3 f3 ?_
    refine go_iconst (n := 3) (z := 3) (by decide +kernel) (by decide) fun v_64 f_65 => ?_
    refine go_icmp (c := .ge) (o := 16) (t := 61) (P := ¬ (y3 < 3)) (by decide +kernel) (by decide +kernel) f3 f_65 (Int.not_lt.symm) (fun hp_66 => ?_) (fun hp_66 => ?_)
    · have h := it_f hp_66 h
      exact hk61 m E h R l0 f0 l1 f1 l2 f2
    · have h := it_n hp_66 h
      refine go_aload_n (n := 0) (by decide +kernel) l0 f0 ?_
      refine go_getf (x := 174) (ci := 13) (kf := 60) (fin := 1) (t := 2) (by decide +kernel) (by decide +kernel) (by decide +kernel) R f0 (fx_k (c := 13) R (by decide +kernel)) fun v_67 f_68 => ?_
      have f_69 := q_is_eq (b := 120) f_68 (fx_v R (by decide +kernel)).symm
      refine go_iload_n (n := 3) (by decide +kernel) l3 f3 ?_
      refine go_iconst (n := 0) (z := 0) (by decide +kernel) (by decide) fun v_70 f_71 => ?_
      obtain ⟨g_72, h⟩ := gd_s h
      obtain ⟨m_73, e_74, h⟩ := up_s h
      refine go_iast (kd := 100) (by decide +kernel) rfl R f_69 f3 f_71 (fx_k (c := 100) R (by decide +kernel)) (fx_x (a := 120) (ln := 3) R (by decide +kernel) g_72) e_74 (fx_a R.2 (fx_k (c := 100) R (by decide +kernel)) (And.left (fx_x (a := 120) (ln := 3) R (by decide +kernel) g_72)) (by decide +kernel)) fun S_75 R_76 E_77 => ?_
      have E_78 := Ext.tr E E_77
      refine go_iinc (n := 3) (c := 1) (c' := 1) (by decide +kernel) (by decide +kernel) l3 f3 (by decide) fun L_79 v_80 f_81 l_82 kp_83 => ?_
      obtain ⟨x_84, e_85, h⟩ := lx_s h
      have f_86 := q_is_eq f_81 e_85
      have l_87 := kp_83 0 _ l0 (by decide) (Or.inl (by decide))
      have l_88 := kp_83 1 _ l1 (by decide) (Or.inl (by decide))
      have l_89 := kp_83 2 _ l2 (by decide) (Or.inr (q_is_cat f2 (Or.inl rfl)))
      refine go_goto (o := (-15)) (t := 43) (by decide +kernel) (by decide +kernel) ?_
      exact ih m_73 E_78 h R_76 l_87 f0 l_88 f1 l_89 f2 l_82 f_86
noncomputable def fl_X12_pass_71 (y1 y2 : Int) (k90 : MM → Option (Int × MM)) : Nat → Int → MM → Option (Int × MM)
  | 0, _, _ => none
  | n + 1, y3, m => lx (m 68 69) fun x_136 =>
if y3 < x_136 then
bd (fm_X12_looksAtSchedule y3 m) fun x_140 m_141 =>
lx (w32 (y3 + 1)) fun x_154 =>
fl_X12_pass_71 y1 y2 k90 n x_154 m_141
else
k90 m
set_option maxHeartbeats 4000000 in
theorem ol_X12_pass_71 {xs : List Int32} {d : Nat} {Q : QO → QS → Prop} {mb : MM} {y1 y2 : Int} {k90 : MM → Option (Int × MM)} {rz : Int} {rm : MM}
  (hd : 8 ≤ d)
  (hk90 : ∀ mq : MM, Ext mb mq → ∀ {Sq : QS} {Lq : QL} {u0 : Value} {u1 : Value} {u2 : Value}, k90 mq = some (rz, rm) → Rp Sq mq → q_lo Lq 0 = some u0 → q_is 2 u0 68 → q_lo Lq 1 = some u1 → q_is 0 u1 y1 → q_lo Lq 2 = some u2 → q_is 0 u2 y2 → Go xs d qM_X12_pass 90 Lq [] Sq Q)
  (hQ : Ext mb rm → ∀ o S1, Rp S1 rm → q_out 0 o rz → Q o S1) :
  ∀ (n : Nat) {m : MM} {S : QS} {L : QL} {y3 : Int} {v0 : Value} {v1 : Value} {v2 : Value} {v3 : Value} , Ext mb m → fl_X12_pass_71 y1 y2 k90 n y3 m = some (rz, rm) → Rp S m → q_lo L 0 = some v0 → q_is 2 v0 68 → q_lo L 1 = some v1 → q_is 0 v1 y1 → q_lo L 2 = some v2 → q_is 0 v2 y2 → q_lo L 3 = some v3 → q_is 0 v3 y3 → Go xs d qM_X12_pass 71 L [] S Q := by
  intro n
  induction n with
  | zero => intro m S L y3 v0 v1 v2 v3; intro E h R l0 f0 l1 f1 l2 f2 l3 f3; cases h
  | succ n ih0 =>
    intro m S L y3 v0 v1 v2 v3; intro E h R l0 f0 l1 f1 l2 f2 l3 f3
    have ih : ∀ mq : MM, Ext mb mq → ∀ {z3 : Int} {Sq : QS} {Lq : QL} {u0 : Value} {u1 : Value} {u2 : Value} {u3 : Value}, fl_X12_pass_71 y1 y2 k90 n z3 mq = some (rz, rm) → Rp Sq mq → q_lo Lq 0 = some u0 → q_is 2 u0 68 → q_lo Lq 1 = some u1 → q_is 0 u1 y1 → q_lo Lq 2 = some u2 → q_is 0 u2 y2 → q_lo Lq 3 = some u3 → q_is 0 u3 z3 → Go xs d qM_X12_pass 71 Lq [] Sq Q := fun mq b => by intros; exact ih0 b ‹_› ‹_› ‹_› ‹_› ‹_› ‹_› ‹_› ‹_› ‹_› ‹_›
    unfold fl_X12_pass_71 at h
    refine go_iload_n (n := 3) (by decide +kernel) l3 f3 ?_
    refine go_aload_n (n := 0) (by decide +kernel) l0 f0 ?_
    obtain ⟨x_136, e_137, h⟩ := lx_s h
    refine go_getf (x := 655) (ci := 13) (kf := 69) (fin := 0) (t := 0) (by decide +kernel) (by decide +kernel) (by decide +kernel) R f0 (fx_k (c := 13) R (by decide +kernel)) fun v_133 f_134 => ?_
    have f_135 := q_is_eq f_134 e_137
    refine go_icmp (c := .ge) (o := 14) (t := 90) (P := ¬ (y3 < x_136)) (by decide +kernel) (by decide +kernel) f3 f_135 (Int.not_lt.symm) (fun hp_138 => ?_) (fun hp_138 => ?_)
    · have h := it_f hp_138 h
      exact hk90 m E h R l0 f0 l1 f1 l2 f2
    · have h := it_n hp_138 h
      refine go_aload_n (n := 0) (by decide +kernel) l0 f0 ?_
      refine go_iload_n (n := 3) (by decide +kernel) l3 f3 ?_
      obtain ⟨x_140, m_141, hc_139, h⟩ := bd_s h
      refine go_callV (x := 658) (mi := 311) (n := 1) (ci := 13) (as := [v3]) (rest := []) (by decide +kernel) (by decide +kernel) rfl rfl (q_sum8 _ (Nat.le_of_ble_eq_true rfl)) R f0 (fx_k (c := 13) R (by decide +kernel)) (om_X12_looksAtSchedule (Nat.le_trans (by decide) hd) R f0 f3 hc_139) (fun _ S_144 q_147 => ?_) (fun _ _ qq => kr_x qq)
      refine kr_v q_147 fun R_145 E_146 => ?_
      have E_148 := Ext.tr E E_146
      refine go_iinc (n := 3) (c := 1) (c' := 1) (by decide +kernel) (by decide +kernel) l3 f3 (by decide) fun L_149 v_150 f_151 l_152 kp_153 => ?_
      obtain ⟨x_154, e_155, h⟩ := lx_s h
      have f_156 := q_is_eq f_151 e_155
      have l_157 := kp_153 0 _ l0 (by decide) (Or.inl (by decide))
      have l_158 := kp_153 1 _ l1 (by decide) (Or.inl (by decide))
      have l_159 := kp_153 2 _ l2 (by decide) (Or.inr (q_is_cat f2 (Or.inl rfl)))
      refine go_goto (o := (-16)) (t := 71) (by decide +kernel) (by decide +kernel) ?_
      exact ih m_141 E_148 h R_145 l_157 f0 l_158 f1 l_159 f2 l_152 f_156
noncomputable def fl_X12_pass_26 (y1 : Int) : Nat → Int → MM → Option (Int × MM)
  | 0, _, _ => none
  | n + 1, y2, m => if y2 < y1 then
lx (m 68 0) fun x_44 =>
up m 68 0 (w32 (x_44 + 1)) fun m_50 =>
fl_X12_pass_43 y1 y2 (fun m_102 =>
bd (fm_X12_fires m_102) fun x_106 m_107 =>
bd (fm_X12_looksAtActivities m_107) fun x_116 m_117 =>
fl_X12_pass_71 y1 y2 (fun m_172 =>
lx (w32 (y2 + 1)) fun x_180 =>
fl_X12_pass_26 y1 n x_180 m_172) BIG 0 m_117) BIG 0 m_50
else
lx (m 68 0) fun x_39 =>
some (x_39, m)
set_option maxHeartbeats 4000000 in
theorem ol_X12_pass_26 {xs : List Int32} {d : Nat} {Q : QO → QS → Prop} {mb : MM} {y1 : Int} {rz : Int} {rm : MM}
  (hd : 8 ≤ d)
  (hQ : Ext mb rm → ∀ o S1, Rp S1 rm → q_out 0 o rz → Q o S1) :
  ∀ (n : Nat) {m : MM} {S : QS} {L : QL} {y2 : Int} {v0 : Value} {v1 : Value} {v2 : Value} , Ext mb m → fl_X12_pass_26 y1 n y2 m = some (rz, rm) → Rp S m → q_lo L 0 = some v0 → q_is 2 v0 68 → q_lo L 1 = some v1 → q_is 0 v1 y1 → q_lo L 2 = some v2 → q_is 0 v2 y2 → Go xs d qM_X12_pass 26 L [] S Q := by
  intro n
  induction n with
  | zero => intro m S L y2 v0 v1 v2; intro E h R l0 f0 l1 f1 l2 f2; cases h
  | succ n ih0 =>
    intro m S L y2 v0 v1 v2; intro E h R l0 f0 l1 f1 l2 f2
    have ih : ∀ mq : MM, Ext mb mq → ∀ {z2 : Int} {Sq : QS} {Lq : QL} {u0 : Value} {u1 : Value} {u2 : Value}, fl_X12_pass_26 y1 n z2 mq = some (rz, rm) → Rp Sq mq → q_lo Lq 0 = some u0 → q_is 2 u0 68 → q_lo Lq 1 = some u1 → q_is 0 u1 y1 → q_lo Lq 2 = some u2 → q_is 0 u2 z2 → Go xs d qM_X12_pass 26 Lq [] Sq Q := fun mq b => by intros; exact ih0 b ‹_› ‹_› ‹_› ‹_› ‹_› ‹_› ‹_› ‹_›
    unfold fl_X12_pass_26 at h
    refine go_iload_n (n := 2) (by decide +kernel) l2 f2 ?_
    refine go_iload_n (n := 1) (by decide +kernel) l1 f1 ?_
    refine go_icmp (c := .ge) (o := 68) (t := 96) (P := ¬ (y2 < y1)) (by decide +kernel) (by decide +kernel) f2 f1 (Int.not_lt.symm) (fun hp_35 => ?_) (fun hp_35 => ?_)
    · have h := it_f hp_35 h
      refine go_aload_n (n := 0) (by decide +kernel) l0 f0 ?_
      obtain ⟨x_39, e_40, h⟩ := lx_s h
      refine go_getf (x := 357) (ci := 13) (kf := 0) (fin := 0) (t := 0) (by decide +kernel) (by decide +kernel) (by decide +kernel) R f0 (fx_k (c := 13) R (by decide +kernel)) fun v_36 f_37 => ?_
      have f_38 := q_is_eq f_37 e_40
      cases h
      exact go_iret (by decide +kernel) rfl (Or.inl rfl) f_38 (hQ E _ _ R (q_out_v (by decide) f_38))
    · have h := it_n hp_35 h
      refine go_aload_n (n := 0) (by decide +kernel) l0 f0 ?_
      refine go_dup (by decide +kernel) f0 (Or.inr rfl) ?_
      obtain ⟨x_44, e_45, h⟩ := lx_s h
      refine go_getf (x := 357) (ci := 13) (kf := 0) (fin := 0) (t := 0) (by decide +kernel) (by decide +kernel) (by decide +kernel) R f0 (fx_k (c := 13) R (by decide +kernel)) fun v_41 f_42 => ?_
      have f_43 := q_is_eq f_42 e_45
      refine go_iconst (n := 1) (z := 1) (by decide +kernel) (by decide) fun v_46 f_47 => ?_
      refine go_iadd (by decide +kernel) f_43 f_47 fun v_48 f_49 => ?_
      obtain ⟨m_50, e_51, h⟩ := up_s h
      refine go_putf (x := 357) (ci := 13) (kf := 0) (fin := 0) (zt := 0) (by decide +kernel) (by decide +kernel) (by decide) (by decide +kernel) (by decide) (Or.inl rfl) R f0 f_49 (fun hq => absurd hq (by decide)) (fx_k (c := 13) R (by decide +kernel)) e_51 (fx_f (j := 0) R.2 (fx_k (c := 13) R (by decide +kernel)) (by decide +kernel)) fun S_52 R_53 E_54 => ?_
      have E_55 := Ext.tr E E_54
      refine go_iconst (n := 0) (z := 0) (by decide +kernel) (by decide) fun v_56 f_57 => ?_
      refine go_istore_n (n := 3) (by decide +kernel) (by decide +kernel) f_57 fun L_58 l_59 kp_60 => ?_
      have l_61 := kp_60 0 _ l0 (by decide) (Or.inl (by decide))
      have l_62 := kp_60 1 _ l1 (by decide) (Or.inl (by decide))
      have l_63 := kp_60 2 _ l2 (by decide) (Or.inr (q_is_cat f2 (Or.inl rfl)))
      refine ol_X12_pass_43 hd  ?_ (fun b => hQ (Ext.tr E_55 b)) BIG (Ext.rf _) h R_53 l_61 f0 l_62 f1 l_63 f2 l_59 f_57
      intro m_102 E_103
      intro S_99 L_100 v_90 v_91 v_92
      intro h R_101 l_93 f_96 l_94 f_97 l_95 f_98
      have E_104 := Ext.tr E_55 E_103
      refine go_aload_n (n := 0) (by decide +kernel) l_93 f_96 ?_
      obtain ⟨x_106, m_107, hc_105, h⟩ := bd_s h
      refine go_callV (x := 649) (mi := 291) (n := 0) (ci := 13) (as := []) (rest := []) (by decide +kernel) (by decide +kernel) rfl rfl (q_sum8 _ (Nat.le_of_ble_eq_true rfl)) R_101 f_96 (fx_k (c := 13) R_101 (by decide +kernel)) (om_X12_fires (Nat.le_trans (by decide) hd) R_101 f_96 hc_105) (fun _ S_110 q_113 => ?_) (fun _ _ qq => kr_x qq)
      refine kr_v q_113 fun R_111 E_112 => ?_
      have E_114 := Ext.tr E_104 E_112
      refine go_aload_n (n := 0) (by decide +kernel) l_93 f_96 ?_
      obtain ⟨x_116, m_117, hc_115, h⟩ := bd_s h
      refine go_callV (x := 652) (mi := 292) (n := 0) (ci := 13) (as := []) (rest := []) (by decide +kernel) (by decide +kernel) rfl rfl (q_sum8 _ (Nat.le_of_ble_eq_true rfl)) R_111 f_96 (fx_k (c := 13) R_111 (by decide +kernel)) (om_X12_looksAtActivities (Nat.le_trans (by decide) hd) R_111 f_96 hc_115) (fun _ S_120 q_123 => ?_) (fun _ _ qq => kr_x qq)
      refine kr_v q_123 fun R_121 E_122 => ?_
      have E_124 := Ext.tr E_114 E_122
      refine go_iconst (n := 0) (z := 0) (by decide +kernel) (by decide) fun v_125 f_126 => ?_
      refine go_istore_n (n := 3) (by decide +kernel) (by decide +kernel) f_126 fun L_127 l_128 kp_129 => ?_
      have l_130 := kp_129 0 _ l_93 (by decide) (Or.inl (by decide))
      have l_131 := kp_129 1 _ l_94 (by decide) (Or.inl (by decide))
      have l_132 := kp_129 2 _ l_95 (by decide) (Or.inr (q_is_cat f_98 (Or.inl rfl)))
      refine ol_X12_pass_71 hd  ?_ (fun b => hQ (Ext.tr E_124 b)) BIG (Ext.rf _) h R_121 l_130 f_96 l_131 f_97 l_132 f_98 l_128 f_126
      intro m_172 E_173
      intro S_169 L_170 v_160 v_161 v_162
      intro h R_171 l_163 f_166 l_164 f_167 l_165 f_168
      have E_174 := Ext.tr E_124 E_173
      refine go_iinc (n := 2) (c := 1) (c' := 1) (by decide +kernel) (by decide +kernel) l_165 f_168 (by decide) fun L_175 v_176 f_177 l_178 kp_179 => ?_
      obtain ⟨x_180, e_181, h⟩ := lx_s h
      have f_182 := q_is_eq f_177 e_181
      have l_183 := kp_179 0 _ l_163 (by decide) (Or.inl (by decide))
      have l_184 := kp_179 1 _ l_164 (by decide) (Or.inr (q_is_cat f_167 (Or.inl rfl)))
      refine go_goto (o := (-67)) (t := 26) (by decide +kernel) (by decide +kernel) ?_
      exact ih m_172 E_174 h R_171 l_183 f_166 l_184 f_167 l_178 f_182
noncomputable def fj_X12_pass_16 (y1 s0 : Int) (m : MM) : Option (Int × MM) := bd (fm_X12_fails s0 m) fun x_18 m_19 =>
if x_18 = 0 then
fl_X12_pass_26 y1  BIG 0 m_19
else
some (0, m_19)
set_option maxHeartbeats 4000000 in
theorem oj_X12_pass_16 {xs : List Int32} {d : Nat} {S : QS} {L : QL} {Q : QO → QS → Prop} {m : MM} {y1 s0 : Int} {v0 : Value} {v1 : Value} {w0 : Value} {w1 : Value}  {rz : Int} {rm : MM}
  (hd : 8 ≤ d) (R : Rp S m) (l0 : q_lo L 0 = some v0) (f0 : q_is 2 v0 68) (l1 : q_lo L 1 = some v1) (f1 : q_is 0 v1 y1) (fs0 : q_is 0 w0 s0) (fs1 : q_is 2 w1 68)
  (hQ : Ext m rm → ∀ o S1, Rp S1 rm → q_out 0 o rz → Q o S1)
  (h : fj_X12_pass_16 y1 s0 m = some (rz, rm)) : Go xs d qM_X12_pass 16 L [w0, w1] S Q := by
  unfold fj_X12_pass_16 at h
  obtain ⟨x_18, m_19, hc_17, h⟩ := bd_s h
  refine go_callV (x := 324) (mi := 186) (n := 1) (ci := 13) (as := [w0]) (rest := []) (by decide +kernel) (by decide +kernel) rfl rfl (q_sum8 _ (Nat.le_of_ble_eq_true rfl)) R fs1 (fx_k (c := 13) R (by decide +kernel)) (om_X12_fails (Nat.le_trans (by decide) hd) R fs1 fs0 hc_17) (fun _ S_22 q_25 => ?_) (fun _ _ qq => kr_x qq)
  refine kr_z (by decide) q_25 fun v_20 f_21 R_23 E_24 => ?_
  have E_26 := E_24
  refine go_if (c := .eq) (o := 5) (t := 24) (P := x_18 = 0) (by decide +kernel) (by decide +kernel) f_21 (Iff.rfl) (fun hp_27 => ?_) (fun hp_27 => ?_)
  · have h := it_t hp_27 h
    refine go_iconst (n := 0) (z := 0) (by decide +kernel) (by decide) fun v_28 f_29 => ?_
    refine go_istore_n (n := 2) (by decide +kernel) (by decide +kernel) f_29 fun L_30 l_31 kp_32 => ?_
    have l_33 := kp_32 0 _ l0 (by decide) (Or.inl (by decide))
    have l_34 := kp_32 1 _ l1 (by decide) (Or.inr (q_is_cat f1 (Or.inl rfl)))
    refine ol_X12_pass_26 hd   (fun b => hQ (Ext.tr E_26 b)) BIG (Ext.rf _) h R_23 l_33 f0 l_34 f1 l_31 f_29
  · have h := it_f hp_27 h
    refine go_iconst (n := 0) (z := 0) (by decide +kernel) (by decide) fun v_185 f_186 => ?_
    cases h
    exact go_iret (by decide +kernel) rfl (Or.inl rfl) f_186 (hQ E_26 _ _ R_23 (q_out_v (by decide) f_186))
noncomputable def fm_X12_pass (p1 : Int) (m0 : MM) : Option (Int × MM) := bp (fm_X12_isIn p1 1 100 m0) fun x_6 =>
if x_6 = 0 then
fj_X12_pass_16 p1 1 m0
else
fj_X12_pass_16 p1 0 m0
set_option maxHeartbeats 4000000 in
theorem om_X12_pass {xs : List Int32} {d : Nat} {S : QS} {m0 : MM} {p1 : Int} {v0 : Value} {v1 : Value} {rz : Int} {rm : MM}
  (hd : 9 ≤ d) (R : Rp S m0) (f0 : q_is 2 v0 68) (f1 : q_is 0 v1 p1)
  (h : fm_X12_pass p1 m0 = some (rz, rm)) : Mt xs d 293 [v0, v1] S (Cr 0 m0 rm rz) := by
  obtain ⟨d, rfl⟩ : ∃ e, d = e + 1 := ⟨d - 1, by omega⟩
  have hd : 8 ≤ d := Nat.le_of_succ_le_succ hd
  refine Mt.of (M := qM_X12_pass) rfl (by rw [sl_1 (q_is_cat f0 (Or.inr rfl)), sl_1 (q_is_cat f1 (Or.inl rfl)), sl_0]; decide) ?_
  rw [la_1 (q_is_cat f0 (Or.inr rfl)), la_1 (q_is_cat f1 (Or.inl rfl)), la_0]
  obtain ⟨L, hL⟩ : ∃ L : QL, L = [(0, v0), (0 + 1, v1)] := ⟨_, rfl⟩
  rw [← hL]
  have l0 : q_lo L 0 = some v0 := by rw [hL]; rfl
  have l1 : q_lo L 1 = some v1 := by rw [hL]; rfl
  have hQ : Ext m0 rm → ∀ o S1, Rp S1 rm → q_out 0 o rz → (Cr 0 m0 rm rz) o S1 := fun a o S1 b e => ⟨b, a, e⟩
  unfold fm_X12_pass at h
  refine go_aload_n (n := 0) (by decide +kernel) l0 f0 ?_
  refine go_iload_n (n := 1) (by decide +kernel) l1 f1 ?_
  refine go_iconst (n := 1) (z := 1) (by decide +kernel) (by decide) fun v_1 f_2 => ?_
  refine go_bipush (n := 100) (z := 100) (by decide +kernel) (by decide) fun v_3 f_4 => ?_
  obtain ⟨x_6, hc_5, h⟩ := bp_s h
  refine go_callS (x := 306) (mi := 188) (n := 3) (b := 0) (as := [v1, v_1, v_3]) (rest := [v0]) (by decide +kernel) (by decide +kernel) rfl rfl (q_sum8 _ (Nat.le_of_ble_eq_true rfl)) (om_X12_isIn (Nat.le_trans (by decide) hd) R f1 f_2 f_4 hc_5) (fun _ S_10 q_13 => ?_) (fun _ _ qq => kr_x qq)
  refine kr_z (by decide) q_13 fun v_8 f_9 R_11 E_12 => ?_
  refine go_if (c := .eq) (o := 7) (t := 15) (P := x_6 = 0) (by decide +kernel) (by decide +kernel) f_9 (Iff.rfl) (fun hp_14 => ?_) (fun hp_14 => ?_)
  · have h := it_t hp_14 h
    refine go_iconst (n := 1) (z := 1) (by decide +kernel) (by decide) fun v_15 f_16 => ?_
    exact oj_X12_pass_16 hd R_11 l0 f0 l1 f1 f_16 f0 hQ h
  · have h := it_f hp_14 h
    refine go_iconst (n := 0) (z := 0) (by decide +kernel) (by decide) fun v_187 f_188 => ?_
    refine go_goto (o := 4) (t := 16) (by decide +kernel) (by decide +kernel) ?_
    exact oj_X12_pass_16 hd R_11 l0 f0 l1 f1 f_188 f0 hQ h
end DF43
