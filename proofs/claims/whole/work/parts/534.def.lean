/-! Methods as functions (written by wip/whole/dec.py), 34: X12_isSafe, X12_makesActivity, X12_makesTimer, X12_removesTimer, X12_stops, X12_drops. -/
section DF34
noncomputable def fm_X12_isSafe (p1 p2 : Int) (m0 : MM) : Option (Int × MM) := gd (0 ≤ p1 ∧ p1 < 30) <| lx (m0 91 p1) fun x_8 =>
lx (m0 86 p1) fun x_22 =>
bd (fm_X12_tellsRun p1 p2 x_8 x_22 x_8 m0) fun x_25 m_26 =>
lx (m_26 68 114) fun x_37 =>
if x_37 = 0 then
some (1, m_26)
else
some (0, m_26)
set_option maxHeartbeats 4000000 in
theorem om_X12_isSafe {xs : List Int32} {d : Nat} {S : QS} {m0 : MM} {p1 p2 : Int} {v0 : Value} {v1 : Value} {v2 : Value} {rz : Int} {rm : MM}
  (hd : 15 ≤ d) (R : Rp S m0) (f0 : q_is 2 v0 68) (f1 : q_is 0 v1 p1) (f2 : q_is 0 v2 p2)
  (h : fm_X12_isSafe p1 p2 m0 = some (rz, rm)) : Mt xs d 250 [v0, v1, v2] S (Cr 0 m0 rm rz) := by
  obtain ⟨d, rfl⟩ : ∃ e, d = e + 1 := ⟨d - 1, by omega⟩
  have hd : 14 ≤ d := Nat.le_of_succ_le_succ hd
  refine Mt.of (M := qM_X12_isSafe) rfl (by rw [sl_1 (q_is_cat f0 (Or.inr rfl)), sl_1 (q_is_cat f1 (Or.inl rfl)), sl_1 (q_is_cat f2 (Or.inl rfl)), sl_0]; decide) ?_
  rw [la_1 (q_is_cat f0 (Or.inr rfl)), la_1 (q_is_cat f1 (Or.inl rfl)), la_1 (q_is_cat f2 (Or.inl rfl)), la_0]
  obtain ⟨L, hL⟩ : ∃ L : QL, L = [(0, v0), (0 + 1, v1), (0 + 1 + 1, v2)] := ⟨_, rfl⟩
  rw [← hL]
  have l0 : q_lo L 0 = some v0 := by rw [hL]; rfl
  have l1 : q_lo L 1 = some v1 := by rw [hL]; rfl
  have l2 : q_lo L 2 = some v2 := by rw [hL]; rfl
  have hQ : Ext m0 rm → ∀ o S1, Rp S1 rm → q_out 0 o rz → (Cr 0 m0 rm rz) o S1 := fun a o S1 b e => ⟨b, a, e⟩
  unfold fm_X12_isSafe at h
  refine go_aload_n (n := 0) (by decide +kernel) l0 f0 ?_
  refine go_getf (x := 76) (ci := 13) (kf := 24) (fin := 1) (t := 2) (by decide +kernel) (by decide +kernel) (by decide +kernel) R f0 (fx_k (c := 13) R (by decide +kernel)) fun v_1 f_2 => ?_
  have f_3 := q_is_eq (b := 91) f_2 (fx_v R (by decide +kernel)).symm
  refine go_iload_n (n := 1) (by decide +kernel) l1 f1 ?_
  obtain ⟨g_6, h⟩ := gd_s h
  obtain ⟨x_8, e_9, h⟩ := lx_s h
  refine go_iald (kd := 100) (by decide +kernel) rfl R f_3 f1 (fx_k (c := 100) R (by decide +kernel)) (fx_x (a := 91) (ln := 30) R (by decide +kernel) g_6) fun v_4 f_5 => ?_
  have f_7 := q_is_eq f_5 e_9
  refine go_istore_n (n := 3) (by decide +kernel) (by decide +kernel) f_7 fun L_10 l_11 kp_12 => ?_
  have l_13 := kp_12 0 _ l0 (by decide) (Or.inl (by decide))
  have l_14 := kp_12 1 _ l1 (by decide) (Or.inl (by decide))
  have l_15 := kp_12 2 _ l2 (by decide) (Or.inr (q_is_cat f2 (Or.inl rfl)))
  refine go_aload_n (n := 0) (by decide +kernel) l_13 f0 ?_
  refine go_iload_n (n := 1) (by decide +kernel) l_14 f1 ?_
  refine go_iload_n (n := 2) (by decide +kernel) l_15 f2 ?_
  refine go_iload_n (n := 3) (by decide +kernel) l_11 f_7 ?_
  refine go_aload_n (n := 0) (by decide +kernel) l_13 f0 ?_
  refine go_getf (x := 61) (ci := 13) (kf := 19) (fin := 1) (t := 2) (by decide +kernel) (by decide +kernel) (by decide +kernel) R f0 (fx_k (c := 13) R (by decide +kernel)) fun v_16 f_17 => ?_
  have f_18 := q_is_eq (b := 86) f_17 (fx_v R (by decide +kernel)).symm
  refine go_iload_n (n := 1) (by decide +kernel) l_14 f1 ?_
  obtain ⟨x_22, e_23, h⟩ := lx_s h
  refine go_iald (kd := 100) (by decide +kernel) rfl R f_18 f1 (fx_k (c := 100) R (by decide +kernel)) (fx_x (a := 86) (ln := 30) R (by decide +kernel) g_6) fun v_19 f_20 => ?_
  have f_21 := q_is_eq f_20 e_23
  refine go_iload_n (n := 3) (by decide +kernel) l_11 f_7 ?_
  obtain ⟨x_25, m_26, hc_24, h⟩ := bd_s h
  refine go_callV (x := 545) (mi := 249) (n := 5) (ci := 13) (as := [v1, v2, v_4, v_19, v_4]) (rest := []) (by decide +kernel) (by decide +kernel) rfl rfl (q_sum8 _ (Nat.le_of_ble_eq_true rfl)) R f0 (fx_k (c := 13) R (by decide +kernel)) (om_X12_tellsRun (Nat.le_trans (by decide) hd) R f0 f1 f2 f_7 f_21 f_7 hc_24) (fun _ S_29 q_32 => ?_) (fun _ _ qq => kr_x qq)
  refine kr_v q_32 fun R_30 E_31 => ?_
  have E_33 := E_31
  refine go_aload_n (n := 0) (by decide +kernel) l_13 f0 ?_
  obtain ⟨x_37, e_38, h⟩ := lx_s h
  refine go_getf (x := 374) (ci := 13) (kf := 114) (fin := 0) (t := 0) (by decide +kernel) (by decide +kernel) (by decide +kernel) R_30 f0 (fx_k (c := 13) R_30 (by decide +kernel)) fun v_34 f_35 => ?_
  have f_36 := q_is_eq f_35 e_38
  refine go_if (c := .ne) (o := 7) (t := 32) (P := ¬ (x_37 = 0)) (by decide +kernel) (by decide +kernel) f_36 (Iff.rfl) (fun hp_39 => ?_) (fun hp_39 => ?_)
  · have h := it_f hp_39 h
    refine go_iconst (n := 0) (z := 0) (by decide +kernel) (by decide) fun v_40 f_41 => ?_
    cases h
    exact go_iret (by decide +kernel) rfl (Or.inr ⟨rfl, by decide⟩) f_41 (hQ E_33 _ _ R_30 (q_out_v (by decide) f_41))
  · have h := it_n hp_39 h
    refine go_iconst (n := 1) (z := 1) (by decide +kernel) (by decide) fun v_42 f_43 => ?_
    refine go_goto (o := 4) (t := 33) (by decide +kernel) (by decide +kernel) ?_
    cases h
    exact go_iret (by decide +kernel) rfl (Or.inr ⟨rfl, by decide⟩) f_43 (hQ E_33 _ _ R_30 (q_out_v (by decide) f_43))
noncomputable def fm_X12_makesActivity (p1 p2 p3 p4 : Int) (m0 : MM) : Option (Int × MM) := lx (m0 68 34) fun x_4 =>
if x_4 = 60 then
bd (fm_X12_puts p1 2 p2 0 m0) fun x_178 m_179 =>
some (0, m_179)
else
gd (0 ≤ x_4 ∧ x_4 < 60) <| up m0 98 x_4 p1 fun m_16 =>
lx (m_16 68 34) fun x_28 =>
gd (0 ≤ x_28 ∧ x_28 < 60) <| up m_16 99 x_28 p2 fun m_31 =>
lx (m_31 68 34) fun x_43 =>
gd (0 ≤ x_43 ∧ x_43 < 60) <| up m_31 100 x_43 p3 fun m_46 =>
lx (m_46 68 34) fun x_58 =>
gd (0 ≤ x_58 ∧ x_58 < 60) <| up m_46 101 x_58 p4 fun m_61 =>
lx (m_61 68 34) fun x_73 =>
gd (0 ≤ x_73 ∧ x_73 < 60) <| up m_61 102 x_73 0 fun m_78 =>
lx (m_78 68 34) fun x_90 =>
gd (0 ≤ x_90 ∧ x_90 < 60) <| up m_78 103 x_90 0 fun m_95 =>
lx (m_95 68 34) fun x_107 =>
lx (m_95 68 0) fun x_112 =>
gd (0 ≤ x_107 ∧ x_107 < 60) <| up m_95 104 x_107 x_112 fun m_115 =>
lx (m_115 68 34) fun x_127 =>
lx (m_115 68 0) fun x_132 =>
gd (0 ≤ x_127 ∧ x_127 < 60) <| up m_115 105 x_127 x_132 fun m_135 =>
lx (m_135 68 34) fun x_147 =>
gd (0 ≤ x_147 ∧ x_147 < 60) <| up m_135 108 x_147 0 fun m_152 =>
lx (m_152 68 34) fun x_161 =>
up m_152 68 34 (w32 (x_161 + 1)) fun m_167 =>
some (0, m_167)
set_option maxHeartbeats 4000000 in
theorem om_X12_makesActivity {xs : List Int32} {d : Nat} {S : QS} {m0 : MM} {p1 p2 p3 p4 : Int} {v0 : Value} {v1 : Value} {v2 : Value} {v3 : Value} {v4 : Value} {rz : Int} {rm : MM}
  (hd : 4 ≤ d) (R : Rp S m0) (f0 : q_is 2 v0 68) (f1 : q_is 0 v1 p1) (f2 : q_is 0 v2 p2) (f3 : q_is 0 v3 p3) (f4 : q_is 0 v4 p4)
  (h : fm_X12_makesActivity p1 p2 p3 p4 m0 = some (rz, rm)) : Mt xs d 251 [v0, v1, v2, v3, v4] S (Cr 9 m0 rm rz) := by
  obtain ⟨d, rfl⟩ : ∃ e, d = e + 1 := ⟨d - 1, by omega⟩
  have hd : 3 ≤ d := Nat.le_of_succ_le_succ hd
  refine Mt.of (M := qM_X12_makesActivity) rfl (by rw [sl_1 (q_is_cat f0 (Or.inr rfl)), sl_1 (q_is_cat f1 (Or.inl rfl)), sl_1 (q_is_cat f2 (Or.inl rfl)), sl_1 (q_is_cat f3 (Or.inl rfl)), sl_1 (q_is_cat f4 (Or.inl rfl)), sl_0]; decide) ?_
  rw [la_1 (q_is_cat f0 (Or.inr rfl)), la_1 (q_is_cat f1 (Or.inl rfl)), la_1 (q_is_cat f2 (Or.inl rfl)), la_1 (q_is_cat f3 (Or.inl rfl)), la_1 (q_is_cat f4 (Or.inl rfl)), la_0]
  obtain ⟨L, hL⟩ : ∃ L : QL, L = [(0, v0), (0 + 1, v1), (0 + 1 + 1, v2), (0 + 1 + 1 + 1, v3), (0 + 1 + 1 + 1 + 1, v4)] := ⟨_, rfl⟩
  rw [← hL]
  have l0 : q_lo L 0 = some v0 := by rw [hL]; rfl
  have l1 : q_lo L 1 = some v1 := by rw [hL]; rfl
  have l2 : q_lo L 2 = some v2 := by rw [hL]; rfl
  have l3 : q_lo L 3 = some v3 := by rw [hL]; rfl
  have l4 : q_lo L 4 = some v4 := by rw [hL]; rfl
  have hQ : Ext m0 rm → ∀ o S1, Rp S1 rm → q_out 9 o rz → (Cr 9 m0 rm rz) o S1 := fun a o S1 b e => ⟨b, a, e⟩
  unfold fm_X12_makesActivity at h
  refine go_aload_n (n := 0) (by decide +kernel) l0 f0 ?_
  obtain ⟨x_4, e_5, h⟩ := lx_s h
  refine go_getf (x := 549) (ci := 13) (kf := 34) (fin := 0) (t := 0) (by decide +kernel) (by decide +kernel) (by decide +kernel) R f0 (fx_k (c := 13) R (by decide +kernel)) fun v_1 f_2 => ?_
  have f_3 := q_is_eq f_2 e_5
  refine go_bipush (n := 60) (z := 60) (by decide +kernel) (by decide) fun v_6 f_7 => ?_
  refine go_icmp (c := .ne) (o := 13) (t := 19) (P := ¬ (x_4 = 60)) (by decide +kernel) (by decide +kernel) f_3 f_7 (Iff.rfl) (fun hp_8 => ?_) (fun hp_8 => ?_)
  · have h := it_f hp_8 h
    refine go_aload_n (n := 0) (by decide +kernel) l0 f0 ?_
    refine go_getf (x := 104) (ci := 13) (kf := 35) (fin := 1) (t := 2) (by decide +kernel) (by decide +kernel) (by decide +kernel) R f0 (fx_k (c := 13) R (by decide +kernel)) fun v_9 f_10 => ?_
    have f_11 := q_is_eq (b := 98) f_10 (fx_v R (by decide +kernel)).symm
    refine go_aload_n (n := 0) (by decide +kernel) l0 f0 ?_
    refine go_getf (x := 549) (ci := 13) (kf := 34) (fin := 0) (t := 0) (by decide +kernel) (by decide +kernel) (by decide +kernel) R f0 (fx_k (c := 13) R (by decide +kernel)) fun v_12 f_13 => ?_
    have f_14 := q_is_eq f_13 e_5
    refine go_iload_n (n := 1) (by decide +kernel) l1 f1 ?_
    obtain ⟨g_15, h⟩ := gd_s h
    obtain ⟨m_16, e_17, h⟩ := up_s h
    refine go_iast (kd := 100) (by decide +kernel) rfl R f_11 f_14 f1 (fx_k (c := 100) R (by decide +kernel)) (fx_x (a := 98) (ln := 60) R (by decide +kernel) g_15) e_17 (fx_a R.2 (fx_k (c := 100) R (by decide +kernel)) (And.left (fx_x (a := 98) (ln := 60) R (by decide +kernel) g_15)) (by decide +kernel)) fun S_18 R_19 E_20 => ?_
    have E_21 := E_20
    refine go_aload_n (n := 0) (by decide +kernel) l0 f0 ?_
    refine go_getf (x := 107) (ci := 13) (kf := 36) (fin := 1) (t := 2) (by decide +kernel) (by decide +kernel) (by decide +kernel) R_19 f0 (fx_k (c := 13) R_19 (by decide +kernel)) fun v_22 f_23 => ?_
    have f_24 := q_is_eq (b := 99) f_23 (fx_v R_19 (by decide +kernel)).symm
    refine go_aload_n (n := 0) (by decide +kernel) l0 f0 ?_
    obtain ⟨x_28, e_29, h⟩ := lx_s h
    refine go_getf (x := 549) (ci := 13) (kf := 34) (fin := 0) (t := 0) (by decide +kernel) (by decide +kernel) (by decide +kernel) R_19 f0 (fx_k (c := 13) R_19 (by decide +kernel)) fun v_25 f_26 => ?_
    have f_27 := q_is_eq f_26 e_29
    refine go_iload_n (n := 2) (by decide +kernel) l2 f2 ?_
    obtain ⟨g_30, h⟩ := gd_s h
    obtain ⟨m_31, e_32, h⟩ := up_s h
    refine go_iast (kd := 100) (by decide +kernel) rfl R_19 f_24 f_27 f2 (fx_k (c := 100) R_19 (by decide +kernel)) (fx_x (a := 99) (ln := 60) R_19 (by decide +kernel) g_30) e_32 (fx_a R_19.2 (fx_k (c := 100) R_19 (by decide +kernel)) (And.left (fx_x (a := 99) (ln := 60) R_19 (by decide +kernel) g_30)) (by decide +kernel)) fun S_33 R_34 E_35 => ?_
    have E_36 := Ext.tr E_21 E_35
    refine go_aload_n (n := 0) (by decide +kernel) l0 f0 ?_
    refine go_getf (x := 110) (ci := 13) (kf := 37) (fin := 1) (t := 2) (by decide +kernel) (by decide +kernel) (by decide +kernel) R_34 f0 (fx_k (c := 13) R_34 (by decide +kernel)) fun v_37 f_38 => ?_
    have f_39 := q_is_eq (b := 100) f_38 (fx_v R_34 (by decide +kernel)).symm
    refine go_aload_n (n := 0) (by decide +kernel) l0 f0 ?_
    obtain ⟨x_43, e_44, h⟩ := lx_s h
    refine go_getf (x := 549) (ci := 13) (kf := 34) (fin := 0) (t := 0) (by decide +kernel) (by decide +kernel) (by decide +kernel) R_34 f0 (fx_k (c := 13) R_34 (by decide +kernel)) fun v_40 f_41 => ?_
    have f_42 := q_is_eq f_41 e_44
    refine go_iload_n (n := 3) (by decide +kernel) l3 f3 ?_
    obtain ⟨g_45, h⟩ := gd_s h
    obtain ⟨m_46, e_47, h⟩ := up_s h
    refine go_iast (kd := 100) (by decide +kernel) rfl R_34 f_39 f_42 f3 (fx_k (c := 100) R_34 (by decide +kernel)) (fx_x (a := 100) (ln := 60) R_34 (by decide +kernel) g_45) e_47 (fx_a R_34.2 (fx_k (c := 100) R_34 (by decide +kernel)) (And.left (fx_x (a := 100) (ln := 60) R_34 (by decide +kernel) g_45)) (by decide +kernel)) fun S_48 R_49 E_50 => ?_
    have E_51 := Ext.tr E_36 E_50
    refine go_aload_n (n := 0) (by decide +kernel) l0 f0 ?_
    refine go_getf (x := 113) (ci := 13) (kf := 38) (fin := 1) (t := 2) (by decide +kernel) (by decide +kernel) (by decide +kernel) R_49 f0 (fx_k (c := 13) R_49 (by decide +kernel)) fun v_52 f_53 => ?_
    have f_54 := q_is_eq (b := 101) f_53 (fx_v R_49 (by decide +kernel)).symm
    refine go_aload_n (n := 0) (by decide +kernel) l0 f0 ?_
    obtain ⟨x_58, e_59, h⟩ := lx_s h
    refine go_getf (x := 549) (ci := 13) (kf := 34) (fin := 0) (t := 0) (by decide +kernel) (by decide +kernel) (by decide +kernel) R_49 f0 (fx_k (c := 13) R_49 (by decide +kernel)) fun v_55 f_56 => ?_
    have f_57 := q_is_eq f_56 e_59
    refine go_iload (n := 4) (by decide +kernel) l4 f4 ?_
    obtain ⟨g_60, h⟩ := gd_s h
    obtain ⟨m_61, e_62, h⟩ := up_s h
    refine go_iast (kd := 100) (by decide +kernel) rfl R_49 f_54 f_57 f4 (fx_k (c := 100) R_49 (by decide +kernel)) (fx_x (a := 101) (ln := 60) R_49 (by decide +kernel) g_60) e_62 (fx_a R_49.2 (fx_k (c := 100) R_49 (by decide +kernel)) (And.left (fx_x (a := 101) (ln := 60) R_49 (by decide +kernel) g_60)) (by decide +kernel)) fun S_63 R_64 E_65 => ?_
    have E_66 := Ext.tr E_51 E_65
    refine go_aload_n (n := 0) (by decide +kernel) l0 f0 ?_
    refine go_getf (x := 116) (ci := 13) (kf := 39) (fin := 1) (t := 2) (by decide +kernel) (by decide +kernel) (by decide +kernel) R_64 f0 (fx_k (c := 13) R_64 (by decide +kernel)) fun v_67 f_68 => ?_
    have f_69 := q_is_eq (b := 102) f_68 (fx_v R_64 (by decide +kernel)).symm
    refine go_aload_n (n := 0) (by decide +kernel) l0 f0 ?_
    obtain ⟨x_73, e_74, h⟩ := lx_s h
    refine go_getf (x := 549) (ci := 13) (kf := 34) (fin := 0) (t := 0) (by decide +kernel) (by decide +kernel) (by decide +kernel) R_64 f0 (fx_k (c := 13) R_64 (by decide +kernel)) fun v_70 f_71 => ?_
    have f_72 := q_is_eq f_71 e_74
    refine go_iconst (n := 0) (z := 0) (by decide +kernel) (by decide) fun v_75 f_76 => ?_
    obtain ⟨g_77, h⟩ := gd_s h
    obtain ⟨m_78, e_79, h⟩ := up_s h
    refine go_iast (kd := 100) (by decide +kernel) rfl R_64 f_69 f_72 f_76 (fx_k (c := 100) R_64 (by decide +kernel)) (fx_x (a := 102) (ln := 60) R_64 (by decide +kernel) g_77) e_79 (fx_a R_64.2 (fx_k (c := 100) R_64 (by decide +kernel)) (And.left (fx_x (a := 102) (ln := 60) R_64 (by decide +kernel) g_77)) (by decide +kernel)) fun S_80 R_81 E_82 => ?_
    have E_83 := Ext.tr E_66 E_82
    refine go_aload_n (n := 0) (by decide +kernel) l0 f0 ?_
    refine go_getf (x := 119) (ci := 13) (kf := 40) (fin := 1) (t := 2) (by decide +kernel) (by decide +kernel) (by decide +kernel) R_81 f0 (fx_k (c := 13) R_81 (by decide +kernel)) fun v_84 f_85 => ?_
    have f_86 := q_is_eq (b := 103) f_85 (fx_v R_81 (by decide +kernel)).symm
    refine go_aload_n (n := 0) (by decide +kernel) l0 f0 ?_
    obtain ⟨x_90, e_91, h⟩ := lx_s h
    refine go_getf (x := 549) (ci := 13) (kf := 34) (fin := 0) (t := 0) (by decide +kernel) (by decide +kernel) (by decide +kernel) R_81 f0 (fx_k (c := 13) R_81 (by decide +kernel)) fun v_87 f_88 => ?_
    have f_89 := q_is_eq f_88 e_91
    refine go_iconst (n := 0) (z := 0) (by decide +kernel) (by decide) fun v_92 f_93 => ?_
    obtain ⟨g_94, h⟩ := gd_s h
    obtain ⟨m_95, e_96, h⟩ := up_s h
    refine go_iast (kd := 100) (by decide +kernel) rfl R_81 f_86 f_89 f_93 (fx_k (c := 100) R_81 (by decide +kernel)) (fx_x (a := 103) (ln := 60) R_81 (by decide +kernel) g_94) e_96 (fx_a R_81.2 (fx_k (c := 100) R_81 (by decide +kernel)) (And.left (fx_x (a := 103) (ln := 60) R_81 (by decide +kernel) g_94)) (by decide +kernel)) fun S_97 R_98 E_99 => ?_
    have E_100 := Ext.tr E_83 E_99
    refine go_aload_n (n := 0) (by decide +kernel) l0 f0 ?_
    refine go_getf (x := 122) (ci := 13) (kf := 41) (fin := 1) (t := 2) (by decide +kernel) (by decide +kernel) (by decide +kernel) R_98 f0 (fx_k (c := 13) R_98 (by decide +kernel)) fun v_101 f_102 => ?_
    have f_103 := q_is_eq (b := 104) f_102 (fx_v R_98 (by decide +kernel)).symm
    refine go_aload_n (n := 0) (by decide +kernel) l0 f0 ?_
    obtain ⟨x_107, e_108, h⟩ := lx_s h
    refine go_getf (x := 549) (ci := 13) (kf := 34) (fin := 0) (t := 0) (by decide +kernel) (by decide +kernel) (by decide +kernel) R_98 f0 (fx_k (c := 13) R_98 (by decide +kernel)) fun v_104 f_105 => ?_
    have f_106 := q_is_eq f_105 e_108
    refine go_aload_n (n := 0) (by decide +kernel) l0 f0 ?_
    obtain ⟨x_112, e_113, h⟩ := lx_s h
    refine go_getf (x := 357) (ci := 13) (kf := 0) (fin := 0) (t := 0) (by decide +kernel) (by decide +kernel) (by decide +kernel) R_98 f0 (fx_k (c := 13) R_98 (by decide +kernel)) fun v_109 f_110 => ?_
    have f_111 := q_is_eq f_110 e_113
    obtain ⟨g_114, h⟩ := gd_s h
    obtain ⟨m_115, e_116, h⟩ := up_s h
    refine go_iast (kd := 100) (by decide +kernel) rfl R_98 f_103 f_106 f_111 (fx_k (c := 100) R_98 (by decide +kernel)) (fx_x (a := 104) (ln := 60) R_98 (by decide +kernel) g_114) e_116 (fx_a R_98.2 (fx_k (c := 100) R_98 (by decide +kernel)) (And.left (fx_x (a := 104) (ln := 60) R_98 (by decide +kernel) g_114)) (by decide +kernel)) fun S_117 R_118 E_119 => ?_
    have E_120 := Ext.tr E_100 E_119
    refine go_aload_n (n := 0) (by decide +kernel) l0 f0 ?_
    refine go_getf (x := 125) (ci := 13) (kf := 42) (fin := 1) (t := 2) (by decide +kernel) (by decide +kernel) (by decide +kernel) R_118 f0 (fx_k (c := 13) R_118 (by decide +kernel)) fun v_121 f_122 => ?_
    have f_123 := q_is_eq (b := 105) f_122 (fx_v R_118 (by decide +kernel)).symm
    refine go_aload_n (n := 0) (by decide +kernel) l0 f0 ?_
    obtain ⟨x_127, e_128, h⟩ := lx_s h
    refine go_getf (x := 549) (ci := 13) (kf := 34) (fin := 0) (t := 0) (by decide +kernel) (by decide +kernel) (by decide +kernel) R_118 f0 (fx_k (c := 13) R_118 (by decide +kernel)) fun v_124 f_125 => ?_
    have f_126 := q_is_eq f_125 e_128
    refine go_aload_n (n := 0) (by decide +kernel) l0 f0 ?_
    obtain ⟨x_132, e_133, h⟩ := lx_s h
    refine go_getf (x := 357) (ci := 13) (kf := 0) (fin := 0) (t := 0) (by decide +kernel) (by decide +kernel) (by decide +kernel) R_118 f0 (fx_k (c := 13) R_118 (by decide +kernel)) fun v_129 f_130 => ?_
    have f_131 := q_is_eq f_130 e_133
    obtain ⟨g_134, h⟩ := gd_s h
    obtain ⟨m_135, e_136, h⟩ := up_s h
    refine go_iast (kd := 100) (by decide +kernel) rfl R_118 f_123 f_126 f_131 (fx_k (c := 100) R_118 (by decide +kernel)) (fx_x (a := 105) (ln := 60) R_118 (by decide +kernel) g_134) e_136 (fx_a R_118.2 (fx_k (c := 100) R_118 (by decide +kernel)) (And.left (fx_x (a := 105) (ln := 60) R_118 (by decide +kernel) g_134)) (by decide +kernel)) fun S_137 R_138 E_139 => ?_
    have E_140 := Ext.tr E_120 E_139
    refine go_aload_n (n := 0) (by decide +kernel) l0 f0 ?_
    refine go_getf (x := 134) (ci := 13) (kf := 45) (fin := 1) (t := 2) (by decide +kernel) (by decide +kernel) (by decide +kernel) R_138 f0 (fx_k (c := 13) R_138 (by decide +kernel)) fun v_141 f_142 => ?_
    have f_143 := q_is_eq (b := 108) f_142 (fx_v R_138 (by decide +kernel)).symm
    refine go_aload_n (n := 0) (by decide +kernel) l0 f0 ?_
    obtain ⟨x_147, e_148, h⟩ := lx_s h
    refine go_getf (x := 549) (ci := 13) (kf := 34) (fin := 0) (t := 0) (by decide +kernel) (by decide +kernel) (by decide +kernel) R_138 f0 (fx_k (c := 13) R_138 (by decide +kernel)) fun v_144 f_145 => ?_
    have f_146 := q_is_eq f_145 e_148
    refine go_iconst (n := 0) (z := 0) (by decide +kernel) (by decide) fun v_149 f_150 => ?_
    obtain ⟨g_151, h⟩ := gd_s h
    obtain ⟨m_152, e_153, h⟩ := up_s h
    refine go_iast (kd := 100) (by decide +kernel) rfl R_138 f_143 f_146 f_150 (fx_k (c := 100) R_138 (by decide +kernel)) (fx_x (a := 108) (ln := 60) R_138 (by decide +kernel) g_151) e_153 (fx_a R_138.2 (fx_k (c := 100) R_138 (by decide +kernel)) (And.left (fx_x (a := 108) (ln := 60) R_138 (by decide +kernel) g_151)) (by decide +kernel)) fun S_154 R_155 E_156 => ?_
    have E_157 := Ext.tr E_140 E_156
    refine go_aload_n (n := 0) (by decide +kernel) l0 f0 ?_
    refine go_dup (by decide +kernel) f0 (Or.inr rfl) ?_
    obtain ⟨x_161, e_162, h⟩ := lx_s h
    refine go_getf (x := 549) (ci := 13) (kf := 34) (fin := 0) (t := 0) (by decide +kernel) (by decide +kernel) (by decide +kernel) R_155 f0 (fx_k (c := 13) R_155 (by decide +kernel)) fun v_158 f_159 => ?_
    have f_160 := q_is_eq f_159 e_162
    refine go_iconst (n := 1) (z := 1) (by decide +kernel) (by decide) fun v_163 f_164 => ?_
    refine go_iadd (by decide +kernel) f_160 f_164 fun v_165 f_166 => ?_
    obtain ⟨m_167, e_168, h⟩ := up_s h
    refine go_putf (x := 549) (ci := 13) (kf := 34) (fin := 0) (zt := 0) (by decide +kernel) (by decide +kernel) (by decide) (by decide +kernel) (by decide) (Or.inl rfl) R_155 f0 f_166 (fun hq => absurd hq (by decide)) (fx_k (c := 13) R_155 (by decide +kernel)) e_168 (fx_f (j := 34) R_155.2 (fx_k (c := 13) R_155 (by decide +kernel)) (by decide +kernel)) fun S_169 R_170 E_171 => ?_
    have E_172 := Ext.tr E_157 E_171
    cases h
    exact go_vret (by decide +kernel) rfl (hQ E_172 _ _ R_170 q_out_n)
  · have h := it_n hp_8 h
    refine go_aload_n (n := 0) (by decide +kernel) l0 f0 ?_
    refine go_iload_n (n := 1) (by decide +kernel) l1 f1 ?_
    refine go_iconst (n := 2) (z := 2) (by decide +kernel) (by decide) fun v_173 f_174 => ?_
    refine go_iload_n (n := 2) (by decide +kernel) l2 f2 ?_
    refine go_iconst (n := 0) (z := 0) (by decide +kernel) (by decide) fun v_175 f_176 => ?_
    obtain ⟨x_178, m_179, hc_177, h⟩ := bd_s h
    refine go_callV (x := 360) (mi := 210) (n := 4) (ci := 13) (as := [v1, v_173, v2, v_175]) (rest := []) (by decide +kernel) (by decide +kernel) rfl rfl (q_sum8 _ (Nat.le_of_ble_eq_true rfl)) R f0 (fx_k (c := 13) R (by decide +kernel)) (om_X12_puts (Nat.le_trans (by decide) hd) R f0 f1 f_174 f2 f_176 hc_177) (fun _ S_182 q_185 => ?_) (fun _ _ qq => kr_x qq)
    refine kr_z (by decide) q_185 fun v_180 f_181 R_183 E_184 => ?_
    have E_186 := E_184
    refine go_pop (by decide +kernel) f_181 (Or.inl rfl) ?_
    cases h
    exact go_vret (by decide +kernel) rfl (hQ E_186 _ _ R_183 q_out_n)
noncomputable def fm_X12_makesTimer (p1 p2 p3 : Int) (m0 : MM) : Option (Int × MM) := lx (m0 68 46) fun x_7 =>
gd (0 ≤ x_7 ∧ x_7 < 512) <| up m0 109 x_7 p1 fun m_10 =>
lx (m_10 68 46) fun x_22 =>
gd (0 ≤ x_22 ∧ x_22 < 512) <| up m_10 110 x_22 p2 fun m_25 =>
lx (m_25 68 46) fun x_37 =>
gd (0 ≤ x_37 ∧ x_37 < 512) <| up m_25 111 x_37 p3 fun m_40 =>
lx (m_40 68 46) fun x_49 =>
up m_40 68 46 (w32 (x_49 + 1)) fun m_55 =>
some (0, m_55)
set_option maxHeartbeats 4000000 in
theorem om_X12_makesTimer {xs : List Int32} {d : Nat} {S : QS} {m0 : MM} {p1 p2 p3 : Int} {v0 : Value} {v1 : Value} {v2 : Value} {v3 : Value} {rz : Int} {rm : MM}
  (hd : 1 ≤ d) (R : Rp S m0) (f0 : q_is 2 v0 68) (f1 : q_is 0 v1 p1) (f2 : q_is 0 v2 p2) (f3 : q_is 0 v3 p3)
  (h : fm_X12_makesTimer p1 p2 p3 m0 = some (rz, rm)) : Mt xs d 252 [v0, v1, v2, v3] S (Cr 9 m0 rm rz) := by
  obtain ⟨d, rfl⟩ : ∃ e, d = e + 1 := ⟨d - 1, by omega⟩
  have hd : 0 ≤ d := Nat.le_of_succ_le_succ hd
  refine Mt.of (M := qM_X12_makesTimer) rfl (by rw [sl_1 (q_is_cat f0 (Or.inr rfl)), sl_1 (q_is_cat f1 (Or.inl rfl)), sl_1 (q_is_cat f2 (Or.inl rfl)), sl_1 (q_is_cat f3 (Or.inl rfl)), sl_0]; decide) ?_
  rw [la_1 (q_is_cat f0 (Or.inr rfl)), la_1 (q_is_cat f1 (Or.inl rfl)), la_1 (q_is_cat f2 (Or.inl rfl)), la_1 (q_is_cat f3 (Or.inl rfl)), la_0]
  obtain ⟨L, hL⟩ : ∃ L : QL, L = [(0, v0), (0 + 1, v1), (0 + 1 + 1, v2), (0 + 1 + 1 + 1, v3)] := ⟨_, rfl⟩
  rw [← hL]
  have l0 : q_lo L 0 = some v0 := by rw [hL]; rfl
  have l1 : q_lo L 1 = some v1 := by rw [hL]; rfl
  have l2 : q_lo L 2 = some v2 := by rw [hL]; rfl
  have l3 : q_lo L 3 = some v3 := by rw [hL]; rfl
  have hQ : Ext m0 rm → ∀ o S1, Rp S1 rm → q_out 9 o rz → (Cr 9 m0 rm rz) o S1 := fun a o S1 b e => ⟨b, a, e⟩
  unfold fm_X12_makesTimer at h
  refine go_aload_n (n := 0) (by decide +kernel) l0 f0 ?_
  refine go_getf (x := 137) (ci := 13) (kf := 47) (fin := 1) (t := 2) (by decide +kernel) (by decide +kernel) (by decide +kernel) R f0 (fx_k (c := 13) R (by decide +kernel)) fun v_1 f_2 => ?_
  have f_3 := q_is_eq (b := 109) f_2 (fx_v R (by decide +kernel)).symm
  refine go_aload_n (n := 0) (by decide +kernel) l0 f0 ?_
  obtain ⟨x_7, e_8, h⟩ := lx_s h
  refine go_getf (x := 552) (ci := 13) (kf := 46) (fin := 0) (t := 0) (by decide +kernel) (by decide +kernel) (by decide +kernel) R f0 (fx_k (c := 13) R (by decide +kernel)) fun v_4 f_5 => ?_
  have f_6 := q_is_eq f_5 e_8
  refine go_iload_n (n := 1) (by decide +kernel) l1 f1 ?_
  obtain ⟨g_9, h⟩ := gd_s h
  obtain ⟨m_10, e_11, h⟩ := up_s h
  refine go_iast (kd := 100) (by decide +kernel) rfl R f_3 f_6 f1 (fx_k (c := 100) R (by decide +kernel)) (fx_x (a := 109) (ln := 512) R (by decide +kernel) g_9) e_11 (fx_a R.2 (fx_k (c := 100) R (by decide +kernel)) (And.left (fx_x (a := 109) (ln := 512) R (by decide +kernel) g_9)) (by decide +kernel)) fun S_12 R_13 E_14 => ?_
  have E_15 := E_14
  refine go_aload_n (n := 0) (by decide +kernel) l0 f0 ?_
  refine go_getf (x := 140) (ci := 13) (kf := 48) (fin := 1) (t := 2) (by decide +kernel) (by decide +kernel) (by decide +kernel) R_13 f0 (fx_k (c := 13) R_13 (by decide +kernel)) fun v_16 f_17 => ?_
  have f_18 := q_is_eq (b := 110) f_17 (fx_v R_13 (by decide +kernel)).symm
  refine go_aload_n (n := 0) (by decide +kernel) l0 f0 ?_
  obtain ⟨x_22, e_23, h⟩ := lx_s h
  refine go_getf (x := 552) (ci := 13) (kf := 46) (fin := 0) (t := 0) (by decide +kernel) (by decide +kernel) (by decide +kernel) R_13 f0 (fx_k (c := 13) R_13 (by decide +kernel)) fun v_19 f_20 => ?_
  have f_21 := q_is_eq f_20 e_23
  refine go_iload_n (n := 2) (by decide +kernel) l2 f2 ?_
  obtain ⟨g_24, h⟩ := gd_s h
  obtain ⟨m_25, e_26, h⟩ := up_s h
  refine go_iast (kd := 100) (by decide +kernel) rfl R_13 f_18 f_21 f2 (fx_k (c := 100) R_13 (by decide +kernel)) (fx_x (a := 110) (ln := 512) R_13 (by decide +kernel) g_24) e_26 (fx_a R_13.2 (fx_k (c := 100) R_13 (by decide +kernel)) (And.left (fx_x (a := 110) (ln := 512) R_13 (by decide +kernel) g_24)) (by decide +kernel)) fun S_27 R_28 E_29 => ?_
  have E_30 := Ext.tr E_15 E_29
  refine go_aload_n (n := 0) (by decide +kernel) l0 f0 ?_
  refine go_getf (x := 143) (ci := 13) (kf := 49) (fin := 1) (t := 2) (by decide +kernel) (by decide +kernel) (by decide +kernel) R_28 f0 (fx_k (c := 13) R_28 (by decide +kernel)) fun v_31 f_32 => ?_
  have f_33 := q_is_eq (b := 111) f_32 (fx_v R_28 (by decide +kernel)).symm
  refine go_aload_n (n := 0) (by decide +kernel) l0 f0 ?_
  obtain ⟨x_37, e_38, h⟩ := lx_s h
  refine go_getf (x := 552) (ci := 13) (kf := 46) (fin := 0) (t := 0) (by decide +kernel) (by decide +kernel) (by decide +kernel) R_28 f0 (fx_k (c := 13) R_28 (by decide +kernel)) fun v_34 f_35 => ?_
  have f_36 := q_is_eq f_35 e_38
  refine go_iload_n (n := 3) (by decide +kernel) l3 f3 ?_
  obtain ⟨g_39, h⟩ := gd_s h
  obtain ⟨m_40, e_41, h⟩ := up_s h
  refine go_iast (kd := 100) (by decide +kernel) rfl R_28 f_33 f_36 f3 (fx_k (c := 100) R_28 (by decide +kernel)) (fx_x (a := 111) (ln := 512) R_28 (by decide +kernel) g_39) e_41 (fx_a R_28.2 (fx_k (c := 100) R_28 (by decide +kernel)) (And.left (fx_x (a := 111) (ln := 512) R_28 (by decide +kernel) g_39)) (by decide +kernel)) fun S_42 R_43 E_44 => ?_
  have E_45 := Ext.tr E_30 E_44
  refine go_aload_n (n := 0) (by decide +kernel) l0 f0 ?_
  refine go_dup (by decide +kernel) f0 (Or.inr rfl) ?_
  obtain ⟨x_49, e_50, h⟩ := lx_s h
  refine go_getf (x := 552) (ci := 13) (kf := 46) (fin := 0) (t := 0) (by decide +kernel) (by decide +kernel) (by decide +kernel) R_43 f0 (fx_k (c := 13) R_43 (by decide +kernel)) fun v_46 f_47 => ?_
  have f_48 := q_is_eq f_47 e_50
  refine go_iconst (n := 1) (z := 1) (by decide +kernel) (by decide) fun v_51 f_52 => ?_
  refine go_iadd (by decide +kernel) f_48 f_52 fun v_53 f_54 => ?_
  obtain ⟨m_55, e_56, h⟩ := up_s h
  refine go_putf (x := 552) (ci := 13) (kf := 46) (fin := 0) (zt := 0) (by decide +kernel) (by decide +kernel) (by decide) (by decide +kernel) (by decide) (Or.inl rfl) R_43 f0 f_54 (fun hq => absurd hq (by decide)) (fx_k (c := 13) R_43 (by decide +kernel)) e_56 (fx_f (j := 46) R_43.2 (fx_k (c := 13) R_43 (by decide +kernel)) (by decide +kernel)) fun S_57 R_58 E_59 => ?_
  have E_60 := Ext.tr E_45 E_59
  cases h
  exact go_vret (by decide +kernel) rfl (hQ E_60 _ _ R_58 q_out_n)
noncomputable def fm_X12_removesTimer (p1 : Int) (m0 : MM) : Option (Int × MM) := lx (m0 68 46) fun x_4 =>
up m0 68 46 (w32 (x_4 - 1)) fun m_10 =>
lx (m_10 68 46) fun x_25 =>
gd (0 ≤ x_25 ∧ x_25 < 512) <| lx (m_10 109 x_25) fun x_31 =>
gd (0 ≤ p1 ∧ p1 < 512) <| up m_10 109 p1 x_31 fun m_34 =>
lx (m_34 68 46) fun x_49 =>
gd (0 ≤ x_49 ∧ x_49 < 512) <| lx (m_34 110 x_49) fun x_55 =>
up m_34 110 p1 x_55 fun m_57 =>
lx (m_57 68 46) fun x_72 =>
gd (0 ≤ x_72 ∧ x_72 < 512) <| lx (m_57 111 x_72) fun x_78 =>
up m_57 111 p1 x_78 fun m_80 =>
some (0, m_80)
set_option maxHeartbeats 4000000 in
theorem om_X12_removesTimer {xs : List Int32} {d : Nat} {S : QS} {m0 : MM} {p1 : Int} {v0 : Value} {v1 : Value} {rz : Int} {rm : MM}
  (hd : 1 ≤ d) (R : Rp S m0) (f0 : q_is 2 v0 68) (f1 : q_is 0 v1 p1)
  (h : fm_X12_removesTimer p1 m0 = some (rz, rm)) : Mt xs d 253 [v0, v1] S (Cr 9 m0 rm rz) := by
  obtain ⟨d, rfl⟩ : ∃ e, d = e + 1 := ⟨d - 1, by omega⟩
  have hd : 0 ≤ d := Nat.le_of_succ_le_succ hd
  refine Mt.of (M := qM_X12_removesTimer) rfl (by rw [sl_1 (q_is_cat f0 (Or.inr rfl)), sl_1 (q_is_cat f1 (Or.inl rfl)), sl_0]; decide) ?_
  rw [la_1 (q_is_cat f0 (Or.inr rfl)), la_1 (q_is_cat f1 (Or.inl rfl)), la_0]
  obtain ⟨L, hL⟩ : ∃ L : QL, L = [(0, v0), (0 + 1, v1)] := ⟨_, rfl⟩
  rw [← hL]
  have l0 : q_lo L 0 = some v0 := by rw [hL]; rfl
  have l1 : q_lo L 1 = some v1 := by rw [hL]; rfl
  have hQ : Ext m0 rm → ∀ o S1, Rp S1 rm → q_out 9 o rz → (Cr 9 m0 rm rz) o S1 := fun a o S1 b e => ⟨b, a, e⟩
  unfold fm_X12_removesTimer at h
  refine go_aload_n (n := 0) (by decide +kernel) l0 f0 ?_
  refine go_dup (by decide +kernel) f0 (Or.inr rfl) ?_
  obtain ⟨x_4, e_5, h⟩ := lx_s h
  refine go_getf (x := 552) (ci := 13) (kf := 46) (fin := 0) (t := 0) (by decide +kernel) (by decide +kernel) (by decide +kernel) R f0 (fx_k (c := 13) R (by decide +kernel)) fun v_1 f_2 => ?_
  have f_3 := q_is_eq f_2 e_5
  refine go_iconst (n := 1) (z := 1) (by decide +kernel) (by decide) fun v_6 f_7 => ?_
  refine go_isub (by decide +kernel) f_3 f_7 fun v_8 f_9 => ?_
  obtain ⟨m_10, e_11, h⟩ := up_s h
  refine go_putf (x := 552) (ci := 13) (kf := 46) (fin := 0) (zt := 0) (by decide +kernel) (by decide +kernel) (by decide) (by decide +kernel) (by decide) (Or.inl rfl) R f0 f_9 (fun hq => absurd hq (by decide)) (fx_k (c := 13) R (by decide +kernel)) e_11 (fx_f (j := 46) R.2 (fx_k (c := 13) R (by decide +kernel)) (by decide +kernel)) fun S_12 R_13 E_14 => ?_
  have E_15 := E_14
  refine go_aload_n (n := 0) (by decide +kernel) l0 f0 ?_
  refine go_getf (x := 137) (ci := 13) (kf := 47) (fin := 1) (t := 2) (by decide +kernel) (by decide +kernel) (by decide +kernel) R_13 f0 (fx_k (c := 13) R_13 (by decide +kernel)) fun v_16 f_17 => ?_
  have f_18 := q_is_eq (b := 109) f_17 (fx_v R_13 (by decide +kernel)).symm
  refine go_iload_n (n := 1) (by decide +kernel) l1 f1 ?_
  refine go_aload_n (n := 0) (by decide +kernel) l0 f0 ?_
  refine go_getf (x := 137) (ci := 13) (kf := 47) (fin := 1) (t := 2) (by decide +kernel) (by decide +kernel) (by decide +kernel) R_13 f0 (fx_k (c := 13) R_13 (by decide +kernel)) fun v_19 f_20 => ?_
  have f_21 := q_is_eq (b := 109) f_20 (fx_v R_13 (by decide +kernel)).symm
  refine go_aload_n (n := 0) (by decide +kernel) l0 f0 ?_
  obtain ⟨x_25, e_26, h⟩ := lx_s h
  refine go_getf (x := 552) (ci := 13) (kf := 46) (fin := 0) (t := 0) (by decide +kernel) (by decide +kernel) (by decide +kernel) R_13 f0 (fx_k (c := 13) R_13 (by decide +kernel)) fun v_22 f_23 => ?_
  have f_24 := q_is_eq f_23 e_26
  obtain ⟨g_29, h⟩ := gd_s h
  obtain ⟨x_31, e_32, h⟩ := lx_s h
  refine go_iald (kd := 100) (by decide +kernel) rfl R_13 f_21 f_24 (fx_k (c := 100) R_13 (by decide +kernel)) (fx_x (a := 109) (ln := 512) R_13 (by decide +kernel) g_29) fun v_27 f_28 => ?_
  have f_30 := q_is_eq f_28 e_32
  obtain ⟨g_33, h⟩ := gd_s h
  obtain ⟨m_34, e_35, h⟩ := up_s h
  refine go_iast (kd := 100) (by decide +kernel) rfl R_13 f_18 f1 f_30 (fx_k (c := 100) R_13 (by decide +kernel)) (fx_x (a := 109) (ln := 512) R_13 (by decide +kernel) g_33) e_35 (fx_a R_13.2 (fx_k (c := 100) R_13 (by decide +kernel)) (And.left (fx_x (a := 109) (ln := 512) R_13 (by decide +kernel) g_33)) (by decide +kernel)) fun S_36 R_37 E_38 => ?_
  have E_39 := Ext.tr E_15 E_38
  refine go_aload_n (n := 0) (by decide +kernel) l0 f0 ?_
  refine go_getf (x := 140) (ci := 13) (kf := 48) (fin := 1) (t := 2) (by decide +kernel) (by decide +kernel) (by decide +kernel) R_37 f0 (fx_k (c := 13) R_37 (by decide +kernel)) fun v_40 f_41 => ?_
  have f_42 := q_is_eq (b := 110) f_41 (fx_v R_37 (by decide +kernel)).symm
  refine go_iload_n (n := 1) (by decide +kernel) l1 f1 ?_
  refine go_aload_n (n := 0) (by decide +kernel) l0 f0 ?_
  refine go_getf (x := 140) (ci := 13) (kf := 48) (fin := 1) (t := 2) (by decide +kernel) (by decide +kernel) (by decide +kernel) R_37 f0 (fx_k (c := 13) R_37 (by decide +kernel)) fun v_43 f_44 => ?_
  have f_45 := q_is_eq (b := 110) f_44 (fx_v R_37 (by decide +kernel)).symm
  refine go_aload_n (n := 0) (by decide +kernel) l0 f0 ?_
  obtain ⟨x_49, e_50, h⟩ := lx_s h
  refine go_getf (x := 552) (ci := 13) (kf := 46) (fin := 0) (t := 0) (by decide +kernel) (by decide +kernel) (by decide +kernel) R_37 f0 (fx_k (c := 13) R_37 (by decide +kernel)) fun v_46 f_47 => ?_
  have f_48 := q_is_eq f_47 e_50
  obtain ⟨g_53, h⟩ := gd_s h
  obtain ⟨x_55, e_56, h⟩ := lx_s h
  refine go_iald (kd := 100) (by decide +kernel) rfl R_37 f_45 f_48 (fx_k (c := 100) R_37 (by decide +kernel)) (fx_x (a := 110) (ln := 512) R_37 (by decide +kernel) g_53) fun v_51 f_52 => ?_
  have f_54 := q_is_eq f_52 e_56
  obtain ⟨m_57, e_58, h⟩ := up_s h
  refine go_iast (kd := 100) (by decide +kernel) rfl R_37 f_42 f1 f_54 (fx_k (c := 100) R_37 (by decide +kernel)) (fx_x (a := 110) (ln := 512) R_37 (by decide +kernel) g_33) e_58 (fx_a R_37.2 (fx_k (c := 100) R_37 (by decide +kernel)) (And.left (fx_x (a := 110) (ln := 512) R_37 (by decide +kernel) g_33)) (by decide +kernel)) fun S_59 R_60 E_61 => ?_
  have E_62 := Ext.tr E_39 E_61
  refine go_aload_n (n := 0) (by decide +kernel) l0 f0 ?_
  refine go_getf (x := 143) (ci := 13) (kf := 49) (fin := 1) (t := 2) (by decide +kernel) (by decide +kernel) (by decide +kernel) R_60 f0 (fx_k (c := 13) R_60 (by decide +kernel)) fun v_63 f_64 => ?_
  have f_65 := q_is_eq (b := 111) f_64 (fx_v R_60 (by decide +kernel)).symm
  refine go_iload_n (n := 1) (by decide +kernel) l1 f1 ?_
  refine go_aload_n (n := 0) (by decide +kernel) l0 f0 ?_
  refine go_getf (x := 143) (ci := 13) (kf := 49) (fin := 1) (t := 2) (by decide +kernel) (by decide +kernel) (by decide +kernel) R_60 f0 (fx_k (c := 13) R_60 (by decide +kernel)) fun v_66 f_67 => ?_
  have f_68 := q_is_eq (b := 111) f_67 (fx_v R_60 (by decide +kernel)).symm
  refine go_aload_n (n := 0) (by decide +kernel) l0 f0 ?_
  obtain ⟨x_72, e_73, h⟩ := lx_s h
  refine go_getf (x := 552) (ci := 13) (kf := 46) (fin := 0) (t := 0) (by decide +kernel) (by decide +kernel) (by decide +kernel) R_60 f0 (fx_k (c := 13) R_60 (by decide +kernel)) fun v_69 f_70 => ?_
  have f_71 := q_is_eq f_70 e_73
  obtain ⟨g_76, h⟩ := gd_s h
  obtain ⟨x_78, e_79, h⟩ := lx_s h
  refine go_iald (kd := 100) (by decide +kernel) rfl R_60 f_68 f_71 (fx_k (c := 100) R_60 (by decide +kernel)) (fx_x (a := 111) (ln := 512) R_60 (by decide +kernel) g_76) fun v_74 f_75 => ?_
  have f_77 := q_is_eq f_75 e_79
  obtain ⟨m_80, e_81, h⟩ := up_s h
  refine go_iast (kd := 100) (by decide +kernel) rfl R_60 f_65 f1 f_77 (fx_k (c := 100) R_60 (by decide +kernel)) (fx_x (a := 111) (ln := 512) R_60 (by decide +kernel) g_33) e_81 (fx_a R_60.2 (fx_k (c := 100) R_60 (by decide +kernel)) (And.left (fx_x (a := 111) (ln := 512) R_60 (by decide +kernel) g_33)) (by decide +kernel)) fun S_82 R_83 E_84 => ?_
  have E_85 := Ext.tr E_62 E_84
  cases h
  exact go_vret (by decide +kernel) rfl (hQ E_85 _ _ R_83 q_out_n)
noncomputable def fl_X12_stops_2 (y1 : Int) (k42 : MM → Option (Int × MM)) : Nat → Int → MM → Option (Int × MM)
  | 0, _, _ => none
  | n + 1, y2, m => lx (m 68 34) fun x_11 =>
if y2 < x_11 then
gd (0 ≤ y2 ∧ y2 < 60) <| lx (m 98 y2) fun x_24 =>
if x_24 = y1 then
up m 102 y2 2 fun m_53 =>
lx (w32 (y2 + 1)) fun x_64 =>
fl_X12_stops_2 y1 k42 n x_64 m_53
else
lx (m 102 y2) fun x_33 =>
up m 102 y2 x_33 fun m_35 =>
lx (w32 (y2 + 1)) fun x_46 =>
fl_X12_stops_2 y1 k42 n x_46 m_35
else
k42 m
set_option maxHeartbeats 4000000 in
theorem ol_X12_stops_2 {xs : List Int32} {d : Nat} {Q : QO → QS → Prop} {mb : MM} {y1 : Int} {k42 : MM → Option (Int × MM)} {rz : Int} {rm : MM}
  (hd : 1 ≤ d)
  (hk42 : ∀ mq : MM, Ext mb mq → ∀ {Sq : QS} {Lq : QL} {u0 : Value} {u1 : Value}, k42 mq = some (rz, rm) → Rp Sq mq → q_lo Lq 0 = some u0 → q_is 2 u0 68 → q_lo Lq 1 = some u1 → q_is 0 u1 y1 → Go xs d qM_X12_stops 42 Lq [] Sq Q)
  (hQ : Ext mb rm → ∀ o S1, Rp S1 rm → q_out 9 o rz → Q o S1) :
  ∀ (n : Nat) {m : MM} {S : QS} {L : QL} {y2 : Int} {v0 : Value} {v1 : Value} {v2 : Value} , Ext mb m → fl_X12_stops_2 y1 k42 n y2 m = some (rz, rm) → Rp S m → q_lo L 0 = some v0 → q_is 2 v0 68 → q_lo L 1 = some v1 → q_is 0 v1 y1 → q_lo L 2 = some v2 → q_is 0 v2 y2 → Go xs d qM_X12_stops 2 L [] S Q := by
  intro n
  induction n with
  | zero => intro m S L y2 v0 v1 v2; intro E h R l0 f0 l1 f1 l2 f2; cases h
  | succ n ih0 =>
    intro m S L y2 v0 v1 v2; intro E h R l0 f0 l1 f1 l2 f2
    have ih : ∀ mq : MM, Ext mb mq → ∀ {z2 : Int} {Sq : QS} {Lq : QL} {u0 : Value} {u1 : Value} {u2 : Value}, fl_X12_stops_2 y1 k42 n z2 mq = some (rz, rm) → Rp Sq mq → q_lo Lq 0 = some u0 → q_is 2 u0 68 → q_lo Lq 1 = some u1 → q_is 0 u1 y1 → q_lo Lq 2 = some u2 → q_is 0 u2 z2 → Go xs d qM_X12_stops 2 Lq [] Sq Q := fun mq b => by intros; exact ih0 b ‹_› ‹_› ‹_› ‹_› ‹_› ‹_› ‹_› ‹_›
    unfold fl_X12_stops_2 at h
    refine go_iload_n (n := 2) (by decide +kernel) l2 f2 ?_
    refine go_aload_n (n := 0) (by decide +kernel) l0 f0 ?_
    obtain ⟨x_11, e_12, h⟩ := lx_s h
    refine go_getf (x := 549) (ci := 13) (kf := 34) (fin := 0) (t := 0) (by decide +kernel) (by decide +kernel) (by decide +kernel) R f0 (fx_k (c := 13) R (by decide +kernel)) fun v_8 f_9 => ?_
    have f_10 := q_is_eq f_9 e_12
    refine go_icmp (c := .ge) (o := 35) (t := 42) (P := ¬ (y2 < x_11)) (by decide +kernel) (by decide +kernel) f2 f_10 (Int.not_lt.symm) (fun hp_13 => ?_) (fun hp_13 => ?_)
    · have h := it_f hp_13 h
      exact hk42 m E h R l0 f0 l1 f1
    · have h := it_n hp_13 h
      refine go_aload_n (n := 0) (by decide +kernel) l0 f0 ?_
      refine go_getf (x := 116) (ci := 13) (kf := 39) (fin := 1) (t := 2) (by decide +kernel) (by decide +kernel) (by decide +kernel) R f0 (fx_k (c := 13) R (by decide +kernel)) fun v_14 f_15 => ?_
      have f_16 := q_is_eq (b := 102) f_15 (fx_v R (by decide +kernel)).symm
      refine go_iload_n (n := 2) (by decide +kernel) l2 f2 ?_
      refine go_aload_n (n := 0) (by decide +kernel) l0 f0 ?_
      refine go_getf (x := 104) (ci := 13) (kf := 35) (fin := 1) (t := 2) (by decide +kernel) (by decide +kernel) (by decide +kernel) R f0 (fx_k (c := 13) R (by decide +kernel)) fun v_17 f_18 => ?_
      have f_19 := q_is_eq (b := 98) f_18 (fx_v R (by decide +kernel)).symm
      refine go_iload_n (n := 2) (by decide +kernel) l2 f2 ?_
      obtain ⟨g_22, h⟩ := gd_s h
      obtain ⟨x_24, e_25, h⟩ := lx_s h
      refine go_iald (kd := 100) (by decide +kernel) rfl R f_19 f2 (fx_k (c := 100) R (by decide +kernel)) (fx_x (a := 98) (ln := 60) R (by decide +kernel) g_22) fun v_20 f_21 => ?_
      have f_23 := q_is_eq f_21 e_25
      refine go_iload_n (n := 1) (by decide +kernel) l1 f1 ?_
      refine go_icmp (c := .ne) (o := 7) (t := 29) (P := ¬ (x_24 = y1)) (by decide +kernel) (by decide +kernel) f_23 f1 (Iff.rfl) (fun hp_26 => ?_) (fun hp_26 => ?_)
      · have h := it_f hp_26 h
        refine go_aload_n (n := 0) (by decide +kernel) l0 f0 ?_
        refine go_getf (x := 116) (ci := 13) (kf := 39) (fin := 1) (t := 2) (by decide +kernel) (by decide +kernel) (by decide +kernel) R f0 (fx_k (c := 13) R (by decide +kernel)) fun v_27 f_28 => ?_
        have f_29 := q_is_eq (b := 102) f_28 (fx_v R (by decide +kernel)).symm
        refine go_iload_n (n := 2) (by decide +kernel) l2 f2 ?_
        obtain ⟨x_33, e_34, h⟩ := lx_s h
        refine go_iald (kd := 100) (by decide +kernel) rfl R f_29 f2 (fx_k (c := 100) R (by decide +kernel)) (fx_x (a := 102) (ln := 60) R (by decide +kernel) g_22) fun v_30 f_31 => ?_
        have f_32 := q_is_eq f_31 e_34
        obtain ⟨m_35, e_36, h⟩ := up_s h
        refine go_iast (kd := 100) (by decide +kernel) rfl R f_16 f2 f_32 (fx_k (c := 100) R (by decide +kernel)) (fx_x (a := 102) (ln := 60) R (by decide +kernel) g_22) e_36 (fx_a R.2 (fx_k (c := 100) R (by decide +kernel)) (And.left (fx_x (a := 102) (ln := 60) R (by decide +kernel) g_22)) (by decide +kernel)) fun S_37 R_38 E_39 => ?_
        have E_40 := Ext.tr E E_39
        refine go_iinc (n := 2) (c := 1) (c' := 1) (by decide +kernel) (by decide +kernel) l2 f2 (by decide) fun L_41 v_42 f_43 l_44 kp_45 => ?_
        obtain ⟨x_46, e_47, h⟩ := lx_s h
        have f_48 := q_is_eq f_43 e_47
        have l_49 := kp_45 0 _ l0 (by decide) (Or.inl (by decide))
        have l_50 := kp_45 1 _ l1 (by decide) (Or.inr (q_is_cat f1 (Or.inl rfl)))
        refine go_goto (o := (-37)) (t := 2) (by decide +kernel) (by decide +kernel) ?_
        exact ih m_35 E_40 h R_38 l_49 f0 l_50 f1 l_44 f_48
      · have h := it_n hp_26 h
        refine go_iconst (n := 2) (z := 2) (by decide +kernel) (by decide) fun v_51 f_52 => ?_
        refine go_goto (o := 9) (t := 35) (by decide +kernel) (by decide +kernel) ?_
        obtain ⟨m_53, e_54, h⟩ := up_s h
        refine go_iast (kd := 100) (by decide +kernel) rfl R f_16 f2 f_52 (fx_k (c := 100) R (by decide +kernel)) (fx_x (a := 102) (ln := 60) R (by decide +kernel) g_22) e_54 (fx_a R.2 (fx_k (c := 100) R (by decide +kernel)) (And.left (fx_x (a := 102) (ln := 60) R (by decide +kernel) g_22)) (by decide +kernel)) fun S_55 R_56 E_57 => ?_
        have E_58 := Ext.tr E E_57
        refine go_iinc (n := 2) (c := 1) (c' := 1) (by decide +kernel) (by decide +kernel) l2 f2 (by decide) fun L_59 v_60 f_61 l_62 kp_63 => ?_
        obtain ⟨x_64, e_65, h⟩ := lx_s h
        have f_66 := q_is_eq f_61 e_65
        have l_67 := kp_63 0 _ l0 (by decide) (Or.inl (by decide))
        have l_68 := kp_63 1 _ l1 (by decide) (Or.inr (q_is_cat f1 (Or.inl rfl)))
        refine go_goto (o := (-37)) (t := 2) (by decide +kernel) (by decide +kernel) ?_
        exact ih m_53 E_58 h R_56 l_67 f0 l_68 f1 l_62 f_66
noncomputable def fl_X12_stops_49 (y1 : Int) : Nat → Int → MM → Option (Int × MM)
  | 0, _, _ => none
  | n + 1, y2, m => if y2 < 0 then
some (0, m)
else
gd (0 ≤ y2 ∧ y2 < 512) <| lx (m 109 y2) fun x_106 =>
if x_106 = y1 then
bd (fm_X12_removesTimer y2 m) fun x_120 m_121 =>
lx (w32 (y2 + (-1))) fun x_134 =>
fl_X12_stops_49 y1 n x_134 m_121
else
lx (w32 (y2 + (-1))) fun x_114 =>
fl_X12_stops_49 y1 n x_114 m
set_option maxHeartbeats 4000000 in
theorem ol_X12_stops_49 {xs : List Int32} {d : Nat} {Q : QO → QS → Prop} {mb : MM} {y1 : Int} {rz : Int} {rm : MM}
  (hd : 1 ≤ d)
  (hQ : Ext mb rm → ∀ o S1, Rp S1 rm → q_out 9 o rz → Q o S1) :
  ∀ (n : Nat) {m : MM} {S : QS} {L : QL} {y2 : Int} {v0 : Value} {v1 : Value} {v2 : Value} , Ext mb m → fl_X12_stops_49 y1 n y2 m = some (rz, rm) → Rp S m → q_lo L 0 = some v0 → q_is 2 v0 68 → q_lo L 1 = some v1 → q_is 0 v1 y1 → q_lo L 2 = some v2 → q_is 0 v2 y2 → Go xs d qM_X12_stops 49 L [] S Q := by
  intro n
  induction n with
  | zero => intro m S L y2 v0 v1 v2; intro E h R l0 f0 l1 f1 l2 f2; cases h
  | succ n ih0 =>
    intro m S L y2 v0 v1 v2; intro E h R l0 f0 l1 f1 l2 f2
    have ih : ∀ mq : MM, Ext mb mq → ∀ {z2 : Int} {Sq : QS} {Lq : QL} {u0 : Value} {u1 : Value} {u2 : Value}, fl_X12_stops_49 y1 n z2 mq = some (rz, rm) → Rp Sq mq → q_lo Lq 0 = some u0 → q_is 2 u0 68 → q_lo Lq 1 = some u1 → q_is 0 u1 y1 → q_lo Lq 2 = some u2 → q_is 0 u2 z2 → Go xs d qM_X12_stops 49 Lq [] Sq Q := fun mq b => by intros; exact ih0 b ‹_› ‹_› ‹_› ‹_› ‹_› ‹_› ‹_› ‹_›
    unfold fl_X12_stops_49 at h
    refine go_iload_n (n := 2) (by decide +kernel) l2 f2 ?_
    refine go_if (c := .lt) (o := 24) (t := 74) (P := y2 < 0) (by decide +kernel) (by decide +kernel) f2 (Iff.rfl) (fun hp_98 => ?_) (fun hp_98 => ?_)
    · have h := it_t hp_98 h
      cases h
      exact go_vret (by decide +kernel) rfl (hQ E _ _ R q_out_n)
    · have h := it_f hp_98 h
      refine go_aload_n (n := 0) (by decide +kernel) l0 f0 ?_
      refine go_getf (x := 137) (ci := 13) (kf := 47) (fin := 1) (t := 2) (by decide +kernel) (by decide +kernel) (by decide +kernel) R f0 (fx_k (c := 13) R (by decide +kernel)) fun v_99 f_100 => ?_
      have f_101 := q_is_eq (b := 109) f_100 (fx_v R (by decide +kernel)).symm
      refine go_iload_n (n := 2) (by decide +kernel) l2 f2 ?_
      obtain ⟨g_104, h⟩ := gd_s h
      obtain ⟨x_106, e_107, h⟩ := lx_s h
      refine go_iald (kd := 100) (by decide +kernel) rfl R f_101 f2 (fx_k (c := 100) R (by decide +kernel)) (fx_x (a := 109) (ln := 512) R (by decide +kernel) g_104) fun v_102 f_103 => ?_
      have f_105 := q_is_eq f_103 e_107
      refine go_iload_n (n := 1) (by decide +kernel) l1 f1 ?_
      refine go_icmp (c := .ne) (o := 8) (t := 68) (P := ¬ (x_106 = y1)) (by decide +kernel) (by decide +kernel) f_105 f1 (Iff.rfl) (fun hp_108 => ?_) (fun hp_108 => ?_)
      · have h := it_f hp_108 h
        refine go_iinc (n := 2) (c := (-1)) (c' := (-1)) (by decide +kernel) (by decide +kernel) l2 f2 (by decide) fun L_109 v_110 f_111 l_112 kp_113 => ?_
        obtain ⟨x_114, e_115, h⟩ := lx_s h
        have f_116 := q_is_eq f_111 e_115
        have l_117 := kp_113 0 _ l0 (by decide) (Or.inl (by decide))
        have l_118 := kp_113 1 _ l1 (by decide) (Or.inr (q_is_cat f1 (Or.inl rfl)))
        refine go_goto (o := (-22)) (t := 49) (by decide +kernel) (by decide +kernel) ?_
        exact ih m E h R l_117 f0 l_118 f1 l_112 f_116
      · have h := it_n hp_108 h
        refine go_aload_n (n := 0) (by decide +kernel) l0 f0 ?_
        refine go_iload_n (n := 2) (by decide +kernel) l2 f2 ?_
        obtain ⟨x_120, m_121, hc_119, h⟩ := bd_s h
        refine go_callV (x := 555) (mi := 253) (n := 1) (ci := 13) (as := [v2]) (rest := []) (by decide +kernel) (by decide +kernel) rfl rfl (q_sum8 _ (Nat.le_of_ble_eq_true rfl)) R f0 (fx_k (c := 13) R (by decide +kernel)) (om_X12_removesTimer (Nat.le_trans (by decide) hd) R f0 f2 hc_119) (fun _ S_124 q_127 => ?_) (fun _ _ qq => kr_x qq)
        refine kr_v q_127 fun R_125 E_126 => ?_
        have E_128 := Ext.tr E E_126
        refine go_iinc (n := 2) (c := (-1)) (c' := (-1)) (by decide +kernel) (by decide +kernel) l2 f2 (by decide) fun L_129 v_130 f_131 l_132 kp_133 => ?_
        obtain ⟨x_134, e_135, h⟩ := lx_s h
        have f_136 := q_is_eq f_131 e_135
        have l_137 := kp_133 0 _ l0 (by decide) (Or.inl (by decide))
        have l_138 := kp_133 1 _ l1 (by decide) (Or.inr (q_is_cat f1 (Or.inl rfl)))
        refine go_goto (o := (-22)) (t := 49) (by decide +kernel) (by decide +kernel) ?_
        exact ih m_121 E_128 h R_125 l_137 f0 l_138 f1 l_132 f_136
noncomputable def fm_X12_stops (p1 : Int) (m0 : MM) : Option (Int × MM) := fl_X12_stops_2 p1 (fun m_78 =>
lx (m_78 68 46) fun x_84 =>
lx (w32 (x_84 - 1)) fun x_90 =>
fl_X12_stops_49 p1  BIG x_90 m_78) BIG 0 m0
set_option maxHeartbeats 4000000 in
theorem om_X12_stops {xs : List Int32} {d : Nat} {S : QS} {m0 : MM} {p1 : Int} {v0 : Value} {v1 : Value} {rz : Int} {rm : MM}
  (hd : 2 ≤ d) (R : Rp S m0) (f0 : q_is 2 v0 68) (f1 : q_is 0 v1 p1)
  (h : fm_X12_stops p1 m0 = some (rz, rm)) : Mt xs d 254 [v0, v1] S (Cr 9 m0 rm rz) := by
  obtain ⟨d, rfl⟩ : ∃ e, d = e + 1 := ⟨d - 1, by omega⟩
  have hd : 1 ≤ d := Nat.le_of_succ_le_succ hd
  refine Mt.of (M := qM_X12_stops) rfl (by rw [sl_1 (q_is_cat f0 (Or.inr rfl)), sl_1 (q_is_cat f1 (Or.inl rfl)), sl_0]; decide) ?_
  rw [la_1 (q_is_cat f0 (Or.inr rfl)), la_1 (q_is_cat f1 (Or.inl rfl)), la_0]
  obtain ⟨L, hL⟩ : ∃ L : QL, L = [(0, v0), (0 + 1, v1)] := ⟨_, rfl⟩
  rw [← hL]
  have l0 : q_lo L 0 = some v0 := by rw [hL]; rfl
  have l1 : q_lo L 1 = some v1 := by rw [hL]; rfl
  have hQ : Ext m0 rm → ∀ o S1, Rp S1 rm → q_out 9 o rz → (Cr 9 m0 rm rz) o S1 := fun a o S1 b e => ⟨b, a, e⟩
  unfold fm_X12_stops at h
  refine go_iconst (n := 0) (z := 0) (by decide +kernel) (by decide) fun v_1 f_2 => ?_
  refine go_istore_n (n := 2) (by decide +kernel) (by decide +kernel) f_2 fun L_3 l_4 kp_5 => ?_
  have l_6 := kp_5 0 _ l0 (by decide) (Or.inl (by decide))
  have l_7 := kp_5 1 _ l1 (by decide) (Or.inr (q_is_cat f1 (Or.inl rfl)))
  refine ol_X12_stops_2 hd  ?_ hQ BIG (Ext.rf _) h R l_6 f0 l_7 f1 l_4 f_2
  intro m_78 E_79
  intro S_75 L_76 v_69 v_70
  intro h R_77 l_71 f_73 l_72 f_74
  have E_80 := E_79
  refine go_aload_n (n := 0) (by decide +kernel) l_71 f_73 ?_
  obtain ⟨x_84, e_85, h⟩ := lx_s h
  refine go_getf (x := 552) (ci := 13) (kf := 46) (fin := 0) (t := 0) (by decide +kernel) (by decide +kernel) (by decide +kernel) R_77 f_73 (fx_k (c := 13) R_77 (by decide +kernel)) fun v_81 f_82 => ?_
  have f_83 := q_is_eq f_82 e_85
  refine go_iconst (n := 1) (z := 1) (by decide +kernel) (by decide) fun v_86 f_87 => ?_
  refine go_isub (by decide +kernel) f_83 f_87 fun v_88 f_89 => ?_
  obtain ⟨x_90, e_91, h⟩ := lx_s h
  have f_92 := q_is_eq f_89 e_91
  refine go_istore_n (n := 2) (by decide +kernel) (by decide +kernel) f_92 fun L_93 l_94 kp_95 => ?_
  have l_96 := kp_95 0 _ l_71 (by decide) (Or.inl (by decide))
  have l_97 := kp_95 1 _ l_72 (by decide) (Or.inr (q_is_cat f_74 (Or.inl rfl)))
  refine ol_X12_stops_49 hd   (fun b => hQ (Ext.tr E_80 b)) BIG (Ext.rf _) h R_77 l_96 f_73 l_97 f_74 l_94 f_92
noncomputable def fl_X12_drops_2 (y1 y2 : Int) (k52 : MM → Option (Int × MM)) : Nat → Int → MM → Option (Int × MM)
  | 0, _, _ => none
  | n + 1, y3, m => lx (m 68 34) fun x_12 =>
if y3 < x_12 then
gd (0 ≤ y3 ∧ y3 < 60) <| lx (m 98 y3) fun x_25 =>
if x_25 = y1 then
lx (m 99 y3) fun x_59 =>
if x_59 = y2 then
up m 102 y3 2 fun m_89 =>
lx (w32 (y3 + 1)) fun x_100 =>
fl_X12_drops_2 y1 y2 k52 n x_100 m_89
else
lx (m 102 y3) fun x_68 =>
up m 102 y3 x_68 fun m_70 =>
lx (w32 (y3 + 1)) fun x_81 =>
fl_X12_drops_2 y1 y2 k52 n x_81 m_70
else
lx (m 102 y3) fun x_34 =>
up m 102 y3 x_34 fun m_36 =>
lx (w32 (y3 + 1)) fun x_47 =>
fl_X12_drops_2 y1 y2 k52 n x_47 m_36
else
k52 m
set_option maxHeartbeats 4000000 in
theorem ol_X12_drops_2 {xs : List Int32} {d : Nat} {Q : QO → QS → Prop} {mb : MM} {y1 y2 : Int} {k52 : MM → Option (Int × MM)} {rz : Int} {rm : MM}
  (hd : 4 ≤ d)
  (hk52 : ∀ mq : MM, Ext mb mq → ∀ {Sq : QS} {Lq : QL} {u0 : Value} {u1 : Value} {u2 : Value}, k52 mq = some (rz, rm) → Rp Sq mq → q_lo Lq 0 = some u0 → q_is 2 u0 68 → q_lo Lq 1 = some u1 → q_is 0 u1 y1 → q_lo Lq 2 = some u2 → q_is 0 u2 y2 → Go xs d qM_X12_drops 52 Lq [] Sq Q)
  (hQ : Ext mb rm → ∀ o S1, Rp S1 rm → q_out 9 o rz → Q o S1) :
  ∀ (n : Nat) {m : MM} {S : QS} {L : QL} {y3 : Int} {v0 : Value} {v1 : Value} {v2 : Value} {v3 : Value} , Ext mb m → fl_X12_drops_2 y1 y2 k52 n y3 m = some (rz, rm) → Rp S m → q_lo L 0 = some v0 → q_is 2 v0 68 → q_lo L 1 = some v1 → q_is 0 v1 y1 → q_lo L 2 = some v2 → q_is 0 v2 y2 → q_lo L 3 = some v3 → q_is 0 v3 y3 → Go xs d qM_X12_drops 2 L [] S Q := by
  intro n
  induction n with
  | zero => intro m S L y3 v0 v1 v2 v3; intro E h R l0 f0 l1 f1 l2 f2 l3 f3; cases h
  | succ n ih0 =>
    intro m S L y3 v0 v1 v2 v3; intro E h R l0 f0 l1 f1 l2 f2 l3 f3
    have ih : ∀ mq : MM, Ext mb mq → ∀ {z3 : Int} {Sq : QS} {Lq : QL} {u0 : Value} {u1 : Value} {u2 : Value} {u3 : Value}, fl_X12_drops_2 y1 y2 k52 n z3 mq = some (rz, rm) → Rp Sq mq → q_lo Lq 0 = some u0 → q_is 2 u0 68 → q_lo Lq 1 = some u1 → q_is 0 u1 y1 → q_lo Lq 2 = some u2 → q_is 0 u2 y2 → q_lo Lq 3 = some u3 → q_is 0 u3 z3 → Go xs d qM_X12_drops 2 Lq [] Sq Q := fun mq b => by intros; exact ih0 b ‹_› ‹_› ‹_› ‹_› ‹_› ‹_› ‹_› ‹_› ‹_› ‹_›
    unfold fl_X12_drops_2 at h
    refine go_iload_n (n := 3) (by decide +kernel) l3 f3 ?_
    refine go_aload_n (n := 0) (by decide +kernel) l0 f0 ?_
    obtain ⟨x_12, e_13, h⟩ := lx_s h
    refine go_getf (x := 549) (ci := 13) (kf := 34) (fin := 0) (t := 0) (by decide +kernel) (by decide +kernel) (by decide +kernel) R f0 (fx_k (c := 13) R (by decide +kernel)) fun v_9 f_10 => ?_
    have f_11 := q_is_eq f_10 e_13
    refine go_icmp (c := .ge) (o := 45) (t := 52) (P := ¬ (y3 < x_12)) (by decide +kernel) (by decide +kernel) f3 f_11 (Int.not_lt.symm) (fun hp_14 => ?_) (fun hp_14 => ?_)
    · have h := it_f hp_14 h
      exact hk52 m E h R l0 f0 l1 f1 l2 f2
    · have h := it_n hp_14 h
      refine go_aload_n (n := 0) (by decide +kernel) l0 f0 ?_
      refine go_getf (x := 116) (ci := 13) (kf := 39) (fin := 1) (t := 2) (by decide +kernel) (by decide +kernel) (by decide +kernel) R f0 (fx_k (c := 13) R (by decide +kernel)) fun v_15 f_16 => ?_
      have f_17 := q_is_eq (b := 102) f_16 (fx_v R (by decide +kernel)).symm
      refine go_iload_n (n := 3) (by decide +kernel) l3 f3 ?_
      refine go_aload_n (n := 0) (by decide +kernel) l0 f0 ?_
      refine go_getf (x := 104) (ci := 13) (kf := 35) (fin := 1) (t := 2) (by decide +kernel) (by decide +kernel) (by decide +kernel) R f0 (fx_k (c := 13) R (by decide +kernel)) fun v_18 f_19 => ?_
      have f_20 := q_is_eq (b := 98) f_19 (fx_v R (by decide +kernel)).symm
      refine go_iload_n (n := 3) (by decide +kernel) l3 f3 ?_
      obtain ⟨g_23, h⟩ := gd_s h
      obtain ⟨x_25, e_26, h⟩ := lx_s h
      refine go_iald (kd := 100) (by decide +kernel) rfl R f_20 f3 (fx_k (c := 100) R (by decide +kernel)) (fx_x (a := 98) (ln := 60) R (by decide +kernel) g_23) fun v_21 f_22 => ?_
      have f_24 := q_is_eq f_22 e_26
      refine go_iload_n (n := 1) (by decide +kernel) l1 f1 ?_
      refine go_icmp (c := .ne) (o := 17) (t := 39) (P := ¬ (x_25 = y1)) (by decide +kernel) (by decide +kernel) f_24 f1 (Iff.rfl) (fun hp_27 => ?_) (fun hp_27 => ?_)
      · have h := it_f hp_27 h
        refine go_aload_n (n := 0) (by decide +kernel) l0 f0 ?_
        refine go_getf (x := 116) (ci := 13) (kf := 39) (fin := 1) (t := 2) (by decide +kernel) (by decide +kernel) (by decide +kernel) R f0 (fx_k (c := 13) R (by decide +kernel)) fun v_28 f_29 => ?_
        have f_30 := q_is_eq (b := 102) f_29 (fx_v R (by decide +kernel)).symm
        refine go_iload_n (n := 3) (by decide +kernel) l3 f3 ?_
        obtain ⟨x_34, e_35, h⟩ := lx_s h
        refine go_iald (kd := 100) (by decide +kernel) rfl R f_30 f3 (fx_k (c := 100) R (by decide +kernel)) (fx_x (a := 102) (ln := 60) R (by decide +kernel) g_23) fun v_31 f_32 => ?_
        have f_33 := q_is_eq f_32 e_35
        obtain ⟨m_36, e_37, h⟩ := up_s h
        refine go_iast (kd := 100) (by decide +kernel) rfl R f_17 f3 f_33 (fx_k (c := 100) R (by decide +kernel)) (fx_x (a := 102) (ln := 60) R (by decide +kernel) g_23) e_37 (fx_a R.2 (fx_k (c := 100) R (by decide +kernel)) (And.left (fx_x (a := 102) (ln := 60) R (by decide +kernel) g_23)) (by decide +kernel)) fun S_38 R_39 E_40 => ?_
        have E_41 := Ext.tr E E_40
        refine go_iinc (n := 3) (c := 1) (c' := 1) (by decide +kernel) (by decide +kernel) l3 f3 (by decide) fun L_42 v_43 f_44 l_45 kp_46 => ?_
        obtain ⟨x_47, e_48, h⟩ := lx_s h
        have f_49 := q_is_eq f_44 e_48
        have l_50 := kp_46 0 _ l0 (by decide) (Or.inl (by decide))
        have l_51 := kp_46 1 _ l1 (by decide) (Or.inl (by decide))
        have l_52 := kp_46 2 _ l2 (by decide) (Or.inr (q_is_cat f2 (Or.inl rfl)))
        refine go_goto (o := (-47)) (t := 2) (by decide +kernel) (by decide +kernel) ?_
        exact ih m_36 E_41 h R_39 l_50 f0 l_51 f1 l_52 f2 l_45 f_49
      · have h := it_n hp_27 h
        refine go_aload_n (n := 0) (by decide +kernel) l0 f0 ?_
        refine go_getf (x := 107) (ci := 13) (kf := 36) (fin := 1) (t := 2) (by decide +kernel) (by decide +kernel) (by decide +kernel) R f0 (fx_k (c := 13) R (by decide +kernel)) fun v_53 f_54 => ?_
        have f_55 := q_is_eq (b := 99) f_54 (fx_v R (by decide +kernel)).symm
        refine go_iload_n (n := 3) (by decide +kernel) l3 f3 ?_
        obtain ⟨x_59, e_60, h⟩ := lx_s h
        refine go_iald (kd := 100) (by decide +kernel) rfl R f_55 f3 (fx_k (c := 100) R (by decide +kernel)) (fx_x (a := 99) (ln := 60) R (by decide +kernel) g_23) fun v_56 f_57 => ?_
        have f_58 := q_is_eq f_57 e_60
        refine go_iload_n (n := 2) (by decide +kernel) l2 f2 ?_
        refine go_icmp (c := .ne) (o := 7) (t := 39) (P := ¬ (x_59 = y2)) (by decide +kernel) (by decide +kernel) f_58 f2 (Iff.rfl) (fun hp_61 => ?_) (fun hp_61 => ?_)
        · have h := it_f hp_61 h
          refine go_aload_n (n := 0) (by decide +kernel) l0 f0 ?_
          refine go_getf (x := 116) (ci := 13) (kf := 39) (fin := 1) (t := 2) (by decide +kernel) (by decide +kernel) (by decide +kernel) R f0 (fx_k (c := 13) R (by decide +kernel)) fun v_62 f_63 => ?_
          have f_64 := q_is_eq (b := 102) f_63 (fx_v R (by decide +kernel)).symm
          refine go_iload_n (n := 3) (by decide +kernel) l3 f3 ?_
          obtain ⟨x_68, e_69, h⟩ := lx_s h
          refine go_iald (kd := 100) (by decide +kernel) rfl R f_64 f3 (fx_k (c := 100) R (by decide +kernel)) (fx_x (a := 102) (ln := 60) R (by decide +kernel) g_23) fun v_65 f_66 => ?_
          have f_67 := q_is_eq f_66 e_69
          obtain ⟨m_70, e_71, h⟩ := up_s h
          refine go_iast (kd := 100) (by decide +kernel) rfl R f_17 f3 f_67 (fx_k (c := 100) R (by decide +kernel)) (fx_x (a := 102) (ln := 60) R (by decide +kernel) g_23) e_71 (fx_a R.2 (fx_k (c := 100) R (by decide +kernel)) (And.left (fx_x (a := 102) (ln := 60) R (by decide +kernel) g_23)) (by decide +kernel)) fun S_72 R_73 E_74 => ?_
          have E_75 := Ext.tr E E_74
          refine go_iinc (n := 3) (c := 1) (c' := 1) (by decide +kernel) (by decide +kernel) l3 f3 (by decide) fun L_76 v_77 f_78 l_79 kp_80 => ?_
          obtain ⟨x_81, e_82, h⟩ := lx_s h
          have f_83 := q_is_eq f_78 e_82
          have l_84 := kp_80 0 _ l0 (by decide) (Or.inl (by decide))
          have l_85 := kp_80 1 _ l1 (by decide) (Or.inl (by decide))
          have l_86 := kp_80 2 _ l2 (by decide) (Or.inr (q_is_cat f2 (Or.inl rfl)))
          refine go_goto (o := (-47)) (t := 2) (by decide +kernel) (by decide +kernel) ?_
          exact ih m_70 E_75 h R_73 l_84 f0 l_85 f1 l_86 f2 l_79 f_83
        · have h := it_n hp_61 h
          refine go_iconst (n := 2) (z := 2) (by decide +kernel) (by decide) fun v_87 f_88 => ?_
          refine go_goto (o := 9) (t := 45) (by decide +kernel) (by decide +kernel) ?_
          obtain ⟨m_89, e_90, h⟩ := up_s h
          refine go_iast (kd := 100) (by decide +kernel) rfl R f_17 f3 f_88 (fx_k (c := 100) R (by decide +kernel)) (fx_x (a := 102) (ln := 60) R (by decide +kernel) g_23) e_90 (fx_a R.2 (fx_k (c := 100) R (by decide +kernel)) (And.left (fx_x (a := 102) (ln := 60) R (by decide +kernel) g_23)) (by decide +kernel)) fun S_91 R_92 E_93 => ?_
          have E_94 := Ext.tr E E_93
          refine go_iinc (n := 3) (c := 1) (c' := 1) (by decide +kernel) (by decide +kernel) l3 f3 (by decide) fun L_95 v_96 f_97 l_98 kp_99 => ?_
          obtain ⟨x_100, e_101, h⟩ := lx_s h
          have f_102 := q_is_eq f_97 e_101
          have l_103 := kp_99 0 _ l0 (by decide) (Or.inl (by decide))
          have l_104 := kp_99 1 _ l1 (by decide) (Or.inl (by decide))
          have l_105 := kp_99 2 _ l2 (by decide) (Or.inr (q_is_cat f2 (Or.inl rfl)))
          refine go_goto (o := (-47)) (t := 2) (by decide +kernel) (by decide +kernel) ?_
          exact ih m_89 E_94 h R_92 l_103 f0 l_104 f1 l_105 f2 l_98 f_102
noncomputable def fl_X12_drops_59 (y1 y2 : Int) (k94 : MM → Option (Int × MM)) : Nat → Int → MM → Option (Int × MM)
  | 0, _, _ => none
  | n + 1, y3, m => if y3 < 0 then
k94 m
else
gd (0 ≤ y3 ∧ y3 < 512) <| lx (m 109 y3) fun x_147 =>
if x_147 = y1 then
lx (m 110 y3) fun x_167 =>
if x_167 = y2 then
bd (fm_X12_removesTimer y3 m) fun x_182 m_183 =>
lx (w32 (y3 + (-1))) fun x_196 =>
fl_X12_drops_59 y1 y2 k94 n x_196 m_183
else
lx (w32 (y3 + (-1))) fun x_175 =>
fl_X12_drops_59 y1 y2 k94 n x_175 m
else
lx (w32 (y3 + (-1))) fun x_155 =>
fl_X12_drops_59 y1 y2 k94 n x_155 m
set_option maxHeartbeats 4000000 in
theorem ol_X12_drops_59 {xs : List Int32} {d : Nat} {Q : QO → QS → Prop} {mb : MM} {y1 y2 : Int} {k94 : MM → Option (Int × MM)} {rz : Int} {rm : MM}
  (hd : 4 ≤ d)
  (hk94 : ∀ mq : MM, Ext mb mq → ∀ {Sq : QS} {Lq : QL} {u0 : Value} {u1 : Value} {u2 : Value}, k94 mq = some (rz, rm) → Rp Sq mq → q_lo Lq 0 = some u0 → q_is 2 u0 68 → q_lo Lq 1 = some u1 → q_is 0 u1 y1 → q_lo Lq 2 = some u2 → q_is 0 u2 y2 → Go xs d qM_X12_drops 94 Lq [] Sq Q)
  (hQ : Ext mb rm → ∀ o S1, Rp S1 rm → q_out 9 o rz → Q o S1) :
  ∀ (n : Nat) {m : MM} {S : QS} {L : QL} {y3 : Int} {v0 : Value} {v1 : Value} {v2 : Value} {v3 : Value} , Ext mb m → fl_X12_drops_59 y1 y2 k94 n y3 m = some (rz, rm) → Rp S m → q_lo L 0 = some v0 → q_is 2 v0 68 → q_lo L 1 = some v1 → q_is 0 v1 y1 → q_lo L 2 = some v2 → q_is 0 v2 y2 → q_lo L 3 = some v3 → q_is 0 v3 y3 → Go xs d qM_X12_drops 59 L [] S Q := by
  intro n
  induction n with
  | zero => intro m S L y3 v0 v1 v2 v3; intro E h R l0 f0 l1 f1 l2 f2 l3 f3; cases h
  | succ n ih0 =>
    intro m S L y3 v0 v1 v2 v3; intro E h R l0 f0 l1 f1 l2 f2 l3 f3
    have ih : ∀ mq : MM, Ext mb mq → ∀ {z3 : Int} {Sq : QS} {Lq : QL} {u0 : Value} {u1 : Value} {u2 : Value} {u3 : Value}, fl_X12_drops_59 y1 y2 k94 n z3 mq = some (rz, rm) → Rp Sq mq → q_lo Lq 0 = some u0 → q_is 2 u0 68 → q_lo Lq 1 = some u1 → q_is 0 u1 y1 → q_lo Lq 2 = some u2 → q_is 0 u2 y2 → q_lo Lq 3 = some u3 → q_is 0 u3 z3 → Go xs d qM_X12_drops 59 Lq [] Sq Q := fun mq b => by intros; exact ih0 b ‹_› ‹_› ‹_› ‹_› ‹_› ‹_› ‹_› ‹_› ‹_› ‹_›
    unfold fl_X12_drops_59 at h
    refine go_iload_n (n := 3) (by decide +kernel) l3 f3 ?_
    refine go_if (c := .lt) (o := 34) (t := 94) (P := y3 < 0) (by decide +kernel) (by decide +kernel) f3 (Iff.rfl) (fun hp_139 => ?_) (fun hp_139 => ?_)
    · have h := it_t hp_139 h
      exact hk94 m E h R l0 f0 l1 f1 l2 f2
    · have h := it_f hp_139 h
      refine go_aload_n (n := 0) (by decide +kernel) l0 f0 ?_
      refine go_getf (x := 137) (ci := 13) (kf := 47) (fin := 1) (t := 2) (by decide +kernel) (by decide +kernel) (by decide +kernel) R f0 (fx_k (c := 13) R (by decide +kernel)) fun v_140 f_141 => ?_
      have f_142 := q_is_eq (b := 109) f_141 (fx_v R (by decide +kernel)).symm
      refine go_iload_n (n := 3) (by decide +kernel) l3 f3 ?_
      obtain ⟨g_145, h⟩ := gd_s h
      obtain ⟨x_147, e_148, h⟩ := lx_s h
      refine go_iald (kd := 100) (by decide +kernel) rfl R f_142 f3 (fx_k (c := 100) R (by decide +kernel)) (fx_x (a := 109) (ln := 512) R (by decide +kernel) g_145) fun v_143 f_144 => ?_
      have f_146 := q_is_eq f_144 e_148
      refine go_iload_n (n := 1) (by decide +kernel) l1 f1 ?_
      refine go_icmp (c := .ne) (o := 18) (t := 88) (P := ¬ (x_147 = y1)) (by decide +kernel) (by decide +kernel) f_146 f1 (Iff.rfl) (fun hp_149 => ?_) (fun hp_149 => ?_)
      · have h := it_f hp_149 h
        refine go_iinc (n := 3) (c := (-1)) (c' := (-1)) (by decide +kernel) (by decide +kernel) l3 f3 (by decide) fun L_150 v_151 f_152 l_153 kp_154 => ?_
        obtain ⟨x_155, e_156, h⟩ := lx_s h
        have f_157 := q_is_eq f_152 e_156
        have l_158 := kp_154 0 _ l0 (by decide) (Or.inl (by decide))
        have l_159 := kp_154 1 _ l1 (by decide) (Or.inl (by decide))
        have l_160 := kp_154 2 _ l2 (by decide) (Or.inr (q_is_cat f2 (Or.inl rfl)))
        refine go_goto (o := (-32)) (t := 59) (by decide +kernel) (by decide +kernel) ?_
        exact ih m E h R l_158 f0 l_159 f1 l_160 f2 l_153 f_157
      · have h := it_n hp_149 h
        refine go_aload_n (n := 0) (by decide +kernel) l0 f0 ?_
        refine go_getf (x := 140) (ci := 13) (kf := 48) (fin := 1) (t := 2) (by decide +kernel) (by decide +kernel) (by decide +kernel) R f0 (fx_k (c := 13) R (by decide +kernel)) fun v_161 f_162 => ?_
        have f_163 := q_is_eq (b := 110) f_162 (fx_v R (by decide +kernel)).symm
        refine go_iload_n (n := 3) (by decide +kernel) l3 f3 ?_
        obtain ⟨x_167, e_168, h⟩ := lx_s h
        refine go_iald (kd := 100) (by decide +kernel) rfl R f_163 f3 (fx_k (c := 100) R (by decide +kernel)) (fx_x (a := 110) (ln := 512) R (by decide +kernel) g_145) fun v_164 f_165 => ?_
        have f_166 := q_is_eq f_165 e_168
        refine go_iload_n (n := 2) (by decide +kernel) l2 f2 ?_
        refine go_icmp (c := .ne) (o := 8) (t := 88) (P := ¬ (x_167 = y2)) (by decide +kernel) (by decide +kernel) f_166 f2 (Iff.rfl) (fun hp_169 => ?_) (fun hp_169 => ?_)
        · have h := it_f hp_169 h
          refine go_iinc (n := 3) (c := (-1)) (c' := (-1)) (by decide +kernel) (by decide +kernel) l3 f3 (by decide) fun L_170 v_171 f_172 l_173 kp_174 => ?_
          obtain ⟨x_175, e_176, h⟩ := lx_s h
          have f_177 := q_is_eq f_172 e_176
          have l_178 := kp_174 0 _ l0 (by decide) (Or.inl (by decide))
          have l_179 := kp_174 1 _ l1 (by decide) (Or.inl (by decide))
          have l_180 := kp_174 2 _ l2 (by decide) (Or.inr (q_is_cat f2 (Or.inl rfl)))
          refine go_goto (o := (-32)) (t := 59) (by decide +kernel) (by decide +kernel) ?_
          exact ih m E h R l_178 f0 l_179 f1 l_180 f2 l_173 f_177
        · have h := it_n hp_169 h
          refine go_aload_n (n := 0) (by decide +kernel) l0 f0 ?_
          refine go_iload_n (n := 3) (by decide +kernel) l3 f3 ?_
          obtain ⟨x_182, m_183, hc_181, h⟩ := bd_s h
          refine go_callV (x := 555) (mi := 253) (n := 1) (ci := 13) (as := [v3]) (rest := []) (by decide +kernel) (by decide +kernel) rfl rfl (q_sum8 _ (Nat.le_of_ble_eq_true rfl)) R f0 (fx_k (c := 13) R (by decide +kernel)) (om_X12_removesTimer (Nat.le_trans (by decide) hd) R f0 f3 hc_181) (fun _ S_186 q_189 => ?_) (fun _ _ qq => kr_x qq)
          refine kr_v q_189 fun R_187 E_188 => ?_
          have E_190 := Ext.tr E E_188
          refine go_iinc (n := 3) (c := (-1)) (c' := (-1)) (by decide +kernel) (by decide +kernel) l3 f3 (by decide) fun L_191 v_192 f_193 l_194 kp_195 => ?_
          obtain ⟨x_196, e_197, h⟩ := lx_s h
          have f_198 := q_is_eq f_193 e_197
          have l_199 := kp_195 0 _ l0 (by decide) (Or.inl (by decide))
          have l_200 := kp_195 1 _ l1 (by decide) (Or.inl (by decide))
          have l_201 := kp_195 2 _ l2 (by decide) (Or.inr (q_is_cat f2 (Or.inl rfl)))
          refine go_goto (o := (-32)) (t := 59) (by decide +kernel) (by decide +kernel) ?_
          exact ih m_183 E_190 h R_187 l_199 f0 l_200 f1 l_201 f2 l_194 f_198
noncomputable def fl_X12_drops_96 (y1 y2 : Int) : Nat → Int → MM → Option (Int × MM)
  | 0, _, _ => none
  | n + 1, y3, m => lx (m 68 12) fun x_228 =>
if y3 < x_228 then
gd (0 ≤ y3 ∧ y3 < 30) <| lx (m 84 y3) fun x_238 =>
if x_238 = y1 then
lx (m 85 y3) fun x_258 =>
if x_258 = y2 then
up m 84 y3 (-1) fun m_277 =>
lx (m_277 83 y3) fun x_289 =>
if x_289 = 0 then
bd (fm_X12_cancels y3 m_277) fun x_304 m_305 =>
lx (w32 (y3 + 1)) fun x_318 =>
fl_X12_drops_96 y1 y2 n x_318 m_305
else
lx (w32 (y3 + 1)) fun x_297 =>
fl_X12_drops_96 y1 y2 n x_297 m_277
else
lx (w32 (y3 + 1)) fun x_266 =>
fl_X12_drops_96 y1 y2 n x_266 m
else
lx (w32 (y3 + 1)) fun x_246 =>
fl_X12_drops_96 y1 y2 n x_246 m
else
some (0, m)
set_option maxHeartbeats 4000000 in
theorem ol_X12_drops_96 {xs : List Int32} {d : Nat} {Q : QO → QS → Prop} {mb : MM} {y1 y2 : Int} {rz : Int} {rm : MM}
  (hd : 4 ≤ d)
  (hQ : Ext mb rm → ∀ o S1, Rp S1 rm → q_out 9 o rz → Q o S1) :
  ∀ (n : Nat) {m : MM} {S : QS} {L : QL} {y3 : Int} {v0 : Value} {v1 : Value} {v2 : Value} {v3 : Value} , Ext mb m → fl_X12_drops_96 y1 y2 n y3 m = some (rz, rm) → Rp S m → q_lo L 0 = some v0 → q_is 2 v0 68 → q_lo L 1 = some v1 → q_is 0 v1 y1 → q_lo L 2 = some v2 → q_is 0 v2 y2 → q_lo L 3 = some v3 → q_is 0 v3 y3 → Go xs d qM_X12_drops 96 L [] S Q := by
  intro n
  induction n with
  | zero => intro m S L y3 v0 v1 v2 v3; intro E h R l0 f0 l1 f1 l2 f2 l3 f3; cases h
  | succ n ih0 =>
    intro m S L y3 v0 v1 v2 v3; intro E h R l0 f0 l1 f1 l2 f2 l3 f3
    have ih : ∀ mq : MM, Ext mb mq → ∀ {z3 : Int} {Sq : QS} {Lq : QL} {u0 : Value} {u1 : Value} {u2 : Value} {u3 : Value}, fl_X12_drops_96 y1 y2 n z3 mq = some (rz, rm) → Rp Sq mq → q_lo Lq 0 = some u0 → q_is 2 u0 68 → q_lo Lq 1 = some u1 → q_is 0 u1 y1 → q_lo Lq 2 = some u2 → q_is 0 u2 y2 → q_lo Lq 3 = some u3 → q_is 0 u3 z3 → Go xs d qM_X12_drops 96 Lq [] Sq Q := fun mq b => by intros; exact ih0 b ‹_› ‹_› ‹_› ‹_› ‹_› ‹_› ‹_› ‹_› ‹_› ‹_›
    unfold fl_X12_drops_96 at h
    refine go_iload_n (n := 3) (by decide +kernel) l3 f3 ?_
    refine go_aload_n (n := 0) (by decide +kernel) l0 f0 ?_
    obtain ⟨x_228, e_229, h⟩ := lx_s h
    refine go_getf (x := 310) (ci := 13) (kf := 12) (fin := 0) (t := 0) (by decide +kernel) (by decide +kernel) (by decide +kernel) R f0 (fx_k (c := 13) R (by decide +kernel)) fun v_225 f_226 => ?_
    have f_227 := q_is_eq f_226 e_229
    refine go_icmp (c := .ge) (o := 51) (t := 152) (P := ¬ (y3 < x_228)) (by decide +kernel) (by decide +kernel) f3 f_227 (Int.not_lt.symm) (fun hp_230 => ?_) (fun hp_230 => ?_)
    · have h := it_f hp_230 h
      cases h
      exact go_vret (by decide +kernel) rfl (hQ E _ _ R q_out_n)
    · have h := it_n hp_230 h
      refine go_aload_n (n := 0) (by decide +kernel) l0 f0 ?_
      refine go_getf (x := 55) (ci := 13) (kf := 17) (fin := 1) (t := 2) (by decide +kernel) (by decide +kernel) (by decide +kernel) R f0 (fx_k (c := 13) R (by decide +kernel)) fun v_231 f_232 => ?_
      have f_233 := q_is_eq (b := 84) f_232 (fx_v R (by decide +kernel)).symm
      refine go_iload_n (n := 3) (by decide +kernel) l3 f3 ?_
      obtain ⟨g_236, h⟩ := gd_s h
      obtain ⟨x_238, e_239, h⟩ := lx_s h
      refine go_iald (kd := 100) (by decide +kernel) rfl R f_233 f3 (fx_k (c := 100) R (by decide +kernel)) (fx_x (a := 84) (ln := 30) R (by decide +kernel) g_236) fun v_234 f_235 => ?_
      have f_237 := q_is_eq f_235 e_239
      refine go_iload_n (n := 1) (by decide +kernel) l1 f1 ?_
      refine go_icmp (c := .ne) (o := 35) (t := 146) (P := ¬ (x_238 = y1)) (by decide +kernel) (by decide +kernel) f_237 f1 (Iff.rfl) (fun hp_240 => ?_) (fun hp_240 => ?_)
      · have h := it_f hp_240 h
        refine go_iinc (n := 3) (c := 1) (c' := 1) (by decide +kernel) (by decide +kernel) l3 f3 (by decide) fun L_241 v_242 f_243 l_244 kp_245 => ?_
        obtain ⟨x_246, e_247, h⟩ := lx_s h
        have f_248 := q_is_eq f_243 e_247
        have l_249 := kp_245 0 _ l0 (by decide) (Or.inl (by decide))
        have l_250 := kp_245 1 _ l1 (by decide) (Or.inl (by decide))
        have l_251 := kp_245 2 _ l2 (by decide) (Or.inr (q_is_cat f2 (Or.inl rfl)))
        refine go_goto (o := (-53)) (t := 96) (by decide +kernel) (by decide +kernel) ?_
        exact ih m E h R l_249 f0 l_250 f1 l_251 f2 l_244 f_248
      · have h := it_n hp_240 h
        refine go_aload_n (n := 0) (by decide +kernel) l0 f0 ?_
        refine go_getf (x := 58) (ci := 13) (kf := 18) (fin := 1) (t := 2) (by decide +kernel) (by decide +kernel) (by decide +kernel) R f0 (fx_k (c := 13) R (by decide +kernel)) fun v_252 f_253 => ?_
        have f_254 := q_is_eq (b := 85) f_253 (fx_v R (by decide +kernel)).symm
        refine go_iload_n (n := 3) (by decide +kernel) l3 f3 ?_
        obtain ⟨x_258, e_259, h⟩ := lx_s h
        refine go_iald (kd := 100) (by decide +kernel) rfl R f_254 f3 (fx_k (c := 100) R (by decide +kernel)) (fx_x (a := 85) (ln := 30) R (by decide +kernel) g_236) fun v_255 f_256 => ?_
        have f_257 := q_is_eq f_256 e_259
        refine go_iload_n (n := 2) (by decide +kernel) l2 f2 ?_
        refine go_icmp (c := .ne) (o := 25) (t := 146) (P := ¬ (x_258 = y2)) (by decide +kernel) (by decide +kernel) f_257 f2 (Iff.rfl) (fun hp_260 => ?_) (fun hp_260 => ?_)
        · have h := it_f hp_260 h
          refine go_iinc (n := 3) (c := 1) (c' := 1) (by decide +kernel) (by decide +kernel) l3 f3 (by decide) fun L_261 v_262 f_263 l_264 kp_265 => ?_
          obtain ⟨x_266, e_267, h⟩ := lx_s h
          have f_268 := q_is_eq f_263 e_267
          have l_269 := kp_265 0 _ l0 (by decide) (Or.inl (by decide))
          have l_270 := kp_265 1 _ l1 (by decide) (Or.inl (by decide))
          have l_271 := kp_265 2 _ l2 (by decide) (Or.inr (q_is_cat f2 (Or.inl rfl)))
          refine go_goto (o := (-53)) (t := 96) (by decide +kernel) (by decide +kernel) ?_
          exact ih m E h R l_269 f0 l_270 f1 l_271 f2 l_264 f_268
        · have h := it_n hp_260 h
          refine go_aload_n (n := 0) (by decide +kernel) l0 f0 ?_
          refine go_getf (x := 55) (ci := 13) (kf := 17) (fin := 1) (t := 2) (by decide +kernel) (by decide +kernel) (by decide +kernel) R f0 (fx_k (c := 13) R (by decide +kernel)) fun v_272 f_273 => ?_
          have f_274 := q_is_eq (b := 84) f_273 (fx_v R (by decide +kernel)).symm
          refine go_iload_n (n := 3) (by decide +kernel) l3 f3 ?_
          refine go_iconst (n := (-1)) (z := (-1)) (by decide +kernel) (by decide) fun v_275 f_276 => ?_
          obtain ⟨m_277, e_278, h⟩ := up_s h
          refine go_iast (kd := 100) (by decide +kernel) rfl R f_274 f3 f_276 (fx_k (c := 100) R (by decide +kernel)) (fx_x (a := 84) (ln := 30) R (by decide +kernel) g_236) e_278 (fx_a R.2 (fx_k (c := 100) R (by decide +kernel)) (And.left (fx_x (a := 84) (ln := 30) R (by decide +kernel) g_236)) (by decide +kernel)) fun S_279 R_280 E_281 => ?_
          have E_282 := Ext.tr E E_281
          refine go_aload_n (n := 0) (by decide +kernel) l0 f0 ?_
          refine go_getf (x := 52) (ci := 13) (kf := 16) (fin := 1) (t := 2) (by decide +kernel) (by decide +kernel) (by decide +kernel) R_280 f0 (fx_k (c := 13) R_280 (by decide +kernel)) fun v_283 f_284 => ?_
          have f_285 := q_is_eq (b := 83) f_284 (fx_v R_280 (by decide +kernel)).symm
          refine go_iload_n (n := 3) (by decide +kernel) l3 f3 ?_
          obtain ⟨x_289, e_290, h⟩ := lx_s h
          refine go_iald (kd := 100) (by decide +kernel) rfl R_280 f_285 f3 (fx_k (c := 100) R_280 (by decide +kernel)) (fx_x (a := 83) (ln := 30) R_280 (by decide +kernel) g_236) fun v_286 f_287 => ?_
          have f_288 := q_is_eq f_287 e_290
          refine go_if (c := .ne) (o := 9) (t := 146) (P := ¬ (x_289 = 0)) (by decide +kernel) (by decide +kernel) f_288 (Iff.rfl) (fun hp_291 => ?_) (fun hp_291 => ?_)
          · have h := it_f hp_291 h
            refine go_iinc (n := 3) (c := 1) (c' := 1) (by decide +kernel) (by decide +kernel) l3 f3 (by decide) fun L_292 v_293 f_294 l_295 kp_296 => ?_
            obtain ⟨x_297, e_298, h⟩ := lx_s h
            have f_299 := q_is_eq f_294 e_298
            have l_300 := kp_296 0 _ l0 (by decide) (Or.inl (by decide))
            have l_301 := kp_296 1 _ l1 (by decide) (Or.inl (by decide))
            have l_302 := kp_296 2 _ l2 (by decide) (Or.inr (q_is_cat f2 (Or.inl rfl)))
            refine go_goto (o := (-53)) (t := 96) (by decide +kernel) (by decide +kernel) ?_
            exact ih m_277 E_282 h R_280 l_300 f0 l_301 f1 l_302 f2 l_295 f_299
          · have h := it_n hp_291 h
            refine go_aload_n (n := 0) (by decide +kernel) l0 f0 ?_
            refine go_iload_n (n := 3) (by decide +kernel) l3 f3 ?_
            obtain ⟨x_304, m_305, hc_303, h⟩ := bd_s h
            refine go_callV (x := 558) (mi := 214) (n := 1) (ci := 13) (as := [v3]) (rest := []) (by decide +kernel) (by decide +kernel) rfl rfl (q_sum8 _ (Nat.le_of_ble_eq_true rfl)) R_280 f0 (fx_k (c := 13) R_280 (by decide +kernel)) (om_X12_cancels (Nat.le_trans (by decide) hd) R_280 f0 f3 hc_303) (fun _ S_308 q_311 => ?_) (fun _ _ qq => kr_x qq)
            refine kr_z (by decide) q_311 fun v_306 f_307 R_309 E_310 => ?_
            have E_312 := Ext.tr E_282 E_310
            refine go_pop (by decide +kernel) f_307 (Or.inl rfl) ?_
            refine go_iinc (n := 3) (c := 1) (c' := 1) (by decide +kernel) (by decide +kernel) l3 f3 (by decide) fun L_313 v_314 f_315 l_316 kp_317 => ?_
            obtain ⟨x_318, e_319, h⟩ := lx_s h
            have f_320 := q_is_eq f_315 e_319
            have l_321 := kp_317 0 _ l0 (by decide) (Or.inl (by decide))
            have l_322 := kp_317 1 _ l1 (by decide) (Or.inl (by decide))
            have l_323 := kp_317 2 _ l2 (by decide) (Or.inr (q_is_cat f2 (Or.inl rfl)))
            refine go_goto (o := (-53)) (t := 96) (by decide +kernel) (by decide +kernel) ?_
            exact ih m_305 E_312 h R_309 l_321 f0 l_322 f1 l_323 f2 l_316 f_320
noncomputable def fm_X12_drops (p1 p2 : Int) (m0 : MM) : Option (Int × MM) := fl_X12_drops_2 p1 p2 (fun m_118 =>
lx (m_118 68 46) fun x_124 =>
lx (w32 (x_124 - 1)) fun x_130 =>
fl_X12_drops_59 p1 p2 (fun m_214 =>
fl_X12_drops_96 p1 p2  BIG 0 m_214) BIG x_130 m_118) BIG 0 m0
set_option maxHeartbeats 4000000 in
theorem om_X12_drops {xs : List Int32} {d : Nat} {S : QS} {m0 : MM} {p1 p2 : Int} {v0 : Value} {v1 : Value} {v2 : Value} {rz : Int} {rm : MM}
  (hd : 5 ≤ d) (R : Rp S m0) (f0 : q_is 2 v0 68) (f1 : q_is 0 v1 p1) (f2 : q_is 0 v2 p2)
  (h : fm_X12_drops p1 p2 m0 = some (rz, rm)) : Mt xs d 255 [v0, v1, v2] S (Cr 9 m0 rm rz) := by
  obtain ⟨d, rfl⟩ : ∃ e, d = e + 1 := ⟨d - 1, by omega⟩
  have hd : 4 ≤ d := Nat.le_of_succ_le_succ hd
  refine Mt.of (M := qM_X12_drops) rfl (by rw [sl_1 (q_is_cat f0 (Or.inr rfl)), sl_1 (q_is_cat f1 (Or.inl rfl)), sl_1 (q_is_cat f2 (Or.inl rfl)), sl_0]; decide) ?_
  rw [la_1 (q_is_cat f0 (Or.inr rfl)), la_1 (q_is_cat f1 (Or.inl rfl)), la_1 (q_is_cat f2 (Or.inl rfl)), la_0]
  obtain ⟨L, hL⟩ : ∃ L : QL, L = [(0, v0), (0 + 1, v1), (0 + 1 + 1, v2)] := ⟨_, rfl⟩
  rw [← hL]
  have l0 : q_lo L 0 = some v0 := by rw [hL]; rfl
  have l1 : q_lo L 1 = some v1 := by rw [hL]; rfl
  have l2 : q_lo L 2 = some v2 := by rw [hL]; rfl
  have hQ : Ext m0 rm → ∀ o S1, Rp S1 rm → q_out 9 o rz → (Cr 9 m0 rm rz) o S1 := fun a o S1 b e => ⟨b, a, e⟩
  unfold fm_X12_drops at h
  refine go_iconst (n := 0) (z := 0) (by decide +kernel) (by decide) fun v_1 f_2 => ?_
  refine go_istore_n (n := 3) (by decide +kernel) (by decide +kernel) f_2 fun L_3 l_4 kp_5 => ?_
  have l_6 := kp_5 0 _ l0 (by decide) (Or.inl (by decide))
  have l_7 := kp_5 1 _ l1 (by decide) (Or.inl (by decide))
  have l_8 := kp_5 2 _ l2 (by decide) (Or.inr (q_is_cat f2 (Or.inl rfl)))
  refine ol_X12_drops_2 hd  ?_ hQ BIG (Ext.rf _) h R l_6 f0 l_7 f1 l_8 f2 l_4 f_2
  intro m_118 E_119
  intro S_115 L_116 v_106 v_107 v_108
  intro h R_117 l_109 f_112 l_110 f_113 l_111 f_114
  have E_120 := E_119
  refine go_aload_n (n := 0) (by decide +kernel) l_109 f_112 ?_
  obtain ⟨x_124, e_125, h⟩ := lx_s h
  refine go_getf (x := 552) (ci := 13) (kf := 46) (fin := 0) (t := 0) (by decide +kernel) (by decide +kernel) (by decide +kernel) R_117 f_112 (fx_k (c := 13) R_117 (by decide +kernel)) fun v_121 f_122 => ?_
  have f_123 := q_is_eq f_122 e_125
  refine go_iconst (n := 1) (z := 1) (by decide +kernel) (by decide) fun v_126 f_127 => ?_
  refine go_isub (by decide +kernel) f_123 f_127 fun v_128 f_129 => ?_
  obtain ⟨x_130, e_131, h⟩ := lx_s h
  have f_132 := q_is_eq f_129 e_131
  refine go_istore_n (n := 3) (by decide +kernel) (by decide +kernel) f_132 fun L_133 l_134 kp_135 => ?_
  have l_136 := kp_135 0 _ l_109 (by decide) (Or.inl (by decide))
  have l_137 := kp_135 1 _ l_110 (by decide) (Or.inl (by decide))
  have l_138 := kp_135 2 _ l_111 (by decide) (Or.inr (q_is_cat f_114 (Or.inl rfl)))
  refine ol_X12_drops_59 hd  ?_ (fun b => hQ (Ext.tr E_120 b)) BIG (Ext.rf _) h R_117 l_136 f_112 l_137 f_113 l_138 f_114 l_134 f_132
  intro m_214 E_215
  intro S_211 L_212 v_202 v_203 v_204
  intro h R_213 l_205 f_208 l_206 f_209 l_207 f_210
  have E_216 := Ext.tr E_120 E_215
  refine go_iconst (n := 0) (z := 0) (by decide +kernel) (by decide) fun v_217 f_218 => ?_
  refine go_istore_n (n := 3) (by decide +kernel) (by decide +kernel) f_218 fun L_219 l_220 kp_221 => ?_
  have l_222 := kp_221 0 _ l_205 (by decide) (Or.inl (by decide))
  have l_223 := kp_221 1 _ l_206 (by decide) (Or.inl (by decide))
  have l_224 := kp_221 2 _ l_207 (by decide) (Or.inr (q_is_cat f_210 (Or.inl rfl)))
  refine ol_X12_drops_96 hd   (fun b => hQ (Ext.tr E_216 b)) BIG (Ext.rf _) h R_213 l_222 f_208 l_223 f_209 l_224 f_210 l_220 f_218
end DF34
