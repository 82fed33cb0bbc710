/-! Methods as functions (written by wip/whole/dec.py), 34: X12_isSafe, X12_makesActivity, X12_makesTimer, X12_removesTimer, X12_stops, X12_drops. -/
section DF34
noncomputable def fm_X12_isSafe (p1 p2 : Int) (m0 : MM) : Option (Int × MM) := gd (0 ≤ p1 ∧ p1 < 30) <| lx (m0 91 p1) fun x_8 =>
lx (m0 86 p1) fun x_22 =>
bd (fm_X12_tellsRun p1 p2 x_8 x_22 x_8 m0) fun x_25 m_26 =>
lx (m_26 68 114) fun x_39 =>
if x_39 = 0 then
some (1, m_26)
else
some (0, m_26)
set_option maxHeartbeats 4000000 in
theorem om_X12_isSafe {xs : List Int32} {d : Nat} {S : QS} {m0 : MM} {p1 p2 : Int} {v0 : Value} {v1 : Value} {v2 : Value} {rz : Int} {rm : MM}
  (hd : 15 ≤ d) (R : Rp S m0) (f0 : q_is 2 v0 68) (f1 : q_is 0 v1 p1) (f2 : q_is 0 v2 p2)
  (h : fm_X12_isSafe p1 p2 m0 = some (rz, rm)) : Mt xs d 250 [v0, v1, v2] S (Cr 0 m0 rm rz) := by
  obtain ⟨d, rfl⟩ : ∃ e, d = e + 1 := ⟨d - 1, by omega⟩
  have hd : 14 ≤ d := Nat.le_of_succ_le_succ hd
  refine Mt.of (M := qM_X12_isSafe) rfl (by rw [sl_1 (q_is_cat f0 (Or.inr rfl)), sl_1 (q_is_cat f1 (Or.inl rfl)), sl_1 (q_is_cat f2 (Or.inl rfl)), sl_0]; decide) ?_
  rw [la_1 (q_is_cat f0 (Or.inr rfl)), la_1 (q_is_cat f1 (Or.inl rfl)), la_1 (q_is_cat f2 (Or.inl rfl)), la_0]
  obtain ⟨L, hL⟩ : ∃ L : QL, L = [(0, v0), (0 + 1, v1), (0 + 1 + 1, v2)] := ⟨_, rfl⟩
  rw [← hL]
  have l0 : q_lo L 0 = some v0 := by rw [hL]; rfl
  have l1 : q_lo L 1 = some v1 := by rw [hL]; rfl
  have l2 : q_lo L 2 = some v2 := by rw [hL]; rfl
  have hQ : Ext m0 rm → ∀ o S1, Rp S1 rm → q_out 0 o rz → (Cr 0 m0 rm rz) o S1 := fun a o S1 b e => ⟨b, a, e⟩
  unfold fm_X12_isSafe at h
  refine go_aload_n (n := 0) (by decide +kernel) l0 f0 ?_
  refine go_getf (x := 76) (ci := 13) (kf := 24) (fin := 1) (t := 2) (by decide +kernel) (by decide +kernel) (by decide +kernel) R f0 (fx_k (c := 13) R (by decide +kernel)) fun v_1 f_2 => ?_
  have f_3 := q_is_eq (b := 91) f_2 (fx_v R (by decide +kernel)).symm
  refine go_iload_n (n := 1) (by decide +kernel) l1 f1 ?_
  obtain ⟨g_6, h⟩ := gd_s h
  obtain ⟨x_8, e_9, h⟩ := lx_s h
  refine go_iald (kd := 100) (by decide +kernel) rfl R f_3 f1 (fx_k (c := 100) R (by decide +kernel)) (fx_x (a := 91) (ln := 30) R (by decide +kernel) g_6) fun v_4 f_5 => ?_
  have f_7 := q_is_eq f_5 e_9
  refine go_istore_n (n := 3) (by decide +kernel) (by decide +kernel) f_7 fun L_10 l_11 kp_12 => ?_
  have l_13 := kp_12 0 _ l0 (by decide) (Or.inl (by decide))
  have l_14 := kp_12 1 _ l1 (by decide) (Or.inl (by decide))
  have l_15 := kp_12 2 _ l2 (by decide) (Or.inr (q_is_cat f2 (Or.inl rfl)))
  refine go_aload_n (n := 0) (by decide +kernel) l_13 f0 ?_
  refine go_iload_n (n := 1) (by decide +kernel) l_14 f1 ?_
  refine go_iload_n (n := 2) (by decide +kernel) l_15 f2 ?_
  refine go_iload_n (n := 3) (by decide +kernel) l_11 f_7 ?_
  refine go_aload_n (n := 0) (by decide +kernel) l_13 f0 ?_
  refine go_getf (x := 61) (ci := 13) (kf := 19) (fin := 1) (t := 2) (by decide +kernel) (by decide +kernel) (by decide +kernel) R f0 (fx_k (c := 13) R (by decide +kernel)) fun v_16 f_17 => ?_
  have f_18 := q_is_eq (b := 86) f_17 (fx_v R (by decide +kernel)).symm
  refine go_iload_n (n := 1) (by decide +kernel) l_14 f1 ?_
  obtain ⟨x_22, e_23, h⟩ := lx_s h
  refine go_iald (kd := 100) (by decide +kernel) rfl R f_18 f1 (fx_k (c := 100) R (by decide +kernel)) (fx_x (a := 86) (ln := 30) R (by decide +kernel) g_6) fun v_19 f_20 => ?_
  have f_21 := q_is_eq f_20 e_23
  refine go_iload_n (n := 3) (by decide +kernel) l_11 f_7 ?_
  obtain ⟨x_25, m_26, hc_24, h⟩ := bd_s h
  refine go_callV (x := 545) (mi := 249) (n := 5) (ci := 13) (as := [v1, v2, v_4, v_19, v_4]) (rest := []) (by decide +kernel) (by decide +kernel) rfl rfl (q_sum8 _ (Nat.le_of_ble_eq_true rfl)) R f0 (fx_k (c := 13) R (by decide +kernel)) (om_X12_tellsRun (Nat.le_trans (by decide) hd) R f0 f1 f2 f_7 f_21 f_7 hc_24) (fun _ S_29 q_32 => ?_) (fun _ _ qq => kr_x qq)
  refine kr_v q_32 fun R_30 E_31 => ?_
  have E_35 := E_31
  refine go_aload_n (n := 0) (by decide +kernel) l_13 f0 ?_
  obtain ⟨x_39, e_40, h⟩ := lx_s h
  refine go_getf (x := 374) (ci := 13) (kf := 114) (fin := 0) (t := 0) (by decide +kernel) (by decide +kernel) (by decide +kernel) R_30 f0 (fx_k (c := 13) R_30 (by decide +kernel)) fun v_36 f_37 => ?_
  have f_38 := q_is_eq f_37 e_40
  refine go_if (c := .ne) (o := 7) (t := 32) (P := ¬ (x_39 = 0)) (by decide +kernel) (by decide +kernel) f_38 (Iff.rfl) (fun hp_41 => ?_) (fun hp_41 => ?_)
  · have h := it_f hp_41 h
    refine go_iconst (n := 0) (z := 0) (by decide +kernel) (by decide) fun v_42 f_43 => ?_
    cases h
    exact go_iret (by decide +kernel) rfl (Or.inr ⟨rfl, by decide⟩) f_43 (hQ E_35 _ _ R_30 (q_out_v (by decide) f_43))
  · have h := it_n hp_41 h
    refine go_iconst (n := 1) (z := 1) (by decide +kernel) (by decide) fun v_44 f_45 => ?_
    refine go_goto (o := 4) (t := 33) (by decide +kernel) (by decide +kernel) ?_
    cases h
    exact go_iret (by decide +kernel) rfl (Or.inr ⟨rfl, by decide⟩) f_45 (hQ E_35 _ _ R_30 (q_out_v (by decide) f_45))
noncomputable def fm_X12_makesActivity (p1 p2 p3 p4 : Int) (m0 : MM) : Option (Int × MM) := lx (m0 68 34) fun x_4 =>
if x_4 = 60 then
bd (fm_X12_puts p1 2 p2 0 m0) fun x_188 m_189 =>
some (0, m_189)
else
gd (0 ≤ x_4 ∧ x_4 < 60) <| up m0 98 x_4 p1 fun m_16 =>
lx (m_16 68 34) fun x_29 =>
gd (0 ≤ x_29 ∧ x_29 < 60) <| up m_16 99 x_29 p2 fun m_32 =>
lx (m_32 68 34) fun x_45 =>
gd (0 ≤ x_45 ∧ x_45 < 60) <| up m_32 100 x_45 p3 fun m_48 =>
lx (m_48 68 34) fun x_61 =>
gd (0 ≤ x_61 ∧ x_61 < 60) <| up m_48 101 x_61 p4 fun m_64 =>
lx (m_64 68 34) fun x_77 =>
gd (0 ≤ x_77 ∧ x_77 < 60) <| up m_64 102 x_77 0 fun m_82 =>
lx (m_82 68 34) fun x_95 =>
gd (0 ≤ x_95 ∧ x_95 < 60) <| up m_82 103 x_95 0 fun m_100 =>
lx (m_100 68 34) fun x_113 =>
lx (m_100 68 0) fun x_118 =>
gd (0 ≤ x_113 ∧ x_113 < 60) <| up m_100 104 x_113 x_118 fun m_121 =>
lx (m_121 68 34) fun x_134 =>
lx (m_121 68 0) fun x_139 =>
gd (0 ≤ x_134 ∧ x_134 < 60) <| up m_121 105 x_134 x_139 fun m_142 =>
lx (m_142 68 34) fun x_155 =>
gd (0 ≤ x_155 ∧ x_155 < 60) <| up m_142 108 x_155 0 fun m_160 =>
lx (m_160 68 34) fun x_170 =>
up m_160 68 34 (w32 (x_170 + 1)) fun m_176 =>
some (0, m_176)
set_option maxHeartbeats 4000000 in
theorem om_X12_makesActivity {xs : List Int32} {d : Nat} {S : QS} {m0 : MM} {p1 p2 p3 p4 : Int} {v0 : Value} {v1 : Value} {v2 : Value} {v3 : Value} {v4 : Value} {rz : Int} {rm : MM}
  (hd : 4 ≤ d) (R : Rp S m0) (f0 : q_is 2 v0 68) (f1 : q_is 0 v1 p1) (f2 : q_is 0 v2 p2) (f3 : q_is 0 v3 p3) (f4 : q_is 0 v4 p4)
  (h : fm_X12_makesActivity p1 p2 p3 p4 m0 = some (rz, rm)) : Mt xs d 251 [v0, v1, v2, v3, v4] S (Cr 9 m0 rm rz) := by
  obtain ⟨d, rfl⟩ : ∃ e, d = e + 1 := ⟨d - 1, by omega⟩
  have hd : 3 ≤ d := Nat.le_of_succ_le_succ hd
  refine Mt.of (M := qM_X12_makesActivity) rfl (by rw [sl_1 (q_is_cat f0 (Or.inr rfl)), sl_1 (q_is_cat f1 (Or.inl rfl)), sl_1 (q_is_cat f2 (Or.inl rfl)), sl_1 (q_is_cat f3 (Or.inl rfl)), sl_1 (q_is_cat f4 (Or.inl rfl)), sl_0]; decide) ?_
  rw [la_1 (q_is_cat f0 (Or.inr rfl)), la_1 (q_is_cat f1 (Or.inl rfl)), la_1 (q_is_cat f2 (Or.inl rfl)), la_1 (q_is_cat f3 (Or.inl rfl)), la_1 (q_is_cat f4 (Or.inl rfl)), la_0]
  obtain ⟨L, hL⟩ : ∃ L : QL, L = [(0, v0), (0 + 1, v1), (0 + 1 + 1, v2), (0 + 1 + 1 + 1, v3), (0 + 1 + 1 + 1 + 1, v4)] := ⟨_, rfl⟩
  rw [← hL]
  have l0 : q_lo L 0 = some v0 := by rw [hL]; rfl
  have l1 : q_lo L 1 = some v1 := by rw [hL]; rfl
  have l2 : q_lo L 2 = some v2 := by rw [hL]; rfl
  have l3 : q_lo L 3 = some v3 := by rw [hL]; rfl
  have l4 : q_lo L 4 = some v4 := by rw [hL]; rfl
  have hQ : Ext m0 rm → ∀ o S1, Rp S1 rm → q_out 9 o rz → (Cr 9 m0 rm rz) o S1 := fun a o S1 b e => ⟨b, a, e⟩
  unfold fm_X12_makesActivity at h
  refine go_aload_n (n := 0) (by decide +kernel) l0 f0 ?_
  obtain ⟨x_4, e_5, h⟩ := lx_s h
  refine go_getf (x := 549) (ci := 13) (kf := 34) (fin := 0) (t := 0) (by decide +kernel) (by decide +kernel) (by decide +kernel) R f0 (fx_k (c := 13) R (by decide +kernel)) fun v_1 f_2 => ?_
  have f_3 := q_is_eq f_2 e_5
  refine go_bipush (n := 60) (z := 60) (by decide +kernel) (by decide) fun v_6 f_7 => ?_
  refine go_icmp (c := .ne) (o := 13) (t := 19) (P := ¬ (x_4 = 60)) (by decide +kernel) (by decide +kernel) f_3 f_7 (Iff.rfl) (fun hp_8 => ?_) (fun hp_8 => ?_)
  · have h := it_f hp_8 h
    refine go_aload_n (n := 0) (by decide +kernel) l0 f0 ?_
    refine go_getf (x := 104) (ci := 13) (kf := 35) (fin := 1) (t := 2) (by decide +kernel) (by decide +kernel) (by decide +kernel) R f0 (fx_k (c := 13) R (by decide +kernel)) fun v_9 f_10 => ?_
    have f_11 := q_is_eq (b := 98) f_10 (fx_v R (by decide +kernel)).symm
    refine go_aload_n (n := 0) (by decide +kernel) l0 f0 ?_
    refine go_getf (x := 549) (ci := 13) (kf := 34) (fin := 0) (t := 0) (by decide +kernel) (by decide +kernel) (by decide +kernel) R f0 (fx_k (c := 13) R (by decide +kernel)) fun v_12 f_13 => ?_
    have f_14 := q_is_eq f_13 e_5
    refine go_iload_n (n := 1) (by decide +kernel) l1 f1 ?_
    obtain ⟨g_15, h⟩ := gd_s h
    obtain ⟨m_16, e_17, h⟩ := up_s h
    refine go_iast (kd := 100) (by decide +kernel) rfl R f_11 f_14 f1 (fx_k (c := 100) R (by decide +kernel)) (fx_x (a := 98) (ln := 60) R (by decide +kernel) g_15) e_17 (fx_a R.2 (fx_k (c := 100) R (by decide +kernel)) (And.left (fx_x (a := 98) (ln := 60) R (by decide +kernel) g_15)) (by decide +kernel)) fun S_18 R_19 E_20 => ?_
    have E_22 := E_20
    refine go_aload_n (n := 0) (by decide +kernel) l0 f0 ?_
    refine go_getf (x := 107) (ci := 13) (kf := 36) (fin := 1) (t := 2) (by decide +kernel) (by decide +kernel) (by decide +kernel) R_19 f0 (fx_k (c := 13) R_19 (by decide +kernel)) fun v_23 f_24 => ?_
    have f_25 := q_is_eq (b := 99) f_24 (fx_v R_19 (by decide +kernel)).symm
    refine go_aload_n (n := 0) (by decide +kernel) l0 f0 ?_
    obtain ⟨x_29, e_30, h⟩ := lx_s h
    refine go_getf (x := 549) (ci := 13) (kf := 34) (fin := 0) (t := 0) (by decide +kernel) (by decide +kernel) (by decide +kernel) R_19 f0 (fx_k (c := 13) R_19 (by decide +kernel)) fun v_26 f_27 => ?_
    have f_28 := q_is_eq f_27 e_30
    refine go_iload_n (n := 2) (by decide +kernel) l2 f2 ?_
    obtain ⟨g_31, h⟩ := gd_s h
    obtain ⟨m_32, e_33, h⟩ := up_s h
    refine go_iast (kd := 100) (by decide +kernel) rfl R_19 f_25 f_28 f2 (fx_k (c := 100) R_19 (by decide +kernel)) (fx_x (a := 99) (ln := 60) R_19 (by decide +kernel) g_31) e_33 (fx_a R_19.2 (fx_k (c := 100) R_19 (by decide +kernel)) (And.left (fx_x (a := 99) (ln := 60) R_19 (by decide +kernel) g_31)) (by decide +kernel)) fun S_34 R_35 E_36 => ?_
    have E_38 := Ext.tr E_22 E_36
    refine go_aload_n (n := 0) (by decide +kernel) l0 f0 ?_
    refine go_getf (x := 110) (ci := 13) (kf := 37) (fin := 1) (t := 2) (by decide +kernel) (by decide +kernel) (by decide +kernel) R_35 f0 (fx_k (c := 13) R_35 (by decide +kernel)) fun v_39 f_40 => ?_
    have f_41 := q_is_eq (b := 100) f_40 (fx_v R_35 (by decide +kernel)).symm
    refine go_aload_n (n := 0) (by decide +kernel) l0 f0 ?_
    obtain ⟨x_45, e_46, h⟩ := lx_s h
    refine go_getf (x := 549) (ci := 13) (kf := 34) (fin := 0) (t := 0) (by decide +kernel) (by decide +kernel) (by decide +kernel) R_35 f0 (fx_k (c := 13) R_35 (by decide +kernel)) fun v_42 f_43 => ?_
    have f_44 := q_is_eq f_43 e_46
    refine go_iload_n (n := 3) (by decide +kernel) l3 f3 ?_
    obtain ⟨g_47, h⟩ := gd_s h
    obtain ⟨m_48, e_49, h⟩ := up_s h
    refine go_iast (kd := 100) (by decide +kernel) rfl R_35 f_41 f_44 f3 (fx_k (c := 100) R_35 (by decide +kernel)) (fx_x (a := 100) (ln := 60) R_35 (by decide +kernel) g_47) e_49 (fx_a R_35.2 (fx_k (c := 100) R_35 (by decide +kernel)) (And.left (fx_x (a := 100) (ln := 60) R_35 (by decide +kernel) g_47)) (by decide +kernel)) fun S_50 R_51 E_52 => ?_
    have E_54 := Ext.tr E_38 E_52
    refine go_aload_n (n := 0) (by decide +kernel) l0 f0 ?_
    refine go_getf (x := 113) (ci := 13) (kf := 38) (fin := 1) (t := 2) (by decide +kernel) (by decide +kernel) (by decide +kernel) R_51 f0 (fx_k (c := 13) R_51 (by decide +kernel)) fun v_55 f_56 => ?_
    have f_57 := q_is_eq (b := 101) f_56 (fx_v R_51 (by decide +kernel)).symm
    refine go_aload_n (n := 0) (by decide +kernel) l0 f0 ?_
    obtain ⟨x_61, e_62, h⟩ := lx_s h
    refine go_getf (x := 549) (ci := 13) (kf := 34) (fin := 0) (t := 0) (by decide +kernel) (by decide +kernel) (by decide +kernel) R_51 f0 (fx_k (c := 13) R_51 (by decide +kernel)) fun v_58 f_59 => ?_
    have f_60 := q_is_eq f_59 e_62
    refine go_iload (n := 4) (by decide +kernel) l4 f4 ?_
    obtain ⟨g_63, h⟩ := gd_s h
    obtain ⟨m_64, e_65, h⟩ := up_s h
    refine go_iast (kd := 100) (by decide +kernel) rfl R_51 f_57 f_60 f4 (fx_k (c := 100) R_51 (by decide +kernel)) (fx_x (a := 101) (ln := 60) R_51 (by decide +kernel) g_63) e_65 (fx_a R_51.2 (fx_k (c := 100) R_51 (by decide +kernel)) (And.left (fx_x (a := 101) (ln := 60) R_51 (by decide +kernel) g_63)) (by decide +kernel)) fun S_66 R_67 E_68 => ?_
    have E_70 := Ext.tr E_54 E_68
    refine go_aload_n (n := 0) (by decide +kernel) l0 f0 ?_
    refine go_getf (x := 116) (ci := 13) (kf := 39) (fin := 1) (t := 2) (by decide +kernel) (by decide +kernel) (by decide +kernel) R_67 f0 (fx_k (c := 13) R_67 (by decide +kernel)) fun v_71 f_72 => ?_
    have f_73 := q_is_eq (b := 102) f_72 (fx_v R_67 (by decide +kernel)).symm
    refine go_aload_n (n := 0) (by decide +kernel) l0 f0 ?_
    obtain ⟨x_77, e_78, h⟩ := lx_s h
    refine go_getf (x := 549) (ci := 13) (kf := 34) (fin := 0) (t := 0) (by decide +kernel) (by decide +kernel) (by decide +kernel) R_67 f0 (fx_k (c := 13) R_67 (by decide +kernel)) fun v_74 f_75 => ?_
    have f_76 := q_is_eq f_75 e_78
    refine go_iconst (n := 0) (z := 0) (by decide +kernel) (by decide) fun v_79 f_80 => ?_
    obtain ⟨g_81, h⟩ := gd_s h
    obtain ⟨m_82, e_83, h⟩ := up_s h
    refine go_iast (kd := 100) (by decide +kernel) rfl R_67 f_73 f_76 f_80 (fx_k (c := 100) R_67 (by decide +kernel)) (fx_x (a := 102) (ln := 60) R_67 (by decide +kernel) g_81) e_83 (fx_a R_67.2 (fx_k (c := 100) R_67 (by decide +kernel)) (And.left (fx_x (a := 102) (ln := 60) R_67 (by decide +kernel) g_81)) (by decide +kernel)) fun S_84 R_85 E_86 => ?_
    have E_88 := Ext.tr E_70 E_86
    refine go_aload_n (n := 0) (by decide +kernel) l0 f0 ?_
    refine go_getf (x := 119) (ci := 13) (kf := 40) (fin := 1) (t := 2) (by decide +kernel) (by decide +kernel) (by decide +kernel) R_85 f0 (fx_k (c := 13) R_85 (by decide +kernel)) fun v_89 f_90 => ?_
    have f_91 := q_is_eq (b := 103) f_90 (fx_v R_85 (by decide +kernel)).symm
    refine go_aload_n (n := 0) (by decide +kernel) l0 f0 ?_
    obtain ⟨x_95, e_96, h⟩ := lx_s h
    refine go_getf (x := 549) (ci := 13) (kf := 34) (fin := 0) (t := 0) (by decide +kernel) (by decide +kernel) (by decide +kernel) R_85 f0 (fx_k (c := 13) R_85 (by decide +kernel)) fun v_92 f_93 => ?_
    have f_94 := q_is_eq f_93 e_96
    refine go_iconst (n := 0) (z := 0) (by decide +kernel) (by decide) fun v_97 f_98 => ?_
    obtain ⟨g_99, h⟩ := gd_s h
    obtain ⟨m_100, e_101, h⟩ := up_s h
    refine go_iast (kd := 100) (by decide +kernel) rfl R_85 f_91 f_94 f_98 (fx_k (c := 100) R_85 (by decide +kernel)) (fx_x (a := 103) (ln := 60) R_85 (by decide +kernel) g_99) e_101 (fx_a R_85.2 (fx_k (c := 100) R_85 (by decide +kernel)) (And.left (fx_x (a := 103) (ln := 60) R_85 (by decide +kernel) g_99)) (by decide +kernel)) fun S_102 R_103 E_104 => ?_
    have E_106 := Ext.tr E_88 E_104
    refine go_aload_n (n := 0) (by decide +kernel) l0 f0 ?_
    refine go_getf (x := 122) (ci := 13) (kf := 41) (fin := 1) (t := 2) (by decide +kernel) (by decide +kernel) (by decide +kernel) R_103 f0 (fx_k (c := 13) R_103 (by decide +kernel)) fun v_107 f_108 => ?_
    have f_109 := q_is_eq (b := 104) f_108 (fx_v R_103 (by decide +kernel)).symm
    refine go_aload_n (n := 0) (by decide +kernel) l0 f0 ?_
    obtain ⟨x_113, e_114, h⟩ := lx_s h
    refine go_getf (x := 549) (ci := 13) (kf := 34) (fin := 0) (t := 0) (by decide +kernel) (by decide +kernel) (by decide +kernel) R_103 f0 (fx_k (c := 13) R_103 (by decide +kernel)) fun v_110 f_111 => ?_
    have f_112 := q_is_eq f_111 e_114
    refine go_aload_n (n := 0) (by decide +kernel) l0 f0 ?_
    obtain ⟨x_118, e_119, h⟩ := lx_s h
    refine go_getf (x := 357) (ci := 13) (kf := 0) (fin := 0) (t := 0) (by decide +kernel) (by decide +kernel) (by decide +kernel) R_103 f0 (fx_k (c := 13) R_103 (by decide +kernel)) fun v_115 f_116 => ?_
    have f_117 := q_is_eq f_116 e_119
    obtain ⟨g_120, h⟩ := gd_s h
    obtain ⟨m_121, e_122, h⟩ := up_s h
    refine go_iast (kd := 100) (by decide +kernel) rfl R_103 f_109 f_112 f_117 (fx_k (c := 100) R_103 (by decide +kernel)) (fx_x (a := 104) (ln := 60) R_103 (by decide +kernel) g_120) e_122 (fx_a R_103.2 (fx_k (c := 100) R_103 (by decide +kernel)) (And.left (fx_x (a := 104) (ln := 60) R_103 (by decide +kernel) g_120)) (by decide +kernel)) fun S_123 R_124 E_125 => ?_
    have E_127 := Ext.tr E_106 E_125
    refine go_aload_n (n := 0) (by decide +kernel) l0 f0 ?_
    refine go_getf (x := 125) (ci := 13) (kf := 42) (fin := 1) (t := 2) (by decide +kernel) (by decide +kernel) (by decide +kernel) R_124 f0 (fx_k (c := 13) R_124 (by decide +kernel)) fun v_128 f_129 => ?_
    have f_130 := q_is_eq (b := 105) f_129 (fx_v R_124 (by decide +kernel)).symm
    refine go_aload_n (n := 0) (by decide +kernel) l0 f0 ?_
    obtain ⟨x_134, e_135, h⟩ := lx_s h
    refine go_getf (x := 549) (ci := 13) (kf := 34) (fin := 0) (t := 0) (by decide +kernel) (by decide +kernel) (by decide +kernel) R_124 f0 (fx_k (c := 13) R_124 (by decide +kernel)) fun v_131 f_132 => ?_
    have f_133 := q_is_eq f_132 e_135
    refine go_aload_n (n := 0) (by decide +kernel) l0 f0 ?_
    obtain ⟨x_139, e_140, h⟩ := lx_s h
    refine go_getf (x := 357) (ci := 13) (kf := 0) (fin := 0) (t := 0) (by decide +kernel) (by decide +kernel) (by decide +kernel) R_124 f0 (fx_k (c := 13) R_124 (by decide +kernel)) fun v_136 f_137 => ?_
    have f_138 := q_is_eq f_137 e_140
    obtain ⟨g_141, h⟩ := gd_s h
    obtain ⟨m_142, e_143, h⟩ := up_s h
    refine go_iast (kd := 100) (by decide +kernel) rfl R_124 f_130 f_133 f_138 (fx_k (c := 100) R_124 (by decide +kernel)) (fx_x (a := 105) (ln := 60) R_124 (by decide +kernel) g_141) e_143 (fx_a R_124.2 (fx_k (c := 100) R_124 (by decide +kernel)) (And.left (fx_x (a := 105) (ln := 60) R_124 (by decide +kernel) g_141)) (by decide +kernel)) fun S_144 R_145 E_146 => ?_
    have E_148 := Ext.tr E_127 E_146
    refine go_aload_n (n := 0) (by decide +kernel) l0 f0 ?_
    refine go_getf (x := 134) (ci := 13) (kf := 45) (fin := 1) (t := 2) (by decide +kernel) (by decide +kernel) (by decide +kernel) R_145 f0 (fx_k (c := 13) R_145 (by decide +kernel)) fun v_149 f_150 => ?_
    have f_151 := q_is_eq (b := 108) f_150 (fx_v R_145 (by decide +kernel)).symm
    refine go_aload_n (n := 0) (by decide +kernel) l0 f0 ?_
    obtain ⟨x_155, e_156, h⟩ := lx_s h
    refine go_getf (x := 549) (ci := 13) (kf := 34) (fin := 0) (t := 0) (by decide +kernel) (by decide +kernel) (by decide +kernel) R_145 f0 (fx_k (c := 13) R_145 (by decide +kernel)) fun v_152 f_153 => ?_
    have f_154 := q_is_eq f_153 e_156
    refine go_iconst (n := 0) (z := 0) (by decide +kernel) (by decide) fun v_157 f_158 => ?_
    obtain ⟨g_159, h⟩ := gd_s h
    obtain ⟨m_160, e_161, h⟩ := up_s h
    refine go_iast (kd := 100) (by decide +kernel) rfl R_145 f_151 f_154 f_158 (fx_k (c := 100) R_145 (by decide +kernel)) (fx_x (a := 108) (ln := 60) R_145 (by decide +kernel) g_159) e_161 (fx_a R_145.2 (fx_k (c := 100) R_145 (by decide +kernel)) (And.left (fx_x (a := 108) (ln := 60) R_145 (by decide +kernel) g_159)) (by decide +kernel)) fun S_162 R_163 E_164 => ?_
    have E_166 := Ext.tr E_148 E_164
    refine go_aload_n (n := 0) (by decide +kernel) l0 f0 ?_
    refine go_dup (by decide +kernel) f0 (Or.inr rfl) ?_
    obtain ⟨x_170, e_171, h⟩ := lx_s h
    refine go_getf (x := 549) (ci := 13) (kf := 34) (fin := 0) (t := 0) (by decide +kernel) (by decide +kernel) (by decide +kernel) R_163 f0 (fx_k (c := 13) R_163 (by decide +kernel)) fun v_167 f_168 => ?_
    have f_169 := q_is_eq f_168 e_171
    refine go_iconst (n := 1) (z := 1) (by decide +kernel) (by decide) fun v_172 f_173 => ?_
    refine go_iadd (by decide +kernel) f_169 f_173 fun v_174 f_175 => ?_
    obtain ⟨m_176, e_177, h⟩ := up_s h
    refine go_putf (x := 549) (ci := 13) (kf := 34) (fin := 0) (zt := 0) (by decide +kernel) (by decide +kernel) (by decide) (by decide +kernel) (by decide) (Or.inl rfl) R_163 f0 f_175 (fun hq => absurd hq (by decide)) (fx_k (c := 13) R_163 (by decide +kernel)) e_177 (fx_f (j := 34) R_163.2 (fx_k (c := 13) R_163 (by decide +kernel)) (by decide +kernel)) fun S_178 R_179 E_180 => ?_
    have E_182 := Ext.tr E_166 E_180
    cases h
    exact go_vret (by decide +kernel) rfl (hQ E_182 _ _ R_179 q_out_n)
  · have h := it_n hp_8 h
    refine go_aload_n (n := 0) (by decide +kernel) l0 f0 ?_
    refine go_iload_n (n := 1) (by decide +kernel) l1 f1 ?_
    refine go_iconst (n := 2) (z := 2) (by decide +kernel) (by decide) fun v_183 f_184 => ?_
    refine go_iload_n (n := 2) (by decide +kernel) l2 f2 ?_
    refine go_iconst (n := 0) (z := 0) (by decide +kernel) (by decide) fun v_185 f_186 => ?_
    obtain ⟨x_188, m_189, hc_187, h⟩ := bd_s h
    refine go_callV (x := 360) (mi := 210) (n := 4) (ci := 13) (as := [v1, v_183, v2, v_185]) (rest := []) (by decide +kernel) (by decide +kernel) rfl rfl (q_sum8 _ (Nat.le_of_ble_eq_true rfl)) R f0 (fx_k (c := 13) R (by decide +kernel)) (om_X12_puts (Nat.le_trans (by decide) hd) R f0 f1 f_184 f2 f_186 hc_187) (fun _ S_192 q_195 => ?_) (fun _ _ qq => kr_x qq)
    refine kr_z (by decide) q_195 fun v_190 f_191 R_193 E_194 => ?_
    have E_198 := E_194
    refine go_pop (by decide +kernel) f_191 (Or.inl rfl) ?_
    cases h
    exact go_vret (by decide +kernel) rfl (hQ E_198 _ _ R_193 q_out_n)
noncomputable def fm_X12_makesTimer (p1 p2 p3 : Int) (m0 : MM) : Option (Int × MM) := lx (m0 68 46) fun x_7 =>
gd (0 ≤ x_7 ∧ x_7 < 512) <| up m0 109 x_7 p1 fun m_10 =>
lx (m_10 68 46) fun x_23 =>
gd (0 ≤ x_23 ∧ x_23 < 512) <| up m_10 110 x_23 p2 fun m_26 =>
lx (m_26 68 46) fun x_39 =>
gd (0 ≤ x_39 ∧ x_39 < 512) <| up m_26 111 x_39 p3 fun m_42 =>
lx (m_42 68 46) fun x_52 =>
up m_42 68 46 (w32 (x_52 + 1)) fun m_58 =>
some (0, m_58)
set_option maxHeartbeats 4000000 in
theorem om_X12_makesTimer {xs : List Int32} {d : Nat} {S : QS} {m0 : MM} {p1 p2 p3 : Int} {v0 : Value} {v1 : Value} {v2 : Value} {v3 : Value} {rz : Int} {rm : MM}
  (hd : 1 ≤ d) (R : Rp S m0) (f0 : q_is 2 v0 68) (f1 : q_is 0 v1 p1) (f2 : q_is 0 v2 p2) (f3 : q_is 0 v3 p3)
  (h : fm_X12_makesTimer p1 p2 p3 m0 = some (rz, rm)) : Mt xs d 252 [v0, v1, v2, v3] S (Cr 9 m0 rm rz) := by
  obtain ⟨d, rfl⟩ : ∃ e, d = e + 1 := ⟨d - 1, by omega⟩
  have hd : 0 ≤ d := Nat.le_of_succ_le_succ hd
  refine Mt.of (M := qM_X12_makesTimer) rfl (by rw [sl_1 (q_is_cat f0 (Or.inr rfl)), sl_1 (q_is_cat f1 (Or.inl rfl)), sl_1 (q_is_cat f2 (Or.inl rfl)), sl_1 (q_is_cat f3 (Or.inl rfl)), sl_0]; decide) ?_
  rw [la_1 (q_is_cat f0 (Or.inr rfl)), la_1 (q_is_cat f1 (Or.inl rfl)), la_1 (q_is_cat f2 (Or.inl rfl)), la_1 (q_is_cat f3 (Or.inl rfl)), la_0]
  obtain ⟨L, hL⟩ : ∃ L : QL, L = [(0, v0), (0 + 1, v1), (0 + 1 + 1, v2), (0 + 1 + 1 + 1, v3)] := ⟨_, rfl⟩
  rw [← hL]
  have l0 : q_lo L 0 = some v0 := by rw [hL]; rfl
  have l1 : q_lo L 1 = some v1 := by rw [hL]; rfl
  have l2 : q_lo L 2 = some v2 := by rw [hL]; rfl
  have l3 : q_lo L 3 = some v3 := by rw [hL]; rfl
  have hQ : Ext m0 rm → ∀ o S1, Rp S1 rm → q_out 9 o rz → (Cr 9 m0 rm rz) o S1 := fun a o S1 b e => ⟨b, a, e⟩
  unfold fm_X12_makesTimer at h
  refine go_aload_n (n := 0) (by decide +kernel) l0 f0 ?_
  refine go_getf (x := 137) (ci := 13) (kf := 47) (fin := 1) (t := 2) (by decide +kernel) (by decide +kernel) (by decide +kernel) R f0 (fx_k (c := 13) R (by decide +kernel)) fun v_1 f_2 => ?_
  have f_3 := q_is_eq (b := 109) f_2 (fx_v R (by decide +kernel)).symm
  refine go_aload_n (n := 0) (by decide +kernel) l0 f0 ?_
  obtain ⟨x_7, e_8, h⟩ := lx_s h
  refine go_getf (x := 552) (ci := 13) (kf := 46) (fin := 0) (t := 0) (by decide +kernel) (by decide +kernel) (by decide +kernel) R f0 (fx_k (c := 13) R (by decide +kernel)) fun v_4 f_5 => ?_
  have f_6 := q_is_eq f_5 e_8
  refine go_iload_n (n := 1) (by decide +kernel) l1 f1 ?_
  obtain ⟨g_9, h⟩ := gd_s h
  obtain ⟨m_10, e_11, h⟩ := up_s h
  refine go_iast (kd := 100) (by decide +kernel) rfl R f_3 f_6 f1 (fx_k (c := 100) R (by decide +kernel)) (fx_x (a := 109) (ln := 512) R (by decide +kernel) g_9) e_11 (fx_a R.2 (fx_k (c := 100) R (by decide +kernel)) (And.left (fx_x (a := 109) (ln := 512) R (by decide +kernel) g_9)) (by decide +kernel)) fun S_12 R_13 E_14 => ?_
  have E_16 := E_14
  refine go_aload_n (n := 0) (by decide +kernel) l0 f0 ?_
  refine go_getf (x := 140) (ci := 13) (kf := 48) (fin := 1) (t := 2) (by decide +kernel) (by decide +kernel) (by decide +kernel) R_13 f0 (fx_k (c := 13) R_13 (by decide +kernel)) fun v_17 f_18 => ?_
  have f_19 := q_is_eq (b := 110) f_18 (fx_v R_13 (by decide +kernel)).symm
  refine go_aload_n (n := 0) (by decide +kernel) l0 f0 ?_
  obtain ⟨x_23, e_24, h⟩ := lx_s h
  refine go_getf (x := 552) (ci := 13) (kf := 46) (fin := 0) (t := 0) (by decide +kernel) (by decide +kernel) (by decide +kernel) R_13 f0 (fx_k (c := 13) R_13 (by decide +kernel)) fun v_20 f_21 => ?_
  have f_22 := q_is_eq f_21 e_24
  refine go_iload_n (n := 2) (by decide +kernel) l2 f2 ?_
  obtain ⟨g_25, h⟩ := gd_s h
  obtain ⟨m_26, e_27, h⟩ := up_s h
  refine go_iast (kd := 100) (by decide +kernel) rfl R_13 f_19 f_22 f2 (fx_k (c := 100) R_13 (by decide +kernel)) (fx_x (a := 110) (ln := 512) R_13 (by decide +kernel) g_25) e_27 (fx_a R_13.2 (fx_k (c := 100) R_13 (by decide +kernel)) (And.left (fx_x (a := 110) (ln := 512) R_13 (by decide +kernel) g_25)) (by decide +kernel)) fun S_28 R_29 E_30 => ?_
  have E_32 := Ext.tr E_16 E_30
  refine go_aload_n (n := 0) (by decide +kernel) l0 f0 ?_
  refine go_getf (x := 143) (ci := 13) (kf := 49) (fin := 1) (t := 2) (by decide +kernel) (by decide +kernel) (by decide +kernel) R_29 f0 (fx_k (c := 13) R_29 (by decide +kernel)) fun v_33 f_34 => ?_
  have f_35 := q_is_eq (b := 111) f_34 (fx_v R_29 (by decide +kernel)).symm
  refine go_aload_n (n := 0) (by decide +kernel) l0 f0 ?_
  obtain ⟨x_39, e_40, h⟩ := lx_s h
  refine go_getf (x := 552) (ci := 13) (kf := 46) (fin := 0) (t := 0) (by decide +kernel) (by decide +kernel) (by decide +kernel) R_29 f0 (fx_k (c := 13) R_29 (by decide +kernel)) fun v_36 f_37 => ?_
  have f_38 := q_is_eq f_37 e_40
  refine go_iload_n (n := 3) (by decide +kernel) l3 f3 ?_
  obtain ⟨g_41, h⟩ := gd_s h
  obtain ⟨m_42, e_43, h⟩ := up_s h
  refine go_iast (kd := 100) (by decide +kernel) rfl R_29 f_35 f_38 f3 (fx_k (c := 100) R_29 (by decide +kernel)) (fx_x (a := 111) (ln := 512) R_29 (by decide +kernel) g_41) e_43 (fx_a R_29.2 (fx_k (c := 100) R_29 (by decide +kernel)) (And.left (fx_x (a := 111) (ln := 512) R_29 (by decide +kernel) g_41)) (by decide +kernel)) fun S_44 R_45 E_46 => ?_
  have E_48 := Ext.tr E_32 E_46
  refine go_aload_n (n := 0) (by decide +kernel) l0 f0 ?_
  refine go_dup (by decide +kernel) f0 (Or.inr rfl) ?_
  obtain ⟨x_52, e_53, h⟩ := lx_s h
  refine go_getf (x := 552) (ci := 13) (kf := 46) (fin := 0) (t := 0) (by decide +kernel) (by decide +kernel) (by decide +kernel) R_45 f0 (fx_k (c := 13) R_45 (by decide +kernel)) fun v_49 f_50 => ?_
  have f_51 := q_is_eq f_50 e_53
  refine go_iconst (n := 1) (z := 1) (by decide +kernel) (by decide) fun v_54 f_55 => ?_
  refine go_iadd (by decide +kernel) f_51 f_55 fun v_56 f_57 => ?_
  obtain ⟨m_58, e_59, h⟩ := up_s h
  refine go_putf (x := 552) (ci := 13) (kf := 46) (fin := 0) (zt := 0) (by decide +kernel) (by decide +kernel) (by decide) (by decide +kernel) (by decide) (Or.inl rfl) R_45 f0 f_57 (fun hq => absurd hq (by decide)) (fx_k (c := 13) R_45 (by decide +kernel)) e_59 (fx_f (j := 46) R_45.2 (fx_k (c := 13) R_45 (by decide +kernel)) (by decide +kernel)) fun S_60 R_61 E_62 => ?_
  have E_64 := Ext.tr E_48 E_62
  cases h
  exact go_vret (by decide +kernel) rfl (hQ E_64 _ _ R_61 q_out_n)
noncomputable def fm_X12_removesTimer (p1 : Int) (m0 : MM) : Option (Int × MM) := lx (m0 68 46) fun x_4 =>
up m0 68 46 (w32 (x_4 - 1)) fun m_10 =>
lx (m_10 68 46) fun x_26 =>
gd (0 ≤ x_26 ∧ x_26 < 512) <| lx (m_10 109 x_26) fun x_32 =>
gd (0 ≤ p1 ∧ p1 < 512) <| up m_10 109 p1 x_32 fun m_35 =>
lx (m_35 68 46) fun x_51 =>
gd (0 ≤ x_51 ∧ x_51 < 512) <| lx (m_35 110 x_51) fun x_57 =>
up m_35 110 p1 x_57 fun m_59 =>
lx (m_59 68 46) fun x_75 =>
gd (0 ≤ x_75 ∧ x_75 < 512) <| lx (m_59 111 x_75) fun x_81 =>
up m_59 111 p1 x_81 fun m_83 =>
some (0, m_83)
set_option maxHeartbeats 4000000 in
theorem om_X12_removesTimer {xs : List Int32} {d : Nat} {S : QS} {m0 : MM} {p1 : Int} {v0 : Value} {v1 : Value} {rz : Int} {rm : MM}
  (hd : 1 ≤ d) (R : Rp S m0) (f0 : q_is 2 v0 68) (f1 : q_is 0 v1 p1)
  (h : fm_X12_removesTimer p1 m0 = some (rz, rm)) : Mt xs d 253 [v0, v1] S (Cr 9 m0 rm rz) := by
  obtain ⟨d, rfl⟩ : ∃ e, d = e + 1 := ⟨d - 1, by omega⟩
  have hd : 0 ≤ d := Nat.le_of_succ_le_succ hd
  refine Mt.of (M := qM_X12_removesTimer) rfl (by rw [sl_1 (q_is_cat f0 (Or.inr rfl)), sl_1 (q_is_cat f1 (Or.inl rfl)), sl_0]; decide) ?_
  rw [la_1 (q_is_cat f0 (Or.inr rfl)), la_1 (q_is_cat f1 (Or.inl rfl)), la_0]
  obtain ⟨L, hL⟩ : ∃ L : QL, L = [(0, v0), (0 + 1, v1)] := ⟨_, rfl⟩
  rw [← hL]
  have l0 : q_lo L 0 = some v0 := by rw [hL]; rfl
  have l1 : q_lo L 1 = some v1 := by rw [hL]; rfl
  have hQ : Ext m0 rm → ∀ o S1, Rp S1 rm → q_out 9 o rz → (Cr 9 m0 rm rz) o S1 := fun a o S1 b e => ⟨b, a, e⟩
  unfold fm_X12_removesTimer at h
  refine go_aload_n (n := 0) (by decide +kernel) l0 f0 ?_
  refine go_dup (by decide +kernel) f0 (Or.inr rfl) ?_
  obtain ⟨x_4, e_5, h⟩ := lx_s h
  refine go_getf (x := 552) (ci := 13) (kf := 46) (fin := 0) (t := 0) (by decide +kernel) (by decide +kernel) (by decide +kernel) R f0 (fx_k (c := 13) R (by decide +kernel)) fun v_1 f_2 => ?_
  have f_3 := q_is_eq f_2 e_5
  refine go_iconst (n := 1) (z := 1) (by decide +kernel) (by decide) fun v_6 f_7 => ?_
  refine go_isub (by decide +kernel) f_3 f_7 fun v_8 f_9 => ?_
  obtain ⟨m_10, e_11, h⟩ := up_s h
  refine go_putf (x := 552) (ci := 13) (kf := 46) (fin := 0) (zt := 0) (by decide +kernel) (by decide +kernel) (by decide) (by decide +kernel) (by decide) (Or.inl rfl) R f0 f_9 (fun hq => absurd hq (by decide)) (fx_k (c := 13) R (by decide +kernel)) e_11 (fx_f (j := 46) R.2 (fx_k (c := 13) R (by decide +kernel)) (by decide +kernel)) fun S_12 R_13 E_14 => ?_
  have E_16 := E_14
  refine go_aload_n (n := 0) (by decide +kernel) l0 f0 ?_
  refine go_getf (x := 137) (ci := 13) (kf := 47) (fin := 1) (t := 2) (by decide +kernel) (by decide +kernel) (by decide +kernel) R_13 f0 (fx_k (c := 13) R_13 (by decide +kernel)) fun v_17 f_18 => ?_
  have f_19 := q_is_eq (b := 109) f_18 (fx_v R_13 (by decide +kernel)).symm
  refine go_iload_n (n := 1) (by decide +kernel) l1 f1 ?_
  refine go_aload_n (n := 0) (by decide +kernel) l0 f0 ?_
  refine go_getf (x := 137) (ci := 13) (kf := 47) (fin := 1) (t := 2) (by decide +kernel) (by decide +kernel) (by decide +kernel) R_13 f0 (fx_k (c := 13) R_13 (by decide +kernel)) fun v_20 f_21 => ?_
  have f_22 := q_is_eq (b := 109) f_21 (fx_v R_13 (by decide +kernel)).symm
  refine go_aload_n (n := 0) (by decide +kernel) l0 f0 ?_
  obtain ⟨x_26, e_27, h⟩ := lx_s h
  refine go_getf (x := 552) (ci := 13) (kf := 46) (fin := 0) (t := 0) (by decide +kernel) (by decide +kernel) (by decide +kernel) R_13 f0 (fx_k (c := 13) R_13 (by decide +kernel)) fun v_23 f_24 => ?_
  have f_25 := q_is_eq f_24 e_27
  obtain ⟨g_30, h⟩ := gd_s h
  obtain ⟨x_32, e_33, h⟩ := lx_s h
  refine go_iald (kd := 100) (by decide +kernel) rfl R_13 f_22 f_25 (fx_k (c := 100) R_13 (by decide +kernel)) (fx_x (a := 109) (ln := 512) R_13 (by decide +kernel) g_30) fun v_28 f_29 => ?_
  have f_31 := q_is_eq f_29 e_33
  obtain ⟨g_34, h⟩ := gd_s h
  obtain ⟨m_35, e_36, h⟩ := up_s h
  refine go_iast (kd := 100) (by decide +kernel) rfl R_13 f_19 f1 f_31 (fx_k (c := 100) R_13 (by decide +kernel)) (fx_x (a := 109) (ln := 512) R_13 (by decide +kernel) g_34) e_36 (fx_a R_13.2 (fx_k (c := 100) R_13 (by decide +kernel)) (And.left (fx_x (a := 109) (ln := 512) R_13 (by decide +kernel) g_34)) (by decide +kernel)) fun S_37 R_38 E_39 => ?_
  have E_41 := Ext.tr E_16 E_39
  refine go_aload_n (n := 0) (by decide +kernel) l0 f0 ?_
  refine go_getf (x := 140) (ci := 13) (kf := 48) (fin := 1) (t := 2) (by decide +kernel) (by decide +kernel) (by decide +kernel) R_38 f0 (fx_k (c := 13) R_38 (by decide +kernel)) fun v_42 f_43 => ?_
  have f_44 := q_is_eq (b := 110) f_43 (fx_v R_38 (by decide +kernel)).symm
  refine go_iload_n (n := 1) (by decide +kernel) l1 f1 ?_
  refine go_aload_n (n := 0) (by decide +kernel) l0 f0 ?_
  refine go_getf (x := 140) (ci := 13) (kf := 48) (fin := 1) (t := 2) (by decide +kernel) (by decide +kernel) (by decide +kernel) R_38 f0 (fx_k (c := 13) R_38 (by decide +kernel)) fun v_45 f_46 => ?_
  have f_47 := q_is_eq (b := 110) f_46 (fx_v R_38 (by decide +kernel)).symm
  refine go_aload_n (n := 0) (by decide +kernel) l0 f0 ?_
  obtain ⟨x_51, e_52, h⟩ := lx_s h
  refine go_getf (x := 552) (ci := 13) (kf := 46) (fin := 0) (t := 0) (by decide +kernel) (by decide +kernel) (by decide +kernel) R_38 f0 (fx_k (c := 13) R_38 (by decide +kernel)) fun v_48 f_49 => ?_
  have f_50 := q_is_eq f_49 e_52
  obtain ⟨g_55, h⟩ := gd_s h
  obtain ⟨x_57, e_58, h⟩ := lx_s h
  refine go_iald (kd := 100) (by decide +kernel) rfl R_38 f_47 f_50 (fx_k (c := 100) R_38 (by decide +kernel)) (fx_x (a := 110) (ln := 512) R_38 (by decide +kernel) g_55) fun v_53 f_54 => ?_
  have f_56 := q_is_eq f_54 e_58
  obtain ⟨m_59, e_60, h⟩ := up_s h
  refine go_iast (kd := 100) (by decide +kernel) rfl R_38 f_44 f1 f_56 (fx_k (c := 100) R_38 (by decide +kernel)) (fx_x (a := 110) (ln := 512) R_38 (by decide +kernel) g_34) e_60 (fx_a R_38.2 (fx_k (c := 100) R_38 (by decide +kernel)) (And.left (fx_x (a := 110) (ln := 512) R_38 (by decide +kernel) g_34)) (by decide +kernel)) fun S_61 R_62 E_63 => ?_
  have E_65 := Ext.tr E_41 E_63
  refine go_aload_n (n := 0) (by decide +kernel) l0 f0 ?_
  refine go_getf (x := 143) (ci := 13) (kf := 49) (fin := 1) (t := 2) (by decide +kernel) (by decide +kernel) (by decide +kernel) R_62 f0 (fx_k (c := 13) R_62 (by decide +kernel)) fun v_66 f_67 => ?_
  have f_68 := q_is_eq (b := 111) f_67 (fx_v R_62 (by decide +kernel)).symm
  refine go_iload_n (n := 1) (by decide +kernel) l1 f1 ?_
  refine go_aload_n (n := 0) (by decide +kernel) l0 f0 ?_
  refine go_getf (x := 143) (ci := 13) (kf := 49) (fin := 1) (t := 2) (by decide +kernel) (by decide +kernel) (by decide +kernel) R_62 f0 (fx_k (c := 13) R_62 (by decide +kernel)) fun v_69 f_70 => ?_
  have f_71 := q_is_eq (b := 111) f_70 (fx_v R_62 (by decide +kernel)).symm
  refine go_aload_n (n := 0) (by decide +kernel) l0 f0 ?_
  obtain ⟨x_75, e_76, h⟩ := lx_s h
  refine go_getf (x := 552) (ci := 13) (kf := 46) (fin := 0) (t := 0) (by decide +kernel) (by decide +kernel) (by decide +kernel) R_62 f0 (fx_k (c := 13) R_62 (by decide +kernel)) fun v_72 f_73 => ?_
  have f_74 := q_is_eq f_73 e_76
  obtain ⟨g_79, h⟩ := gd_s h
  obtain ⟨x_81, e_82, h⟩ := lx_s h
  refine go_iald (kd := 100) (by decide +kernel) rfl R_62 f_71 f_74 (fx_k (c := 100) R_62 (by decide +kernel)) (fx_x (a := 111) (ln := 512) R_62 (by decide +kernel) g_79) fun v_77 f_78 => ?_
  have f_80 := q_is_eq f_78 e_82
  obtain ⟨m_83, e_84, h⟩ := up_s h
  refine go_iast (kd := 100) (by decide +kernel) rfl R_62 f_68 f1 f_80 (fx_k (c := 100) R_62 (by decide +kernel)) (fx_x (a := 111) (ln := 512) R_62 (by decide +kernel) g_34) e_84 (fx_a R_62.2 (fx_k (c := 100) R_62 (by decide +kernel)) (And.left (fx_x (a := 111) (ln := 512) R_62 (by decide +kernel) g_34)) (by decide +kernel)) fun S_85 R_86 E_87 => ?_
  have E_89 := Ext.tr E_65 E_87
  cases h
  exact go_vret (by decide +kernel) rfl (hQ E_89 _ _ R_86 q_out_n)
noncomputable def fl_X12_stops_2 (y1 : Int) (k42 : MM → Option (Int × MM)) : Nat → Int → MM → Option (Int × MM)
  | 0, _, _ => none
  | n + 1, y2, m => lx (m 68 34) fun x_11 =>
if y2 < x_11 then
gd (0 ≤ y2 ∧ y2 < 60) <| lx (m 98 y2) fun x_24 =>
if x_24 = y1 then
up m 102 y2 2 fun m_54 =>
lx (w32 (y2 + 1)) fun x_66 =>
fl_X12_stops_2 y1 k42 n x_66 m_54
else
lx (m 102 y2) fun x_33 =>
up m 102 y2 x_33 fun m_35 =>
lx (w32 (y2 + 1)) fun x_47 =>
fl_X12_stops_2 y1 k42 n x_47 m_35
else
k42 m
set_option maxHeartbeats 4000000 in
theorem ol_X12_stops_2 {xs : List Int32} {d : Nat} {Q : QO → QS → Prop} {mb : MM} {y1 : Int} {k42 : MM → Option (Int × MM)} {rz : Int} {rm : MM}
  (hd : 1 ≤ d)
  (hk42 : ∀ mq : MM, Ext mb mq → ∀ {Sq : QS} {Lq : QL} {u0 : Value} {u1 : Value}, k42 mq = some (rz, rm) → Rp Sq mq → q_lo Lq 0 = some u0 → q_is 2 u0 68 → q_lo Lq 1 = some u1 → q_is 0 u1 y1 → Go xs d qM_X12_stops 42 Lq [] Sq Q)
  (hQ : Ext mb rm → ∀ o S1, Rp S1 rm → q_out 9 o rz → Q o S1) :
  ∀ (n : Nat) {m : MM} {S : QS} {L : QL} {y2 : Int} {v0 : Value} {v1 : Value} {v2 : Value} , Ext mb m → fl_X12_stops_2 y1 k42 n y2 m = some (rz, rm) → Rp S m → q_lo L 0 = some v0 → q_is 2 v0 68 → q_lo L 1 = some v1 → q_is 0 v1 y1 → q_lo L 2 = some v2 → q_is 0 v2 y2 → Go xs d qM_X12_stops 2 L [] S Q := by
  intro n
  induction n with
  | zero => intro m S L y2 v0 v1 v2; intro E h R l0 f0 l1 f1 l2 f2; cases h
  | succ n ih0 =>
    intro m S L y2 v0 v1 v2; intro E h R l0 f0 l1 f1 l2 f2
    have ih : ∀ mq : MM, Ext mb mq → ∀ {z2 : Int} {Sq : QS} {Lq : QL} {u0 : Value} {u1 : Value} {u2 : Value}, fl_X12_stops_2 y1 k42 n z2 mq = some (rz, rm) → Rp Sq mq → q_lo Lq 0 = some u0 → q_is 2 u0 68 → q_lo Lq 1 = some u1 → q_is 0 u1 y1 → q_lo Lq 2 = some u2 → q_is 0 u2 z2 → Go xs d qM_X12_stops 2 Lq [] Sq Q := fun mq b => by intros; exact ih0 b ‹_› ‹_› ‹_› ‹_› ‹_› ‹_› ‹_› ‹_›
    unfold fl_X12_stops_2 at h
    refine go_iload_n (n := 2) (by decide +kernel) l2 f2 ?_
    refine go_aload_n (n := 0) (by decide +kernel) l0 f0 ?_
    obtain ⟨x_11, e_12, h⟩ := lx_s h
    refine go_getf (x := 549) (ci := 13) (kf := 34) (fin := 0) (t := 0) (by decide +kernel) (by decide +kernel) (by decide +kernel) R f0 (fx_k (c := 13) R (by decide +kernel)) fun v_8 f_9 => ?_
    have f_10 := q_is_eq f_9 e_12
    refine go_icmp (c := .ge) (o := 35) (t := 42) (P := ¬ (y2 < x_11)) (by decide +kernel) (by decide +kernel) f2 f_10 (Int.not_lt.symm) (fun hp_13 => ?_) (fun hp_13 => ?_)
    · have h := it_f hp_13 h
      exact hk42 m E h R l0 f0 l1 f1
    · have h := it_n hp_13 h
      refine go_aload_n (n := 0) (by decide +kernel) l0 f0 ?_
      refine go_getf (x := 116) (ci := 13) (kf := 39) (fin := 1) (t := 2) (by decide +kernel) (by decide +kernel) (by decide +kernel) R f0 (fx_k (c := 13) R (by decide +kernel)) fun v_14 f_15 => ?_
      have f_16 := q_is_eq (b := 102) f_15 (fx_v R (by decide +kernel)).symm
      refine go_iload_n (n := 2) (by decide +kernel) l2 f2 ?_
      refine go_aload_n (n := 0) (by decide +kernel) l0 f0 ?_
      refine go_getf (x := 104) (ci := 13) (kf := 35) (fin := 1) (t := 2) (by decide +kernel) (by decide +kernel) (by decide +kernel) R f0 (fx_k (c := 13) R (by decide +kernel)) fun v_17 f_18 => ?_
      have f_19 := q_is_eq (b := 98) f_18 (fx_v R (by decide +kernel)).symm
      refine go_iload_n (n := 2) (by decide +kernel) l2 f2 ?_
      obtain ⟨g_22, h⟩ := gd_s h
      obtain ⟨x_24, e_25, h⟩ := lx_s h
      refine go_iald (kd := 100) (by decide +kernel) rfl R f_19 f2 (fx_k (c := 100) R (by decide +kernel)) (fx_x (a := 98) (ln := 60) R (by decide +kernel) g_22) fun v_20 f_21 => ?_
      have f_23 := q_is_eq f_21 e_25
      refine go_iload_n (n := 1) (by decide +kernel) l1 f1 ?_
      refine go_icmp (c := .ne) (o := 7) (t := 29) (P := ¬ (x_24 = y1)) (by decide +kernel) (by decide +kernel) f_23 f1 (Iff.rfl) (fun hp_26 => ?_) (fun hp_26 => ?_)
      · have h := it_f hp_26 h
        refine go_aload_n (n := 0) (by decide +kernel) l0 f0 ?_
        refine go_getf (x := 116) (ci := 13) (kf := 39) (fin := 1) (t := 2) (by decide +kernel) (by decide +kernel) (by decide +kernel) R f0 (fx_k (c := 13) R (by decide +kernel)) fun v_27 f_28 => ?_
        have f_29 := q_is_eq (b := 102) f_28 (fx_v R (by decide +kernel)).symm
        refine go_iload_n (n := 2) (by decide +kernel) l2 f2 ?_
        obtain ⟨x_33, e_34, h⟩ := lx_s h
        refine go_iald (kd := 100) (by decide +kernel) rfl R f_29 f2 (fx_k (c := 100) R (by decide +kernel)) (fx_x (a := 102) (ln := 60) R (by decide +kernel) g_22) fun v_30 f_31 => ?_
        have f_32 := q_is_eq f_31 e_34
        obtain ⟨m_35, e_36, h⟩ := up_s h
        refine go_iast (kd := 100) (by decide +kernel) rfl R f_16 f2 f_32 (fx_k (c := 100) R (by decide +kernel)) (fx_x (a := 102) (ln := 60) R (by decide +kernel) g_22) e_36 (fx_a R.2 (fx_k (c := 100) R (by decide +kernel)) (And.left (fx_x (a := 102) (ln := 60) R (by decide +kernel) g_22)) (by decide +kernel)) fun S_37 R_38 E_39 => ?_
        have E_41 := Ext.tr E E_39
        refine go_iinc (n := 2) (c := 1) (c' := 1) (by decide +kernel) (by decide +kernel) l2 f2 (by decide) fun L_42 v_43 f_44 l_45 kp_46 => ?_
        obtain ⟨x_47, e_48, h⟩ := lx_s h
        have f_49 := q_is_eq f_44 e_48
        have l_50 := kp_46 0 _ l0 (by decide) (Or.inl (by decide))
        have l_51 := kp_46 1 _ l1 (by decide) (Or.inr (q_is_cat f1 (Or.inl rfl)))
        refine go_goto (o := (-37)) (t := 2) (by decide +kernel) (by decide +kernel) ?_
        exact ih m_35 E_41 h R_38 l_50 f0 l_51 f1 l_45 f_49
      · have h := it_n hp_26 h
        refine go_iconst (n := 2) (z := 2) (by decide +kernel) (by decide) fun v_52 f_53 => ?_
        refine go_goto (o := 9) (t := 35) (by decide +kernel) (by decide +kernel) ?_
        obtain ⟨m_54, e_55, h⟩ := up_s h
        refine go_iast (kd := 100) (by decide +kernel) rfl R f_16 f2 f_53 (fx_k (c := 100) R (by decide +kernel)) (fx_x (a := 102) (ln := 60) R (by decide +kernel) g_22) e_55 (fx_a R.2 (fx_k (c := 100) R (by decide +kernel)) (And.left (fx_x (a := 102) (ln := 60) R (by decide +kernel) g_22)) (by decide +kernel)) fun S_56 R_57 E_58 => ?_
        have E_60 := Ext.tr E E_58
        refine go_iinc (n := 2) (c := 1) (c' := 1) (by decide +kernel) (by decide +kernel) l2 f2 (by decide) fun L_61 v_62 f_63 l_64 kp_65 => ?_
        obtain ⟨x_66, e_67, h⟩ := lx_s h
        have f_68 := q_is_eq f_63 e_67
        have l_69 := kp_65 0 _ l0 (by decide) (Or.inl (by decide))
        have l_70 := kp_65 1 _ l1 (by decide) (Or.inr (q_is_cat f1 (Or.inl rfl)))
        refine go_goto (o := (-37)) (t := 2) (by decide +kernel) (by decide +kernel) ?_
        exact ih m_54 E_60 h R_57 l_69 f0 l_70 f1 l_64 f_68
noncomputable def fl_X12_stops_49 (y1 : Int) : Nat → Int → MM → Option (Int × MM)
  | 0, _, _ => none
  | n + 1, y2, m => if y2 < 0 then
some (0, m)
else
gd (0 ≤ y2 ∧ y2 < 512) <| lx (m 109 y2) fun x_110 =>
if x_110 = y1 then
bd (fm_X12_removesTimer y2 m) fun x_124 m_125 =>
lx (w32 (y2 + (-1))) fun x_140 =>
fl_X12_stops_49 y1 n x_140 m_125
else
lx (w32 (y2 + (-1))) fun x_118 =>
fl_X12_stops_49 y1 n x_118 m
set_option maxHeartbeats 4000000 in
theorem ol_X12_stops_49 {xs : List Int32} {d : Nat} {Q : QO → QS → Prop} {mb : MM} {y1 : Int} {rz : Int} {rm : MM}
  (hd : 1 ≤ d)
  (hQ : Ext mb rm → ∀ o S1, Rp S1 rm → q_out 9 o rz → Q o S1) :
  ∀ (n : Nat) {m : MM} {S : QS} {L : QL} {y2 : Int} {v0 : Value} {v1 : Value} {v2 : Value} , Ext mb m → fl_X12_stops_49 y1 n y2 m = some (rz, rm) → Rp S m → q_lo L 0 = some v0 → q_is 2 v0 68 → q_lo L 1 = some v1 → q_is 0 v1 y1 → q_lo L 2 = some v2 → q_is 0 v2 y2 → Go xs d qM_X12_stops 49 L [] S Q := by
  intro n
  induction n with
  | zero => intro m S L y2 v0 v1 v2; intro E h R l0 f0 l1 f1 l2 f2; cases h
  | succ n ih0 =>
    intro m S L y2 v0 v1 v2; intro E h R l0 f0 l1 f1 l2 f2
    have ih : ∀ mq : MM, Ext mb mq → ∀ {z2 : Int} {Sq : QS} {Lq : QL} {u0 : Value} {u1 : Value} {u2 : Value}, fl_X12_stops_49 y1 n z2 mq = some (rz, rm) → Rp Sq mq → q_lo Lq 0 = some u0 → q_is 2 u0 68 → q_lo Lq 1 = some u1 → q_is 0 u1 y1 → q_lo Lq 2 = some u2 → q_is 0 u2 z2 → Go xs d qM_X12_stops 49 Lq [] Sq Q := fun mq b => by intros; exact ih0 b ‹_› ‹_› ‹_› ‹_› ‹_› ‹_› ‹_› ‹_›
    unfold fl_X12_stops_49 at h
    refine go_iload_n (n := 2) (by decide +kernel) l2 f2 ?_
    refine go_if (c := .lt) (o := 24) (t := 74) (P := y2 < 0) (by decide +kernel) (by decide +kernel) f2 (Iff.rfl) (fun hp_102 => ?_) (fun hp_102 => ?_)
    · have h := it_t hp_102 h
      cases h
      exact go_vret (by decide +kernel) rfl (hQ E _ _ R q_out_n)
    · have h := it_f hp_102 h
      refine go_aload_n (n := 0) (by decide +kernel) l0 f0 ?_
      refine go_getf (x := 137) (ci := 13) (kf := 47) (fin := 1) (t := 2) (by decide +kernel) (by decide +kernel) (by decide +kernel) R f0 (fx_k (c := 13) R (by decide +kernel)) fun v_103 f_104 => ?_
      have f_105 := q_is_eq (b := 109) f_104 (fx_v R (by decide +kernel)).symm
      refine go_iload_n (n := 2) (by decide +kernel) l2 f2 ?_
      obtain ⟨g_108, h⟩ := gd_s h
      obtain ⟨x_110, e_111, h⟩ := lx_s h
      refine go_iald (kd := 100) (by decide +kernel) rfl R f_105 f2 (fx_k (c := 100) R (by decide +kernel)) (fx_x (a := 109) (ln := 512) R (by decide +kernel) g_108) fun v_106 f_107 => ?_
      have f_109 := q_is_eq f_107 e_111
      refine go_iload_n (n := 1) (by decide +kernel) l1 f1 ?_
      refine go_icmp (c := .ne) (o := 8) (t := 68) (P := ¬ (x_110 = y1)) (by decide +kernel) (by decide +kernel) f_109 f1 (Iff.rfl) (fun hp_112 => ?_) (fun hp_112 => ?_)
      · have h := it_f hp_112 h
        refine go_iinc (n := 2) (c := (-1)) (c' := (-1)) (by decide +kernel) (by decide +kernel) l2 f2 (by decide) fun L_113 v_114 f_115 l_116 kp_117 => ?_
        obtain ⟨x_118, e_119, h⟩ := lx_s h
        have f_120 := q_is_eq f_115 e_119
        have l_121 := kp_117 0 _ l0 (by decide) (Or.inl (by decide))
        have l_122 := kp_117 1 _ l1 (by decide) (Or.inr (q_is_cat f1 (Or.inl rfl)))
        refine go_goto (o := (-22)) (t := 49) (by decide +kernel) (by decide +kernel) ?_
        exact ih m E h R l_121 f0 l_122 f1 l_116 f_120
      · have h := it_n hp_112 h
        refine go_aload_n (n := 0) (by decide +kernel) l0 f0 ?_
        refine go_iload_n (n := 2) (by decide +kernel) l2 f2 ?_
        obtain ⟨x_124, m_125, hc_123, h⟩ := bd_s h
        refine go_callV (x := 555) (mi := 253) (n := 1) (ci := 13) (as := [v2]) (rest := []) (by decide +kernel) (by decide +kernel) rfl rfl (q_sum8 _ (Nat.le_of_ble_eq_true rfl)) R f0 (fx_k (c := 13) R (by decide +kernel)) (om_X12_removesTimer (Nat.le_trans (by decide) hd) R f0 f2 hc_123) (fun _ S_128 q_131 => ?_) (fun _ _ qq => kr_x qq)
        refine kr_v q_131 fun R_129 E_130 => ?_
        have E_134 := Ext.tr E E_130
        refine go_iinc (n := 2) (c := (-1)) (c' := (-1)) (by decide +kernel) (by decide +kernel) l2 f2 (by decide) fun L_135 v_136 f_137 l_138 kp_139 => ?_
        obtain ⟨x_140, e_141, h⟩ := lx_s h
        have f_142 := q_is_eq f_137 e_141
        have l_143 := kp_139 0 _ l0 (by decide) (Or.inl (by decide))
        have l_144 := kp_139 1 _ l1 (by decide) (Or.inr (q_is_cat f1 (Or.inl rfl)))
        refine go_goto (o := (-22)) (t := 49) (by decide +kernel) (by decide +kernel) ?_
        exact ih m_125 E_134 h R_129 l_143 f0 l_144 f1 l_138 f_142
noncomputable def fm_X12_stops (p1 : Int) (m0 : MM) : Option (Int × MM) := fl_X12_stops_2 p1 (fun m_80 =>
lx (m_80 68 46) fun x_88 =>
lx (w32 (x_88 - 1)) fun x_94 =>
fl_X12_stops_49 p1  BIG x_94 m_80) BIG 0 m0
set_option maxHeartbeats 4000000 in
theorem om_X12_stops {xs : List Int32} {d : Nat} {S : QS} {m0 : MM} {p1 : Int} {v0 : Value} {v1 : Value} {rz : Int} {rm : MM}
  (hd : 2 ≤ d) (R : Rp S m0) (f0 : q_is 2 v0 68) (f1 : q_is 0 v1 p1)
  (h : fm_X12_stops p1 m0 = some (rz, rm)) : Mt xs d 254 [v0, v1] S (Cr 9 m0 rm rz) := by
  obtain ⟨d, rfl⟩ : ∃ e, d = e + 1 := ⟨d - 1, by omega⟩
  have hd : 1 ≤ d := Nat.le_of_succ_le_succ hd
  refine Mt.of (M := qM_X12_stops) rfl (by rw [sl_1 (q_is_cat f0 (Or.inr rfl)), sl_1 (q_is_cat f1 (Or.inl rfl)), sl_0]; decide) ?_
  rw [la_1 (q_is_cat f0 (Or.inr rfl)), la_1 (q_is_cat f1 (Or.inl rfl)), la_0]
  obtain ⟨L, hL⟩ : ∃ L : QL, L = [(0, v0), (0 + 1, v1)] := ⟨_, rfl⟩
  rw [← hL]
  have l0 : q_lo L 0 = some v0 := by rw [hL]; rfl
  have l1 : q_lo L 1 = some v1 := by rw [hL]; rfl
  have hQ : Ext m0 rm → ∀ o S1, Rp S1 rm → q_out 9 o rz → (Cr 9 m0 rm rz) o S1 := fun a o S1 b e => ⟨b, a, e⟩
  unfold fm_X12_stops at h
  refine go_iconst (n := 0) (z := 0) (by decide +kernel) (by decide) fun v_1 f_2 => ?_
  refine go_istore_n (n := 2) (by decide +kernel) (by decide +kernel) f_2 fun L_3 l_4 kp_5 => ?_
  have l_6 := kp_5 0 _ l0 (by decide) (Or.inl (by decide))
  have l_7 := kp_5 1 _ l1 (by decide) (Or.inr (q_is_cat f1 (Or.inl rfl)))
  refine ol_X12_stops_2 hd  ?_ hQ BIG (Ext.rf _) h R l_6 f0 l_7 f1 l_4 f_2
  intro m_80 E_81
  intro S_77 L_78 v_71 v_72
  intro h R_79 l_73 f_75 l_74 f_76
  have E_82 := E_81
  refine go_aload_n (n := 0) (by decide +kernel) l_73 f_75 ?_
  obtain ⟨x_88, e_89, h⟩ := lx_s h
  refine go_getf (x := 552) (ci := 13) (kf := 46) (fin := 0) (t := 0) (by decide +kernel) (by decide +kernel) (by decide +kernel) R_79 f_75 (fx_k (c := 13) R_79 (by decide +kernel)) fun v_85 f_86 => ?_
  have f_87 := q_is_eq f_86 e_89
  refine go_iconst (n := 1) (z := 1) (by decide +kernel) (by decide) fun v_90 f_91 => ?_
  refine go_isub (by decide +kernel) f_87 f_91 fun v_92 f_93 => ?_
  obtain ⟨x_94, e_95, h⟩ := lx_s h
  have f_96 := q_is_eq f_93 e_95
  refine go_istore_n (n := 2) (by decide +kernel) (by decide +kernel) f_96 fun L_97 l_98 kp_99 => ?_
  have l_100 := kp_99 0 _ l_73 (by decide) (Or.inl (by decide))
  have l_101 := kp_99 1 _ l_74 (by decide) (Or.inr (q_is_cat f_76 (Or.inl rfl)))
  refine ol_X12_stops_49 hd   (fun b => hQ (Ext.tr E_82 b)) BIG (Ext.rf _) h R_79 l_100 f_75 l_101 f_76 l_98 f_96
noncomputable def fl_X12_drops_2 (y1 y2 : Int) (k52 : MM → Option (Int × MM)) : Nat → Int → MM → Option (Int × MM)
  | 0, _, _ => none
  | n + 1, y3, m => lx (m 68 34) fun x_12 =>
if y3 < x_12 then
gd (0 ≤ y3 ∧ y3 < 60) <| lx (m 98 y3) fun x_25 =>
if x_25 = y1 then
lx (m 99 y3) fun x_60 =>
if x_60 = y2 then
up m 102 y3 2 fun m_91 =>
lx (w32 (y3 + 1)) fun x_103 =>
fl_X12_drops_2 y1 y2 k52 n x_103 m_91
else
lx (m 102 y3) fun x_69 =>
up m 102 y3 x_69 fun m_71 =>
lx (w32 (y3 + 1)) fun x_83 =>
fl_X12_drops_2 y1 y2 k52 n x_83 m_71
else
lx (m 102 y3) fun x_34 =>
up m 102 y3 x_34 fun m_36 =>
lx (w32 (y3 + 1)) fun x_48 =>
fl_X12_drops_2 y1 y2 k52 n x_48 m_36
else
k52 m
set_option maxHeartbeats 4000000 in
theorem ol_X12_drops_2 {xs : List Int32} {d : Nat} {Q : QO → QS → Prop} {mb : MM} {y1 y2 : Int} {k52 : MM → Option (Int × MM)} {rz : Int} {rm : MM}
  (hd : 4 ≤ d)
  (hk52 : ∀ mq : MM, Ext mb mq → ∀ {Sq : QS} {Lq : QL} {u0 : Value} {u1 : Value} {u2 : Value}, k52 mq = some (rz, rm) → Rp Sq mq → q_lo Lq 0 = some u0 → q_is 2 u0 68 → q_lo Lq 1 = some u1 → q_is 0 u1 y1 → q_lo Lq 2 = some u2 → q_is 0 u2 y2 → Go xs d qM_X12_drops 52 Lq [] Sq Q)
  (hQ : Ext mb rm → ∀ o S1, Rp S1 rm → q_out 9 o rz → Q o S1) :
  ∀ (n : Nat) {m : MM} {S : QS} {L : QL} {y3 : Int} {v0 : Value} {v1 : Value} {v2 : Value} {v3 : Value} , Ext mb m → fl_X12_drops_2 y1 y2 k52 n y3 m = some (rz, rm) → Rp S m → q_lo L 0 = some v0 → q_is 2 v0 68 → q_lo L 1 = some v1 → q_is 0 v1 y1 → q_lo L 2 = some v2 → q_is 0 v2 y2 → q_lo L 3 = some v3 → q_is 0 v3 y3 → Go xs d qM_X12_drops 2 L [] S Q := by
  intro n
  induction n with
  | zero => intro m S L y3 v0 v1 v2 v3; intro E h R l0 f0 l1 f1 l2 f2 l3 f3; cases h
  | succ n ih0 =>
    intro m S L y3 v0 v1 v2 v3; intro E h R l0 f0 l1 f1 l2 f2 l3 f3
    have ih : ∀ mq : MM, Ext mb mq → ∀ {z3 : Int} {Sq : QS} {Lq : QL} {u0 : Value} {u1 : Value} {u2 : Value} {u3 : Value}, fl_X12_drops_2 y1 y2 k52 n z3 mq = some (rz, rm) → Rp Sq mq → q_lo Lq 0 = some u0 → q_is 2 u0 68 → q_lo Lq 1 = some u1 → q_is 0 u1 y1 → q_lo Lq 2 = some u2 → q_is 0 u2 y2 → q_lo Lq 3 = some u3 → q_is 0 u3 z3 → Go xs d qM_X12_drops 2 Lq [] Sq Q := fun mq b => by intros; exact ih0 b ‹_› ‹_› ‹_› ‹_› ‹_› ‹_› ‹_› ‹_› ‹_› ‹_›
    unfold fl_X12_drops_2 at h
    refine go_iload_n (n := 3) (by decide +kernel) l3 f3 ?_
    refine go_aload_n (n := 0) (by decide +kernel) l0 f0 ?_
    obtain ⟨x_12, e_13, h⟩ := lx_s h
    refine go_getf (x := 549) (ci := 13) (kf := 34) (fin := 0) (t := 0) (by decide +kernel) (by decide +kernel) (by decide +kernel) R f0 (fx_k (c := 13) R (by decide +kernel)) fun v_9 f_10 => ?_
    have f_11 := q_is_eq f_10 e_13
    refine go_icmp (c := .ge) (o := 45) (t := 52) (P := ¬ (y3 < x_12)) (by decide +kernel) (by decide +kernel) f3 f_11 (Int.not_lt.symm) (fun hp_14 => ?_) (fun hp_14 => ?_)
    · have h := it_f hp_14 h
      exact hk52 m E h R l0 f0 l1 f1 l2 f2
    · have h := it_n hp_14 h
      refine go_aload_n (n := 0) (by decide +kernel) l0 f0 ?_
      refine go_getf (x := 116) (ci := 13) (kf := 39) (fin := 1) (t := 2) (by decide +kernel) (by decide +kernel) (by decide +kernel) R f0 (fx_k (c := 13) R (by decide +kernel)) fun v_15 f_16 => ?_
      have f_17 := q_is_eq (b := 102) f_16 (fx_v R (by decide +kernel)).symm
      refine go_iload_n (n := 3) (by decide +kernel) l3 f3 ?_
      refine go_aload_n (n := 0) (by decide +kernel) l0 f0 ?_
      refine go_getf (x := 104) (ci := 13) (kf := 35) (fin := 1) (t := 2) (by decide +kernel) (by decide +kernel) (by decide +kernel) R f0 (fx_k (c := 13) R (by decide +kernel)) fun v_18 f_19 => ?_
      have f_20 := q_is_eq (b := 98) f_19 (fx_v R (by decide +kernel)).symm
      refine go_iload_n (n := 3) (by decide +kernel) l3 f3 ?_
      obtain ⟨g_23, h⟩ := gd_s h
      obtain ⟨x_25, e_26, h⟩ := lx_s h
      refine go_iald (kd := 100) (by decide +kernel) rfl R f_20 f3 (fx_k (c := 100) R (by decide +kernel)) (fx_x (a := 98) (ln := 60) R (by decide +kernel) g_23) fun v_21 f_22 => ?_
      have f_24 := q_is_eq f_22 e_26
      refine go_iload_n (n := 1) (by decide +kernel) l1 f1 ?_
      refine go_icmp (c := .ne) (o := 17) (t := 39) (P := ¬ (x_25 = y1)) (by decide +kernel) (by decide +kernel) f_24 f1 (Iff.rfl) (fun hp_27 => ?_) (fun hp_27 => ?_)
      · have h := it_f hp_27 h
        refine go_aload_n (n := 0) (by decide +kernel) l0 f0 ?_
        refine go_getf (x := 116) (ci := 13) (kf := 39) (fin := 1) (t := 2) (by decide +kernel) (by decide +kernel) (by decide +kernel) R f0 (fx_k (c := 13) R (by decide +kernel)) fun v_28 f_29 => ?_
        have f_30 := q_is_eq (b := 102) f_29 (fx_v R (by decide +kernel)).symm
        refine go_iload_n (n := 3) (by decide +kernel) l3 f3 ?_
        obtain ⟨x_34, e_35, h⟩ := lx_s h
        refine go_iald (kd := 100) (by decide +kernel) rfl R f_30 f3 (fx_k (c := 100) R (by decide +kernel)) (fx_x (a := 102) (ln := 60) R (by decide +kernel) g_23) fun v_31 f_32 => ?_
        have f_33 := q_is_eq f_32 e_35
        obtain ⟨m_36, e_37, h⟩ := up_s h
        refine go_iast (kd := 100) (by decide +kernel) rfl R f_17 f3 f_33 (fx_k (c := 100) R (by decide +kernel)) (fx_x (a := 102) (ln := 60) R (by decide +kernel) g_23) e_37 (fx_a R.2 (fx_k (c := 100) R (by decide +kernel)) (And.left (fx_x (a := 102) (ln := 60) R (by decide +kernel) g_23)) (by decide +kernel)) fun S_38 R_39 E_40 => ?_
        have E_42 := Ext.tr E E_40
        refine go_iinc (n := 3) (c := 1) (c' := 1) (by decide +kernel) (by decide +kernel) l3 f3 (by decide) fun L_43 v_44 f_45 l_46 kp_47 => ?_
        obtain ⟨x_48, e_49, h⟩ := lx_s h
        have f_50 := q_is_eq f_45 e_49
        have l_51 := kp_47 0 _ l0 (by decide) (Or.inl (by decide))
        have l_52 := kp_47 1 _ l1 (by decide) (Or.inl (by decide))
        have l_53 := kp_47 2 _ l2 (by decide) (Or.inr (q_is_cat f2 (Or.inl rfl)))
        refine go_goto (o := (-47)) (t := 2) (by decide +kernel) (by decide +kernel) ?_
        exact ih m_36 E_42 h R_39 l_51 f0 l_52 f1 l_53 f2 l_46 f_50
      · have h := it_n hp_27 h
        refine go_aload_n (n := 0) (by decide +kernel) l0 f0 ?_
        refine go_getf (x := 107) (ci := 13) (kf := 36) (fin := 1) (t := 2) (by decide +kernel) (by decide +kernel) (by decide +kernel) R f0 (fx_k (c := 13) R (by decide +kernel)) fun v_54 f_55 => ?_
        have f_56 := q_is_eq (b := 99) f_55 (fx_v R (by decide +kernel)).symm
        refine go_iload_n (n := 3) (by decide +kernel) l3 f3 ?_
        obtain ⟨x_60, e_61, h⟩ := lx_s h
        refine go_iald (kd := 100) (by decide +kernel) rfl R f_56 f3 (fx_k (c := 100) R (by decide +kernel)) (fx_x (a := 99) (ln := 60) R (by decide +kernel) g_23) fun v_57 f_58 => ?_
        have f_59 := q_is_eq f_58 e_61
        refine go_iload_n (n := 2) (by decide +kernel) l2 f2 ?_
        refine go_icmp (c := .ne) (o := 7) (t := 39) (P := ¬ (x_60 = y2)) (by decide +kernel) (by decide +kernel) f_59 f2 (Iff.rfl) (fun hp_62 => ?_) (fun hp_62 => ?_)
        · have h := it_f hp_62 h
          refine go_aload_n (n := 0) (by decide +kernel) l0 f0 ?_
          refine go_getf (x := 116) (ci := 13) (kf := 39) (fin := 1) (t := 2) (by decide +kernel) (by decide +kernel) (by decide +kernel) R f0 (fx_k (c := 13) R (by decide +kernel)) fun v_63 f_64 => ?_
          have f_65 := q_is_eq (b := 102) f_64 (fx_v R (by decide +kernel)).symm
          refine go_iload_n (n := 3) (by decide +kernel) l3 f3 ?_
          obtain ⟨x_69, e_70, h⟩ := lx_s h
          refine go_iald (kd := 100) (by decide +kernel) rfl R f_65 f3 (fx_k (c := 100) R (by decide +kernel)) (fx_x (a := 102) (ln := 60) R (by decide +kernel) g_23) fun v_66 f_67 => ?_
          have f_68 := q_is_eq f_67 e_70
          obtain ⟨m_71, e_72, h⟩ := up_s h
          refine go_iast (kd := 100) (by decide +kernel) rfl R f_17 f3 f_68 (fx_k (c := 100) R (by decide +kernel)) (fx_x (a := 102) (ln := 60) R (by decide +kernel) g_23) e_72 (fx_a R.2 (fx_k (c := 100) R (by decide +kernel)) (And.left (fx_x (a := 102) (ln := 60) R (by decide +kernel) g_23)) (by decide +kernel)) fun S_73 R_74 E_75 => ?_
          have E_77 := Ext.tr E E_75
          refine go_iinc (n := 3) (c := 1) (c' := 1) (by decide +kernel) (by decide +kernel) l3 f3 (by decide) fun L_78 v_79 f_80 l_81 kp_82 => ?_
          obtain ⟨x_83, e_84, h⟩ := lx_s h
          have f_85 := q_is_eq f_80 e_84
          have l_86 := kp_82 0 _ l0 (by decide) (Or.inl (by decide))
          have l_87 := kp_82 1 _ l1 (by decide) (Or.inl (by decide))
          have l_88 := kp_82 2 _ l2 (by decide) (Or.inr (q_is_cat f2 (Or.inl rfl)))
          refine go_goto (o := (-47)) (t := 2) (by decide +kernel) (by decide +kernel) ?_
          exact ih m_71 E_77 h R_74 l_86 f0 l_87 f1 l_88 f2 l_81 f_85
        · have h := it_n hp_62 h
          refine go_iconst (n := 2) (z := 2) (by decide +kernel) (by decide) fun v_89 f_90 => ?_
          refine go_goto (o := 9) (t := 45) (by decide +kernel) (by decide +kernel) ?_
          obtain ⟨m_91, e_92, h⟩ := up_s h
          refine go_iast (kd := 100) (by decide +kernel) rfl R f_17 f3 f_90 (fx_k (c := 100) R (by decide +kernel)) (fx_x (a := 102) (ln := 60) R (by decide +kernel) g_23) e_92 (fx_a R.2 (fx_k (c := 100) R (by decide +kernel)) (And.left (fx_x (a := 102) (ln := 60) R (by decide +kernel) g_23)) (by decide +kernel)) fun S_93 R_94 E_95 => ?_
          have E_97 := Ext.tr E E_95
          refine go_iinc (n := 3) (c := 1) (c' := 1) (by decide +kernel) (by decide +kernel) l3 f3 (by decide) fun L_98 v_99 f_100 l_101 kp_102 => ?_
          obtain ⟨x_103, e_104, h⟩ := lx_s h
          have f_105 := q_is_eq f_100 e_104
          have l_106 := kp_102 0 _ l0 (by decide) (Or.inl (by decide))
          have l_107 := kp_102 1 _ l1 (by decide) (Or.inl (by decide))
          have l_108 := kp_102 2 _ l2 (by decide) (Or.inr (q_is_cat f2 (Or.inl rfl)))
          refine go_goto (o := (-47)) (t := 2) (by decide +kernel) (by decide +kernel) ?_
          exact ih m_91 E_97 h R_94 l_106 f0 l_107 f1 l_108 f2 l_101 f_105
noncomputable def fl_X12_drops_59 (y1 y2 : Int) (k94 : MM → Option (Int × MM)) : Nat → Int → MM → Option (Int × MM)
  | 0, _, _ => none
  | n + 1, y3, m => if y3 < 0 then
k94 m
else
gd (0 ≤ y3 ∧ y3 < 512) <| lx (m 109 y3) fun x_152 =>
if x_152 = y1 then
lx (m 110 y3) fun x_172 =>
if x_172 = y2 then
bd (fm_X12_removesTimer y3 m) fun x_187 m_188 =>
lx (w32 (y3 + (-1))) fun x_203 =>
fl_X12_drops_59 y1 y2 k94 n x_203 m_188
else
lx (w32 (y3 + (-1))) fun x_180 =>
fl_X12_drops_59 y1 y2 k94 n x_180 m
else
lx (w32 (y3 + (-1))) fun x_160 =>
fl_X12_drops_59 y1 y2 k94 n x_160 m
set_option maxHeartbeats 4000000 in
theorem ol_X12_drops_59 {xs : List Int32} {d : Nat} {Q : QO → QS → Prop} {mb : MM} {y1 y2 : Int} {k94 : MM → Option (Int × MM)} {rz : Int} {rm : MM}
  (hd : 4 ≤ d)
  (hk94 : ∀ mq : MM, Ext mb mq → ∀ {Sq : QS} {Lq : QL} {u0 : Value} {u1 : Value} {u2 : Value}, k94 mq = some (rz, rm) → Rp Sq mq → q_lo Lq 0 = some u0 → q_is 2 u0 68 → q_lo Lq 1 = some u1 → q_is 0 u1 y1 → q_lo Lq 2 = some u2 → q_is 0 u2 y2 → Go xs d qM_X12_drops 94 Lq [] Sq Q)
  (hQ : Ext mb rm → ∀ o S1, Rp S1 rm → q_out 9 o rz → Q o S1) :
  ∀ (n : Nat) {m : MM} {S : QS} {L : QL} {y3 : Int} {v0 : Value} {v1 : Value} {v2 : Value} {v3 : Value} , Ext mb m → fl_X12_drops_59 y1 y2 k94 n y3 m = some (rz, rm) → Rp S m → q_lo L 0 = some v0 → q_is 2 v0 68 → q_lo L 1 = some v1 → q_is 0 v1 y1 → q_lo L 2 = some v2 → q_is 0 v2 y2 → q_lo L 3 = some v3 → q_is 0 v3 y3 → Go xs d qM_X12_drops 59 L [] S Q := by
  intro n
  induction n with
  | zero => intro m S L y3 v0 v1 v2 v3; intro E h R l0 f0 l1 f1 l2 f2 l3 f3; cases h
  | succ n ih0 =>
    intro m S L y3 v0 v1 v2 v3; intro E h R l0 f0 l1 f1 l2 f2 l3 f3
    have ih : ∀ mq : MM, Ext mb mq → ∀ {z3 : Int} {Sq : QS} {Lq : QL} {u0 : Value} {u1 : Value} {u2 : Value} {u3 : Value}, fl_X12_drops_59 y1 y2 k94 n z3 mq = some (rz, rm) → Rp Sq mq → q_lo Lq 0 = some u0 → q_is 2 u0 68 → q_lo Lq 1 = some u1 → q_is 0 u1 y1 → q_lo Lq 2 = some u2 → q_is 0 u2 y2 → q_lo Lq 3 = some u3 → q_is 0 u3 z3 → Go xs d qM_X12_drops 59 Lq [] Sq Q := fun mq b => by intros; exact ih0 b ‹_› ‹_› ‹_› ‹_› ‹_› ‹_› ‹_› ‹_› ‹_› ‹_›
    unfold fl_X12_drops_59 at h
    refine go_iload_n (n := 3) (by decide +kernel) l3 f3 ?_
    refine go_if (c := .lt) (o := 34) (t := 94) (P := y3 < 0) (by decide +kernel) (by decide +kernel) f3 (Iff.rfl) (fun hp_144 => ?_) (fun hp_144 => ?_)
    · have h := it_t hp_144 h
      exact hk94 m E h R l0 f0 l1 f1 l2 f2
    · have h := it_f hp_144 h
      refine go_aload_n (n := 0) (by decide +kernel) l0 f0 ?_
      refine go_getf (x := 137) (ci := 13) (kf := 47) (fin := 1) (t := 2) (by decide +kernel) (by decide +kernel) (by decide +kernel) R f0 (fx_k (c := 13) R (by decide +kernel)) fun v_145 f_146 => ?_
      have f_147 := q_is_eq (b := 109) f_146 (fx_v R (by decide +kernel)).symm
      refine go_iload_n (n := 3) (by decide +kernel) l3 f3 ?_
      obtain ⟨g_150, h⟩ := gd_s h
      obtain ⟨x_152, e_153, h⟩ := lx_s h
      refine go_iald (kd := 100) (by decide +kernel) rfl R f_147 f3 (fx_k (c := 100) R (by decide +kernel)) (fx_x (a := 109) (ln := 512) R (by decide +kernel) g_150) fun v_148 f_149 => ?_
      have f_151 := q_is_eq f_149 e_153
      refine go_iload_n (n := 1) (by decide +kernel) l1 f1 ?_
      refine go_icmp (c := .ne) (o := 18) (t := 88) (P := ¬ (x_152 = y1)) (by decide +kernel) (by decide +kernel) f_151 f1 (Iff.rfl) (fun hp_154 => ?_) (fun hp_154 => ?_)
      · have h := it_f hp_154 h
        refine go_iinc (n := 3) (c := (-1)) (c' := (-1)) (by decide +kernel) (by decide +kernel) l3 f3 (by decide) fun L_155 v_156 f_157 l_158 kp_159 => ?_
        obtain ⟨x_160, e_161, h⟩ := lx_s h
        have f_162 := q_is_eq f_157 e_161
        have l_163 := kp_159 0 _ l0 (by decide) (Or.inl (by decide))
        have l_164 := kp_159 1 _ l1 (by decide) (Or.inl (by decide))
        have l_165 := kp_159 2 _ l2 (by decide) (Or.inr (q_is_cat f2 (Or.inl rfl)))
        refine go_goto (o := (-32)) (t := 59) (by decide +kernel) (by decide +kernel) ?_
        exact ih m E h R l_163 f0 l_164 f1 l_165 f2 l_158 f_162
      · have h := it_n hp_154 h
        refine go_aload_n (n := 0) (by decide +kernel) l0 f0 ?_
        refine go_getf (x := 140) (ci := 13) (kf := 48) (fin := 1) (t := 2) (by decide +kernel) (by decide +kernel) (by decide +kernel) R f0 (fx_k (c := 13) R (by decide +kernel)) fun v_166 f_167 => ?_
        have f_168 := q_is_eq (b := 110) f_167 (fx_v R (by decide +kernel)).symm
        refine go_iload_n (n := 3) (by decide +kernel) l3 f3 ?_
        obtain ⟨x_172, e_173, h⟩ := lx_s h
        refine go_iald (kd := 100) (by decide +kernel) rfl R f_168 f3 (fx_k (c := 100) R (by decide +kernel)) (fx_x (a := 110) (ln := 512) R (by decide +kernel) g_150) fun v_169 f_170 => ?_
        have f_171 := q_is_eq f_170 e_173
        refine go_iload_n (n := 2) (by decide +kernel) l2 f2 ?_
        refine go_icmp (c := .ne) (o := 8) (t := 88) (P := ¬ (x_172 = y2)) (by decide +kernel) (by decide +kernel) f_171 f2 (Iff.rfl) (fun hp_174 => ?_) (fun hp_174 => ?_)
        · have h := it_f hp_174 h
          refine go_iinc (n := 3) (c := (-1)) (c' := (-1)) (by decide +kernel) (by decide +kernel) l3 f3 (by decide) fun L_175 v_176 f_177 l_178 kp_179 => ?_
          obtain ⟨x_180, e_181, h⟩ := lx_s h
          have f_182 := q_is_eq f_177 e_181
          have l_183 := kp_179 0 _ l0 (by decide) (Or.inl (by decide))
          have l_184 := kp_179 1 _ l1 (by decide) (Or.inl (by decide))
          have l_185 := kp_179 2 _ l2 (by decide) (Or.inr (q_is_cat f2 (Or.inl rfl)))
          refine go_goto (o := (-32)) (t := 59) (by decide +kernel) (by decide +kernel) ?_
          exact ih m E h R l_183 f0 l_184 f1 l_185 f2 l_178 f_182
        · have h := it_n hp_174 h
          refine go_aload_n (n := 0) (by decide +kernel) l0 f0 ?_
          refine go_iload_n (n := 3) (by decide +kernel) l3 f3 ?_
          obtain ⟨x_187, m_188, hc_186, h⟩ := bd_s h
          refine go_callV (x := 555) (mi := 253) (n := 1) (ci := 13) (as := [v3]) (rest := []) (by decide +kernel) (by decide +kernel) rfl rfl (q_sum8 _ (Nat.le_of_ble_eq_true rfl)) R f0 (fx_k (c := 13) R (by decide +kernel)) (om_X12_removesTimer (Nat.le_trans (by decide) hd) R f0 f3 hc_186) (fun _ S_191 q_194 => ?_) (fun _ _ qq => kr_x qq)
          refine kr_v q_194 fun R_192 E_193 => ?_
          have E_197 := Ext.tr E E_193
          refine go_iinc (n := 3) (c := (-1)) (c' := (-1)) (by decide +kernel) (by decide +kernel) l3 f3 (by decide) fun L_198 v_199 f_200 l_201 kp_202 => ?_
          obtain ⟨x_203, e_204, h⟩ := lx_s h
          have f_205 := q_is_eq f_200 e_204
          have l_206 := kp_202 0 _ l0 (by decide) (Or.inl (by decide))
          have l_207 := kp_202 1 _ l1 (by decide) (Or.inl (by decide))
          have l_208 := kp_202 2 _ l2 (by decide) (Or.inr (q_is_cat f2 (Or.inl rfl)))
          refine go_goto (o := (-32)) (t := 59) (by decide +kernel) (by decide +kernel) ?_
          exact ih m_188 E_197 h R_192 l_206 f0 l_207 f1 l_208 f2 l_201 f_205
noncomputable def fl_X12_drops_96 (y1 y2 : Int) : Nat → Int → MM → Option (Int × MM)
  | 0, _, _ => none
  | n + 1, y3, m => lx (m 68 12) fun x_237 =>
if y3 < x_237 then
gd (0 ≤ y3 ∧ y3 < 30) <| lx (m 84 y3) fun x_247 =>
if x_247 = y1 then
lx (m 85 y3) fun x_267 =>
if x_267 = y2 then
up m 84 y3 (-1) fun m_286 =>
lx (m_286 83 y3) fun x_299 =>
if x_299 = 0 then
bd (fm_X12_cancels y3 m_286) fun x_314 m_315 =>
lx (w32 (y3 + 1)) fun x_330 =>
fl_X12_drops_96 y1 y2 n x_330 m_315
else
lx (w32 (y3 + 1)) fun x_307 =>
fl_X12_drops_96 y1 y2 n x_307 m_286
else
lx (w32 (y3 + 1)) fun x_275 =>
fl_X12_drops_96 y1 y2 n x_275 m
else
lx (w32 (y3 + 1)) fun x_255 =>
fl_X12_drops_96 y1 y2 n x_255 m
else
some (0, m)
set_option maxHeartbeats 4000000 in
theorem ol_X12_drops_96 {xs : List Int32} {d : Nat} {Q : QO → QS → Prop} {mb : MM} {y1 y2 : Int} {rz : Int} {rm : MM}
  (hd : 4 ≤ d)
  (hQ : Ext mb rm → ∀ o S1, Rp S1 rm → q_out 9 o rz → Q o S1) :
  ∀ (n : Nat) {m : MM} {S : QS} {L : QL} {y3 : Int} {v0 : Value} {v1 : Value} {v2 : Value} {v3 : Value} , Ext mb m → fl_X12_drops_96 y1 y2 n y3 m = some (rz, rm) → Rp S m → q_lo L 0 = some v0 → q_is 2 v0 68 → q_lo L 1 = some v1 → q_is 0 v1 y1 → q_lo L 2 = some v2 → q_is 0 v2 y2 → q_lo L 3 = some v3 → q_is 0 v3 y3 → Go xs d qM_X12_drops 96 L [] S Q := by
  intro n
  induction n with
  | zero => intro m S L y3 v0 v1 v2 v3; intro E h R l0 f0 l1 f1 l2 f2 l3 f3; cases h
  | succ n ih0 =>
    intro m S L y3 v0 v1 v2 v3; intro E h R l0 f0 l1 f1 l2 f2 l3 f3
    have ih : ∀ mq : MM, Ext mb mq → ∀ {z3 : Int} {Sq : QS} {Lq : QL} {u0 : Value} {u1 : Value} {u2 : Value} {u3 : Value}, fl_X12_drops_96 y1 y2 n z3 mq = some (rz, rm) → Rp Sq mq → q_lo Lq 0 = some u0 → q_is 2 u0 68 → q_lo Lq 1 = some u1 → q_is 0 u1 y1 → q_lo Lq 2 = some u2 → q_is 0 u2 y2 → q_lo Lq 3 = some u3 → q_is 0 u3 z3 → Go xs d qM_X12_drops 96 Lq [] Sq Q := fun mq b => by intros; exact ih0 b ‹_› ‹_› ‹_› ‹_› ‹_› ‹_› ‹_› ‹_› ‹_› ‹_›
    unfold fl_X12_drops_96 at h
    refine go_iload_n (n := 3) (by decide +kernel) l3 f3 ?_
    refine go_aload_n (n := 0) (by decide +kernel) l0 f0 ?_
    obtain ⟨x_237, e_238, h⟩ := lx_s h
    refine go_getf (x := 310) (ci := 13) (kf := 12) (fin := 0) (t := 0) (by decide +kernel) (by decide +kernel) (by decide +kernel) R f0 (fx_k (c := 13) R (by decide +kernel)) fun v_234 f_235 => ?_
    have f_236 := q_is_eq f_235 e_238
    refine go_icmp (c := .ge) (o := 51) (t := 152) (P := ¬ (y3 < x_237)) (by decide +kernel) (by decide +kernel) f3 f_236 (Int.not_lt.symm) (fun hp_239 => ?_) (fun hp_239 => ?_)
    · have h := it_f hp_239 h
      cases h
      exact go_vret (by decide +kernel) rfl (hQ E _ _ R q_out_n)
    · have h := it_n hp_239 h
      refine go_aload_n (n := 0) (by decide +kernel) l0 f0 ?_
      refine go_getf (x := 55) (ci := 13) (kf := 17) (fin := 1) (t := 2) (by decide +kernel) (by decide +kernel) (by decide +kernel) R f0 (fx_k (c := 13) R (by decide +kernel)) fun v_240 f_241 => ?_
      have f_242 := q_is_eq (b := 84) f_241 (fx_v R (by decide +kernel)).symm
      refine go_iload_n (n := 3) (by decide +kernel) l3 f3 ?_
      obtain ⟨g_245, h⟩ := gd_s h
      obtain ⟨x_247, e_248, h⟩ := lx_s h
      refine go_iald (kd := 100) (by decide +kernel) rfl R f_242 f3 (fx_k (c := 100) R (by decide +kernel)) (fx_x (a := 84) (ln := 30) R (by decide +kernel) g_245) fun v_243 f_244 => ?_
      have f_246 := q_is_eq f_244 e_248
      refine go_iload_n (n := 1) (by decide +kernel) l1 f1 ?_
      refine go_icmp (c := .ne) (o := 35) (t := 146) (P := ¬ (x_247 = y1)) (by decide +kernel) (by decide +kernel) f_246 f1 (Iff.rfl) (fun hp_249 => ?_) (fun hp_249 => ?_)
      · have h := it_f hp_249 h
        refine go_iinc (n := 3) (c := 1) (c' := 1) (by decide +kernel) (by decide +kernel) l3 f3 (by decide) fun L_250 v_251 f_252 l_253 kp_254 => ?_
        obtain ⟨x_255, e_256, h⟩ := lx_s h
        have f_257 := q_is_eq f_252 e_256
        have l_258 := kp_254 0 _ l0 (by decide) (Or.inl (by decide))
        have l_259 := kp_254 1 _ l1 (by decide) (Or.inl (by decide))
        have l_260 := kp_254 2 _ l2 (by decide) (Or.inr (q_is_cat f2 (Or.inl rfl)))
        refine go_goto (o := (-53)) (t := 96) (by decide +kernel) (by decide +kernel) ?_
        exact ih m E h R l_258 f0 l_259 f1 l_260 f2 l_253 f_257
      · have h := it_n hp_249 h
        refine go_aload_n (n := 0) (by decide +kernel) l0 f0 ?_
        refine go_getf (x := 58) (ci := 13) (kf := 18) (fin := 1) (t := 2) (by decide +kernel) (by decide +kernel) (by decide +kernel) R f0 (fx_k (c := 13) R (by decide +kernel)) fun v_261 f_262 => ?_
        have f_263 := q_is_eq (b := 85) f_262 (fx_v R (by decide +kernel)).symm
        refine go_iload_n (n := 3) (by decide +kernel) l3 f3 ?_
        obtain ⟨x_267, e_268, h⟩ := lx_s h
        refine go_iald (kd := 100) (by decide +kernel) rfl R f_263 f3 (fx_k (c := 100) R (by decide +kernel)) (fx_x (a := 85) (ln := 30) R (by decide +kernel) g_245) fun v_264 f_265 => ?_
        have f_266 := q_is_eq f_265 e_268
        refine go_iload_n (n := 2) (by decide +kernel) l2 f2 ?_
        refine go_icmp (c := .ne) (o := 25) (t := 146) (P := ¬ (x_267 = y2)) (by decide +kernel) (by decide +kernel) f_266 f2 (Iff.rfl) (fun hp_269 => ?_) (fun hp_269 => ?_)
        · have h := it_f hp_269 h
          refine go_iinc (n := 3) (c := 1) (c' := 1) (by decide +kernel) (by decide +kernel) l3 f3 (by decide) fun L_270 v_271 f_272 l_273 kp_274 => ?_
          obtain ⟨x_275, e_276, h⟩ := lx_s h
          have f_277 := q_is_eq f_272 e_276
          have l_278 := kp_274 0 _ l0 (by decide) (Or.inl (by decide))
          have l_279 := kp_274 1 _ l1 (by decide) (Or.inl (by decide))
          have l_280 := kp_274 2 _ l2 (by decide) (Or.inr (q_is_cat f2 (Or.inl rfl)))
          refine go_goto (o := (-53)) (t := 96) (by decide +kernel) (by decide +kernel) ?_
          exact ih m E h R l_278 f0 l_279 f1 l_280 f2 l_273 f_277
        · have h := it_n hp_269 h
          refine go_aload_n (n := 0) (by decide +kernel) l0 f0 ?_
          refine go_getf (x := 55) (ci := 13) (kf := 17) (fin := 1) (t := 2) (by decide +kernel) (by decide +kernel) (by decide +kernel) R f0 (fx_k (c := 13) R (by decide +kernel)) fun v_281 f_282 => ?_
          have f_283 := q_is_eq (b := 84) f_282 (fx_v R (by decide +kernel)).symm
          refine go_iload_n (n := 3) (by decide +kernel) l3 f3 ?_
          refine go_iconst (n := (-1)) (z := (-1)) (by decide +kernel) (by decide) fun v_284 f_285 => ?_
          obtain ⟨m_286, e_287, h⟩ := up_s h
          refine go_iast (kd := 100) (by decide +kernel) rfl R f_283 f3 f_285 (fx_k (c := 100) R (by decide +kernel)) (fx_x (a := 84) (ln := 30) R (by decide +kernel) g_245) e_287 (fx_a R.2 (fx_k (c := 100) R (by decide +kernel)) (And.left (fx_x (a := 84) (ln := 30) R (by decide +kernel) g_245)) (by decide +kernel)) fun S_288 R_289 E_290 => ?_
          have E_292 := Ext.tr E E_290
          refine go_aload_n (n := 0) (by decide +kernel) l0 f0 ?_
          refine go_getf (x := 52) (ci := 13) (kf := 16) (fin := 1) (t := 2) (by decide +kernel) (by decide +kernel) (by decide +kernel) R_289 f0 (fx_k (c := 13) R_289 (by decide +kernel)) fun v_293 f_294 => ?_
          have f_295 := q_is_eq (b := 83) f_294 (fx_v R_289 (by decide +kernel)).symm
          refine go_iload_n (n := 3) (by decide +kernel) l3 f3 ?_
          obtain ⟨x_299, e_300, h⟩ := lx_s h
          refine go_iald (kd := 100) (by decide +kernel) rfl R_289 f_295 f3 (fx_k (c := 100) R_289 (by decide +kernel)) (fx_x (a := 83) (ln := 30) R_289 (by decide +kernel) g_245) fun v_296 f_297 => ?_
          have f_298 := q_is_eq f_297 e_300
          refine go_if (c := .ne) (o := 9) (t := 146) (P := ¬ (x_299 = 0)) (by decide +kernel) (by decide +kernel) f_298 (Iff.rfl) (fun hp_301 => ?_) (fun hp_301 => ?_)
          · have h := it_f hp_301 h
            refine go_iinc (n := 3) (c := 1) (c' := 1) (by decide +kernel) (by decide +kernel) l3 f3 (by decide) fun L_302 v_303 f_304 l_305 kp_306 => ?_
            obtain ⟨x_307, e_308, h⟩ := lx_s h
            have f_309 := q_is_eq f_304 e_308
            have l_310 := kp_306 0 _ l0 (by decide) (Or.inl (by decide))
            have l_311 := kp_306 1 _ l1 (by decide) (Or.inl (by decide))
            have l_312 := kp_306 2 _ l2 (by decide) (Or.inr (q_is_cat f2 (Or.inl rfl)))
            refine go_goto (o := (-53)) (t := 96) (by decide +kernel) (by decide +kernel) ?_
            exact ih m_286 E_292 h R_289 l_310 f0 l_311 f1 l_312 f2 l_305 f_309
          · have h := it_n hp_301 h
            refine go_aload_n (n := 0) (by decide +kernel) l0 f0 ?_
            refine go_iload_n (n := 3) (by decide +kernel) l3 f3 ?_
            obtain ⟨x_314, m_315, hc_313, h⟩ := bd_s h
            refine go_callV (x := 558) (mi := 214) (n := 1) (ci := 13) (as := [v3]) (rest := []) (by decide +kernel) (by decide +kernel) rfl rfl (q_sum8 _ (Nat.le_of_ble_eq_true rfl)) R_289 f0 (fx_k (c := 13) R_289 (by decide +kernel)) (om_X12_cancels (Nat.le_trans (by decide) hd) R_289 f0 f3 hc_313) (fun _ S_318 q_321 => ?_) (fun _ _ qq => kr_x qq)
            refine kr_z (by decide) q_321 fun v_316 f_317 R_319 E_320 => ?_
            have E_324 := Ext.tr E_292 E_320
            refine go_pop (by decide +kernel) f_317 (Or.inl rfl) ?_
            refine go_iinc (n := 3) (c := 1) (c' := 1) (by decide +kernel) (by decide +kernel) l3 f3 (by decide) fun L_325 v_326 f_327 l_328 kp_329 => ?_
            obtain ⟨x_330, e_331, h⟩ := lx_s h
            have f_332 := q_is_eq f_327 e_331
            have l_333 := kp_329 0 _ l0 (by decide) (Or.inl (by decide))
            have l_334 := kp_329 1 _ l1 (by decide) (Or.inl (by decide))
            have l_335 := kp_329 2 _ l2 (by decide) (Or.inr (q_is_cat f2 (Or.inl rfl)))
            refine go_goto (o := (-53)) (t := 96) (by decide +kernel) (by decide +kernel) ?_
            exact ih m_315 E_324 h R_319 l_333 f0 l_334 f1 l_335 f2 l_328 f_332
noncomputable def fm_X12_drops (p1 p2 : Int) (m0 : MM) : Option (Int × MM) := fl_X12_drops_2 p1 p2 (fun m_121 =>
lx (m_121 68 46) fun x_129 =>
lx (w32 (x_129 - 1)) fun x_135 =>
fl_X12_drops_59 p1 p2 (fun m_221 =>
fl_X12_drops_96 p1 p2  BIG 0 m_221) BIG x_135 m_121) BIG 0 m0
set_option maxHeartbeats 4000000 in
theorem om_X12_drops {xs : List Int32} {d : Nat} {S : QS} {m0 : MM} {p1 p2 : Int} {v0 : Value} {v1 : Value} {v2 : Value} {rz : Int} {rm : MM}
  (hd : 5 ≤ d) (R : Rp S m0) (f0 : q_is 2 v0 68) (f1 : q_is 0 v1 p1) (f2 : q_is 0 v2 p2)
  (h : fm_X12_drops p1 p2 m0 = some (rz, rm)) : Mt xs d 255 [v0, v1, v2] S (Cr 9 m0 rm rz) := by
  obtain ⟨d, rfl⟩ : ∃ e, d = e + 1 := ⟨d - 1, by omega⟩
  have hd : 4 ≤ d := Nat.le_of_succ_le_succ hd
  refine Mt.of (M := qM_X12_drops) rfl (by rw [sl_1 (q_is_cat f0 (Or.inr rfl)), sl_1 (q_is_cat f1 (Or.inl rfl)), sl_1 (q_is_cat f2 (Or.inl rfl)), sl_0]; decide) ?_
  rw [la_1 (q_is_cat f0 (Or.inr rfl)), la_1 (q_is_cat f1 (Or.inl rfl)), la_1 (q_is_cat f2 (Or.inl rfl)), la_0]
  obtain ⟨L, hL⟩ : ∃ L : QL, L = [(0, v0), (0 + 1, v1), (0 + 1 + 1, v2)] := ⟨_, rfl⟩
  rw [← hL]
  have l0 : q_lo L 0 = some v0 := by rw [hL]; rfl
  have l1 : q_lo L 1 = some v1 := by rw [hL]; rfl
  have l2 : q_lo L 2 = some v2 := by rw [hL]; rfl
  have hQ : Ext m0 rm → ∀ o S1, Rp S1 rm → q_out 9 o rz → (Cr 9 m0 rm rz) o S1 := fun a o S1 b e => ⟨b, a, e⟩
  unfold fm_X12_drops at h
  refine go_iconst (n := 0) (z := 0) (by decide +kernel) (by decide) fun v_1 f_2 => ?_
  refine go_istore_n (n := 3) (by decide +kernel) (by decide +kernel) f_2 fun L_3 l_4 kp_5 => ?_
  have l_6 := kp_5 0 _ l0 (by decide) (Or.inl (by decide))
  have l_7 := kp_5 1 _ l1 (by decide) (Or.inl (by decide))
  have l_8 := kp_5 2 _ l2 (by decide) (Or.inr (q_is_cat f2 (Or.inl rfl)))
  refine ol_X12_drops_2 hd  ?_ hQ BIG (Ext.rf _) h R l_6 f0 l_7 f1 l_8 f2 l_4 f_2
  intro m_121 E_122
  intro S_118 L_119 v_109 v_110 v_111
  intro h R_120 l_112 f_115 l_113 f_116 l_114 f_117
  have E_123 := E_122
  refine go_aload_n (n := 0) (by decide +kernel) l_112 f_115 ?_
  obtain ⟨x_129, e_130, h⟩ := lx_s h
  refine go_getf (x := 552) (ci := 13) (kf := 46) (fin := 0) (t := 0) (by decide +kernel) (by decide +kernel) (by decide +kernel) R_120 f_115 (fx_k (c := 13) R_120 (by decide +kernel)) fun v_126 f_127 => ?_
  have f_128 := q_is_eq f_127 e_130
  refine go_iconst (n := 1) (z := 1) (by decide +kernel) (by decide) fun v_131 f_132 => ?_
  refine go_isub (by decide +kernel) f_128 f_132 fun v_133 f_134 => ?_
  obtain ⟨x_135, e_136, h⟩ := lx_s h
  have f_137 := q_is_eq f_134 e_136
  refine go_istore_n (n := 3) (by decide +kernel) (by decide +kernel) f_137 fun L_138 l_139 kp_140 => ?_
  have l_141 := kp_140 0 _ l_112 (by decide) (Or.inl (by decide))
  have l_142 := kp_140 1 _ l_113 (by decide) (Or.inl (by decide))
  have l_143 := kp_140 2 _ l_114 (by decide) (Or.inr (q_is_cat f_117 (Or.inl rfl)))
  refine ol_X12_drops_59 hd  ?_ (fun b => hQ (Ext.tr E_123 b)) BIG (Ext.rf _) h R_120 l_141 f_115 l_142 f_116 l_143 f_117 l_139 f_137
  intro m_221 E_222
  intro S_218 L_219 v_209 v_210 v_211
  intro h R_220 l_212 f_215 l_213 f_216 l_214 f_217
  have E_223 := Ext.tr E_123 E_222
  refine go_iconst (n := 0) (z := 0) (by decide +kernel) (by decide) fun v_226 f_227 => ?_
  refine go_istore_n (n := 3) (by decide +kernel) (by decide +kernel) f_227 fun L_228 l_229 kp_230 => ?_
  have l_231 := kp_230 0 _ l_212 (by decide) (Or.inl (by decide))
  have l_232 := kp_230 1 _ l_213 (by decide) (Or.inl (by decide))
  have l_233 := kp_230 2 _ l_214 (by decide) (Or.inr (q_is_cat f_217 (Or.inl rfl)))
  refine ol_X12_drops_96 hd   (fun b => hQ (Ext.tr E_223 b)) BIG (Ext.rf _) h R_220 l_231 f_215 l_232 f_216 l_233 f_217 l_229 f_227
end DF34
