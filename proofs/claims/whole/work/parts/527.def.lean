/-! Methods as functions (written by wip/whole/dec.py), 27: X12_makes, X12_isAlive, X12_cancels, X12_slot, X12_goes, X12_spins, X12_differs, X12_nextCommand, X12_nextLater, X12_firstTask, X12_commands. -/
section DF27
noncomputable def fm_X12_makes (p1 p2 p3 p4 p5 p6 : Int) (m0 : MM) : Option (Int × MM) := lx (m0 68 12) fun x_4 =>
gd (0 ≤ x_4 ∧ x_4 < 30) <| up m0 80 x_4 p1 fun m_20 =>
up m_20 81 x_4 p2 fun m_29 =>
up m_29 82 x_4 p3 fun m_38 =>
up m_38 83 x_4 0 fun m_49 =>
up m_49 84 x_4 p5 fun m_58 =>
up m_58 85 x_4 p6 fun m_67 =>
up m_67 86 x_4 0 fun m_78 =>
lx (m_78 68 12) fun x_87 =>
up m_78 68 12 (w32 (x_87 + 1)) fun m_93 =>
if p4 = (-1) then
some (x_4, m_93)
else
bd (fm_X12_puts x_4 0 p4 0 m_93) fun x_107 m_108 =>
some (x_4, m_108)
set_option maxHeartbeats 4000000 in
theorem om_X12_makes {xs : List Int32} {d : Nat} {S : QS} {m0 : MM} {p1 p2 p3 p4 p5 p6 : Int} {v0 : Value} {v1 : Value} {v2 : Value} {v3 : Value} {v4 : Value} {v5 : Value} {v6 : Value} {rz : Int} {rm : MM}
  (hd : 4 ≤ d) (R : Rp S m0) (f0 : q_is 2 v0 68) (f1 : q_is 0 v1 p1) (f2 : q_is 0 v2 p2) (f3 : q_is 0 v3 p3) (f4 : q_is 0 v4 p4) (f5 : q_is 0 v5 p5) (f6 : q_is 0 v6 p6)
  (h : fm_X12_makes p1 p2 p3 p4 p5 p6 m0 = some (rz, rm)) : Mt xs d 212 [v0, v1, v2, v3, v4, v5, v6] S (Cr 0 m0 rm rz) := by
  obtain ⟨d, rfl⟩ : ∃ e, d = e + 1 := ⟨d - 1, by omega⟩
  have hd : 3 ≤ d := Nat.le_of_succ_le_succ hd
  refine Mt.of (M := qM_X12_makes) rfl (by rw [sl_1 (q_is_cat f0 (Or.inr rfl)), sl_1 (q_is_cat f1 (Or.inl rfl)), sl_1 (q_is_cat f2 (Or.inl rfl)), sl_1 (q_is_cat f3 (Or.inl rfl)), sl_1 (q_is_cat f4 (Or.inl rfl)), sl_1 (q_is_cat f5 (Or.inl rfl)), sl_1 (q_is_cat f6 (Or.inl rfl)), sl_0]; decide) ?_
  rw [la_1 (q_is_cat f0 (Or.inr rfl)), la_1 (q_is_cat f1 (Or.inl rfl)), la_1 (q_is_cat f2 (Or.inl rfl)), la_1 (q_is_cat f3 (Or.inl rfl)), la_1 (q_is_cat f4 (Or.inl rfl)), la_1 (q_is_cat f5 (Or.inl rfl)), la_1 (q_is_cat f6 (Or.inl rfl)), la_0]
  obtain ⟨L, hL⟩ : ∃ L : QL, L = [(0, v0), (0 + 1, v1), (0 + 1 + 1, v2), (0 + 1 + 1 + 1, v3), (0 + 1 + 1 + 1 + 1, v4), (0 + 1 + 1 + 1 + 1 + 1, v5), (0 + 1 + 1 + 1 + 1 + 1 + 1, v6)] := ⟨_, rfl⟩
  rw [← hL]
  have l0 : q_lo L 0 = some v0 := by rw [hL]; rfl
  have l1 : q_lo L 1 = some v1 := by rw [hL]; rfl
  have l2 : q_lo L 2 = some v2 := by rw [hL]; rfl
  have l3 : q_lo L 3 = some v3 := by rw [hL]; rfl
  have l4 : q_lo L 4 = some v4 := by rw [hL]; rfl
  have l5 : q_lo L 5 = some v5 := by rw [hL]; rfl
  have l6 : q_lo L 6 = some v6 := by rw [hL]; rfl
  have hQ : Ext m0 rm → ∀ o S1, Rp S1 rm → q_out 0 o rz → (Cr 0 m0 rm rz) o S1 := fun a o S1 b e => ⟨b, a, e⟩
  unfold fm_X12_makes at h
  refine go_aload_n (n := 0) (by decide +kernel) l0 f0 ?_
  obtain ⟨x_4, e_5, h⟩ := lx_s h
  refine go_getf (x := 310) (ci := 13) (kf := 12) (fin := 0) (t := 0) (by decide +kernel) (by decide +kernel) (by decide +kernel) R f0 (fx_k (c := 13) R (by decide +kernel)) fun v_1 f_2 => ?_
  have f_3 := q_is_eq f_2 e_5
  refine go_istore (n := 7) (by decide +kernel) (by decide +kernel) f_3 fun L_6 l_7 kp_8 => ?_
  have l_9 := kp_8 0 _ l0 (by decide) (Or.inl (by decide))
  have l_10 := kp_8 1 _ l1 (by decide) (Or.inl (by decide))
  have l_11 := kp_8 2 _ l2 (by decide) (Or.inl (by decide))
  have l_12 := kp_8 3 _ l3 (by decide) (Or.inl (by decide))
  have l_13 := kp_8 4 _ l4 (by decide) (Or.inl (by decide))
  have l_14 := kp_8 5 _ l5 (by decide) (Or.inl (by decide))
  have l_15 := kp_8 6 _ l6 (by decide) (Or.inr (q_is_cat f6 (Or.inl rfl)))
  refine go_aload_n (n := 0) (by decide +kernel) l_9 f0 ?_
  refine go_getf (x := 43) (ci := 13) (kf := 13) (fin := 1) (t := 2) (by decide +kernel) (by decide +kernel) (by decide +kernel) R f0 (fx_k (c := 13) R (by decide +kernel)) fun v_16 f_17 => ?_
  have f_18 := q_is_eq (b := 80) f_17 (fx_v R (by decide +kernel)).symm
  refine go_iload (n := 7) (by decide +kernel) l_7 f_3 ?_
  refine go_iload_n (n := 1) (by decide +kernel) l_10 f1 ?_
  obtain ⟨g_19, h⟩ := gd_s h
  obtain ⟨m_20, e_21, h⟩ := up_s h
  refine go_iast (kd := 100) (by decide +kernel) rfl R f_18 f_3 f1 (fx_k (c := 100) R (by decide +kernel)) (fx_x (a := 80) (ln := 30) R (by decide +kernel) g_19) e_21 (fx_a R.2 (fx_k (c := 100) R (by decide +kernel)) (And.left (fx_x (a := 80) (ln := 30) R (by decide +kernel) g_19)) (by decide +kernel)) fun S_22 R_23 E_24 => ?_
  have E_25 := E_24
  refine go_aload_n (n := 0) (by decide +kernel) l_9 f0 ?_
  refine go_getf (x := 46) (ci := 13) (kf := 14) (fin := 1) (t := 2) (by decide +kernel) (by decide +kernel) (by decide +kernel) R_23 f0 (fx_k (c := 13) R_23 (by decide +kernel)) fun v_26 f_27 => ?_
  have f_28 := q_is_eq (b := 81) f_27 (fx_v R_23 (by decide +kernel)).symm
  refine go_iload (n := 7) (by decide +kernel) l_7 f_3 ?_
  refine go_iload_n (n := 2) (by decide +kernel) l_11 f2 ?_
  obtain ⟨m_29, e_30, h⟩ := up_s h
  refine go_iast (kd := 100) (by decide +kernel) rfl R_23 f_28 f_3 f2 (fx_k (c := 100) R_23 (by decide +kernel)) (fx_x (a := 81) (ln := 30) R_23 (by decide +kernel) g_19) e_30 (fx_a R_23.2 (fx_k (c := 100) R_23 (by decide +kernel)) (And.left (fx_x (a := 81) (ln := 30) R_23 (by decide +kernel) g_19)) (by decide +kernel)) fun S_31 R_32 E_33 => ?_
  have E_34 := Ext.tr E_25 E_33
  refine go_aload_n (n := 0) (by decide +kernel) l_9 f0 ?_
  refine go_getf (x := 49) (ci := 13) (kf := 15) (fin := 1) (t := 2) (by decide +kernel) (by decide +kernel) (by decide +kernel) R_32 f0 (fx_k (c := 13) R_32 (by decide +kernel)) fun v_35 f_36 => ?_
  have f_37 := q_is_eq (b := 82) f_36 (fx_v R_32 (by decide +kernel)).symm
  refine go_iload (n := 7) (by decide +kernel) l_7 f_3 ?_
  refine go_iload_n (n := 3) (by decide +kernel) l_12 f3 ?_
  obtain ⟨m_38, e_39, h⟩ := up_s h
  refine go_iast (kd := 100) (by decide +kernel) rfl R_32 f_37 f_3 f3 (fx_k (c := 100) R_32 (by decide +kernel)) (fx_x (a := 82) (ln := 30) R_32 (by decide +kernel) g_19) e_39 (fx_a R_32.2 (fx_k (c := 100) R_32 (by decide +kernel)) (And.left (fx_x (a := 82) (ln := 30) R_32 (by decide +kernel) g_19)) (by decide +kernel)) fun S_40 R_41 E_42 => ?_
  have E_43 := Ext.tr E_34 E_42
  refine go_aload_n (n := 0) (by decide +kernel) l_9 f0 ?_
  refine go_getf (x := 52) (ci := 13) (kf := 16) (fin := 1) (t := 2) (by decide +kernel) (by decide +kernel) (by decide +kernel) R_41 f0 (fx_k (c := 13) R_41 (by decide +kernel)) fun v_44 f_45 => ?_
  have f_46 := q_is_eq (b := 83) f_45 (fx_v R_41 (by decide +kernel)).symm
  refine go_iload (n := 7) (by decide +kernel) l_7 f_3 ?_
  refine go_iconst (n := 0) (z := 0) (by decide +kernel) (by decide) fun v_47 f_48 => ?_
  obtain ⟨m_49, e_50, h⟩ := up_s h
  refine go_iast (kd := 100) (by decide +kernel) rfl R_41 f_46 f_3 f_48 (fx_k (c := 100) R_41 (by decide +kernel)) (fx_x (a := 83) (ln := 30) R_41 (by decide +kernel) g_19) e_50 (fx_a R_41.2 (fx_k (c := 100) R_41 (by decide +kernel)) (And.left (fx_x (a := 83) (ln := 30) R_41 (by decide +kernel) g_19)) (by decide +kernel)) fun S_51 R_52 E_53 => ?_
  have E_54 := Ext.tr E_43 E_53
  refine go_aload_n (n := 0) (by decide +kernel) l_9 f0 ?_
  refine go_getf (x := 55) (ci := 13) (kf := 17) (fin := 1) (t := 2) (by decide +kernel) (by decide +kernel) (by decide +kernel) R_52 f0 (fx_k (c := 13) R_52 (by decide +kernel)) fun v_55 f_56 => ?_
  have f_57 := q_is_eq (b := 84) f_56 (fx_v R_52 (by decide +kernel)).symm
  refine go_iload (n := 7) (by decide +kernel) l_7 f_3 ?_
  refine go_iload (n := 5) (by decide +kernel) l_14 f5 ?_
  obtain ⟨m_58, e_59, h⟩ := up_s h
  refine go_iast (kd := 100) (by decide +kernel) rfl R_52 f_57 f_3 f5 (fx_k (c := 100) R_52 (by decide +kernel)) (fx_x (a := 84) (ln := 30) R_52 (by decide +kernel) g_19) e_59 (fx_a R_52.2 (fx_k (c := 100) R_52 (by decide +kernel)) (And.left (fx_x (a := 84) (ln := 30) R_52 (by decide +kernel) g_19)) (by decide +kernel)) fun S_60 R_61 E_62 => ?_
  have E_63 := Ext.tr E_54 E_62
  refine go_aload_n (n := 0) (by decide +kernel) l_9 f0 ?_
  refine go_getf (x := 58) (ci := 13) (kf := 18) (fin := 1) (t := 2) (by decide +kernel) (by decide +kernel) (by decide +kernel) R_61 f0 (fx_k (c := 13) R_61 (by decide +kernel)) fun v_64 f_65 => ?_
  have f_66 := q_is_eq (b := 85) f_65 (fx_v R_61 (by decide +kernel)).symm
  refine go_iload (n := 7) (by decide +kernel) l_7 f_3 ?_
  refine go_iload (n := 6) (by decide +kernel) l_15 f6 ?_
  obtain ⟨m_67, e_68, h⟩ := up_s h
  refine go_iast (kd := 100) (by decide +kernel) rfl R_61 f_66 f_3 f6 (fx_k (c := 100) R_61 (by decide +kernel)) (fx_x (a := 85) (ln := 30) R_61 (by decide +kernel) g_19) e_68 (fx_a R_61.2 (fx_k (c := 100) R_61 (by decide +kernel)) (And.left (fx_x (a := 85) (ln := 30) R_61 (by decide +kernel) g_19)) (by decide +kernel)) fun S_69 R_70 E_71 => ?_
  have E_72 := Ext.tr E_63 E_71
  refine go_aload_n (n := 0) (by decide +kernel) l_9 f0 ?_
  refine go_getf (x := 61) (ci := 13) (kf := 19) (fin := 1) (t := 2) (by decide +kernel) (by decide +kernel) (by decide +kernel) R_70 f0 (fx_k (c := 13) R_70 (by decide +kernel)) fun v_73 f_74 => ?_
  have f_75 := q_is_eq (b := 86) f_74 (fx_v R_70 (by decide +kernel)).symm
  refine go_iload (n := 7) (by decide +kernel) l_7 f_3 ?_
  refine go_iconst (n := 0) (z := 0) (by decide +kernel) (by decide) fun v_76 f_77 => ?_
  obtain ⟨m_78, e_79, h⟩ := up_s h
  refine go_iast (kd := 100) (by decide +kernel) rfl R_70 f_75 f_3 f_77 (fx_k (c := 100) R_70 (by decide +kernel)) (fx_x (a := 86) (ln := 30) R_70 (by decide +kernel) g_19) e_79 (fx_a R_70.2 (fx_k (c := 100) R_70 (by decide +kernel)) (And.left (fx_x (a := 86) (ln := 30) R_70 (by decide +kernel) g_19)) (by decide +kernel)) fun S_80 R_81 E_82 => ?_
  have E_83 := Ext.tr E_72 E_82
  refine go_aload_n (n := 0) (by decide +kernel) l_9 f0 ?_
  refine go_dup (by decide +kernel) f0 (Or.inr rfl) ?_
  obtain ⟨x_87, e_88, h⟩ := lx_s h
  refine go_getf (x := 310) (ci := 13) (kf := 12) (fin := 0) (t := 0) (by decide +kernel) (by decide +kernel) (by decide +kernel) R_81 f0 (fx_k (c := 13) R_81 (by decide +kernel)) fun v_84 f_85 => ?_
  have f_86 := q_is_eq f_85 e_88
  refine go_iconst (n := 1) (z := 1) (by decide +kernel) (by decide) fun v_89 f_90 => ?_
  refine go_iadd (by decide +kernel) f_86 f_90 fun v_91 f_92 => ?_
  obtain ⟨m_93, e_94, h⟩ := up_s h
  refine go_putf (x := 310) (ci := 13) (kf := 12) (fin := 0) (zt := 0) (by decide +kernel) (by decide +kernel) (by decide) (by decide +kernel) (by decide) (Or.inl rfl) R_81 f0 f_92 (fun hq => absurd hq (by decide)) (fx_k (c := 13) R_81 (by decide +kernel)) e_94 (fx_f (j := 12) R_81.2 (fx_k (c := 13) R_81 (by decide +kernel)) (by decide +kernel)) fun S_95 R_96 E_97 => ?_
  have E_98 := Ext.tr E_83 E_97
  refine go_iload (n := 4) (by decide +kernel) l_13 f4 ?_
  refine go_iconst (n := (-1)) (z := (-1)) (by decide +kernel) (by decide) fun v_99 f_100 => ?_
  refine go_icmp (c := .eq) (o := 14) (t := 91) (P := p4 = (-1)) (by decide +kernel) (by decide +kernel) f4 f_100 (Iff.rfl) (fun hp_101 => ?_) (fun hp_101 => ?_)
  · have h := it_t hp_101 h
    refine go_iload (n := 7) (by decide +kernel) l_7 f_3 ?_
    cases h
    exact go_iret (by decide +kernel) rfl (Or.inl rfl) f_3 (hQ E_98 _ _ R_96 (q_out_v (by decide) f_3))
  · have h := it_f hp_101 h
    refine go_aload_n (n := 0) (by decide +kernel) l_9 f0 ?_
    refine go_iload (n := 7) (by decide +kernel) l_7 f_3 ?_
    refine go_iconst (n := 0) (z := 0) (by decide +kernel) (by decide) fun v_102 f_103 => ?_
    refine go_iload (n := 4) (by decide +kernel) l_13 f4 ?_
    refine go_iconst (n := 0) (z := 0) (by decide +kernel) (by decide) fun v_104 f_105 => ?_
    obtain ⟨x_107, m_108, hc_106, h⟩ := bd_s h
    refine go_callV (x := 360) (mi := 210) (n := 4) (ci := 13) (as := [v_1, v_102, v4, v_104]) (rest := []) (by decide +kernel) (by decide +kernel) rfl rfl (q_sum8 _ (Nat.le_of_ble_eq_true rfl)) R_96 f0 (fx_k (c := 13) R_96 (by decide +kernel)) (om_X12_puts (Nat.le_trans (by decide) hd) R_96 f0 f_3 f_103 f4 f_105 hc_106) (fun _ S_111 q_114 => ?_) (fun _ _ qq => kr_x qq)
    refine kr_z (by decide) q_114 fun v_109 f_110 R_112 E_113 => ?_
    have E_115 := Ext.tr E_98 E_113
    refine go_pop (by decide +kernel) f_110 (Or.inl rfl) ?_
    refine go_iload (n := 7) (by decide +kernel) l_7 f_3 ?_
    cases h
    exact go_iret (by decide +kernel) rfl (Or.inl rfl) f_3 (hQ E_115 _ _ R_112 (q_out_v (by decide) f_3))
noncomputable def fm_X12_isAlive (p1 : Int) (m0 : MM) : Option Int := gd (0 ≤ p1 ∧ p1 < 30) <| lx (m0 83 p1) fun x_8 =>
if x_8 = 0 then
some 1
else
if x_8 = 6 then
some 1
else
some 0
set_option maxHeartbeats 4000000 in
theorem om_X12_isAlive {xs : List Int32} {d : Nat} {S : QS} {m0 : MM} {p1 : Int} {v0 : Value} {v1 : Value} {rz : Int}
  (hd : 1 ≤ d) (R : Rp S m0) (f0 : q_is 2 v0 68) (f1 : q_is 0 v1 p1)
  (h : fm_X12_isAlive p1 m0 = some rz) : Mt xs d 213 [v0, v1] S (Cr 0 m0 m0 rz) := by
  obtain ⟨d, rfl⟩ : ∃ e, d = e + 1 := ⟨d - 1, by omega⟩
  have hd : 0 ≤ d := Nat.le_of_succ_le_succ hd
  refine Mt.of (M := qM_X12_isAlive) rfl (by rw [sl_1 (q_is_cat f0 (Or.inr rfl)), sl_1 (q_is_cat f1 (Or.inl rfl)), sl_0]; decide) ?_
  rw [la_1 (q_is_cat f0 (Or.inr rfl)), la_1 (q_is_cat f1 (Or.inl rfl)), la_0]
  obtain ⟨L, hL⟩ : ∃ L : QL, L = [(0, v0), (0 + 1, v1)] := ⟨_, rfl⟩
  rw [← hL]
  have l0 : q_lo L 0 = some v0 := by rw [hL]; rfl
  have l1 : q_lo L 1 = some v1 := by rw [hL]; rfl
  have hQ : ∀ o S1, Rp S1 m0 → q_out 0 o rz → (Cr 0 m0 m0 rz) o S1 := fun o S1 a b => ⟨a, Ext.rf _, b⟩
  unfold fm_X12_isAlive at h
  refine go_aload_n (n := 0) (by decide +kernel) l0 f0 ?_
  refine go_getf (x := 52) (ci := 13) (kf := 16) (fin := 1) (t := 2) (by decide +kernel) (by decide +kernel) (by decide +kernel) R f0 (fx_k (c := 13) R (by decide +kernel)) fun v_1 f_2 => ?_
  have f_3 := q_is_eq (b := 83) f_2 (fx_v R (by decide +kernel)).symm
  refine go_iload_n (n := 1) (by decide +kernel) l1 f1 ?_
  obtain ⟨g_6, h⟩ := gd_s h
  obtain ⟨x_8, e_9, h⟩ := lx_s h
  refine go_iald (kd := 100) (by decide +kernel) rfl R f_3 f1 (fx_k (c := 100) R (by decide +kernel)) (fx_x (a := 83) (ln := 30) R (by decide +kernel) g_6) fun v_4 f_5 => ?_
  have f_7 := q_is_eq f_5 e_9
  refine go_if (c := .eq) (o := 14) (t := 20) (P := x_8 = 0) (by decide +kernel) (by decide +kernel) f_7 (Iff.rfl) (fun hp_10 => ?_) (fun hp_10 => ?_)
  · have h := it_t hp_10 h
    refine go_iconst (n := 1) (z := 1) (by decide +kernel) (by decide) fun v_11 f_12 => ?_
    refine go_goto (o := 4) (t := 25) (by decide +kernel) (by decide +kernel) ?_
    cases h
    exact go_iret (by decide +kernel) rfl (Or.inr ⟨rfl, by decide⟩) f_12 (hQ _ _ R (q_out_v (by decide) f_12))
  · have h := it_f hp_10 h
    refine go_aload_n (n := 0) (by decide +kernel) l0 f0 ?_
    refine go_getf (x := 52) (ci := 13) (kf := 16) (fin := 1) (t := 2) (by decide +kernel) (by decide +kernel) (by decide +kernel) R f0 (fx_k (c := 13) R (by decide +kernel)) fun v_13 f_14 => ?_
    have f_15 := q_is_eq (b := 83) f_14 (fx_v R (by decide +kernel)).symm
    refine go_iload_n (n := 1) (by decide +kernel) l1 f1 ?_
    refine go_iald (kd := 100) (by decide +kernel) rfl R f_15 f1 (fx_k (c := 100) R (by decide +kernel)) (fx_x (a := 83) (ln := 30) R (by decide +kernel) g_6) fun v_16 f_17 => ?_
    have f_18 := q_is_eq f_17 e_9
    refine go_bipush (n := 6) (z := 6) (by decide +kernel) (by decide) fun v_19 f_20 => ?_
    refine go_icmp (c := .ne) (o := 7) (t := 24) (P := ¬ (x_8 = 6)) (by decide +kernel) (by decide +kernel) f_18 f_20 (Iff.rfl) (fun hp_21 => ?_) (fun hp_21 => ?_)
    · have h := it_f hp_21 h
      refine go_iconst (n := 0) (z := 0) (by decide +kernel) (by decide) fun v_22 f_23 => ?_
      cases h
      exact go_iret (by decide +kernel) rfl (Or.inr ⟨rfl, by decide⟩) f_23 (hQ _ _ R (q_out_v (by decide) f_23))
    · have h := it_n hp_21 h
      refine go_iconst (n := 1) (z := 1) (by decide +kernel) (by decide) fun v_24 f_25 => ?_
      refine go_goto (o := 4) (t := 25) (by decide +kernel) (by decide +kernel) ?_
      cases h
      exact go_iret (by decide +kernel) rfl (Or.inr ⟨rfl, by decide⟩) f_25 (hQ _ _ R (q_out_v (by decide) f_25))
noncomputable def fj_X12_cancels_15 (y1 s0 : Int) (m : MM) : Option (Int × MM) := if s0 = 0 then
gd (s0 = 0 ∨ s0 = 1) <| some (s0, m)
else
bd (fm_X12_puts y1 7 0 0 m) fun x_29 m_30 =>
gd (s0 = 0 ∨ s0 = 1) <| some (s0, m_30)
set_option maxHeartbeats 4000000 in
theorem oj_X12_cancels_15 {xs : List Int32} {d : Nat} {S : QS} {L : QL} {Q : QO → QS → Prop} {m : MM} {y1 s0 : Int} {v0 : Value} {v1 : Value} {w0 : Value}  {rz : Int} {rm : MM}
  (hd : 3 ≤ d) (R : Rp S m) (l0 : q_lo L 0 = some v0) (f0 : q_is 2 v0 68) (l1 : q_lo L 1 = some v1) (f1 : q_is 0 v1 y1) (fs0 : q_is 0 w0 s0)
  (hQ : Ext m rm → ∀ o S1, Rp S1 rm → q_out 0 o rz → Q o S1)
  (h : fj_X12_cancels_15 y1 s0 m = some (rz, rm)) : Go xs d qM_X12_cancels 15 L [w0] S Q := by
  unfold fj_X12_cancels_15 at h
  refine go_istore_n (n := 2) (by decide +kernel) (by decide +kernel) fs0 fun L_15 l_16 kp_17 => ?_
  have l_18 := kp_17 0 _ l0 (by decide) (Or.inl (by decide))
  have l_19 := kp_17 1 _ l1 (by decide) (Or.inr (q_is_cat f1 (Or.inl rfl)))
  refine go_iload_n (n := 2) (by decide +kernel) l_16 fs0 ?_
  refine go_if (c := .eq) (o := 13) (t := 30) (P := s0 = 0) (by decide +kernel) (by decide +kernel) fs0 (Iff.rfl) (fun hp_20 => ?_) (fun hp_20 => ?_)
  · have h := it_t hp_20 h
    refine go_iload_n (n := 2) (by decide +kernel) l_16 fs0 ?_
    obtain ⟨g_21, h⟩ := gd_s h
    cases h
    exact go_iret (by decide +kernel) rfl (Or.inr ⟨rfl, g_21⟩) fs0 (hQ (Ext.rf _) _ _ R (q_out_v (by decide) fs0))
  · have h := it_f hp_20 h
    refine go_aload_n (n := 0) (by decide +kernel) l_18 f0 ?_
    refine go_iload_n (n := 1) (by decide +kernel) l_19 f1 ?_
    refine go_bipush (n := 7) (z := 7) (by decide +kernel) (by decide) fun v_22 f_23 => ?_
    refine go_iconst (n := 0) (z := 0) (by decide +kernel) (by decide) fun v_24 f_25 => ?_
    refine go_iconst (n := 0) (z := 0) (by decide +kernel) (by decide) fun v_26 f_27 => ?_
    obtain ⟨x_29, m_30, hc_28, h⟩ := bd_s h
    refine go_callV (x := 360) (mi := 210) (n := 4) (ci := 13) (as := [v1, v_22, v_24, v_26]) (rest := []) (by decide +kernel) (by decide +kernel) rfl rfl (q_sum8 _ (Nat.le_of_ble_eq_true rfl)) R f0 (fx_k (c := 13) R (by decide +kernel)) (om_X12_puts (Nat.le_trans (by decide) hd) R f0 f1 f_23 f_25 f_27 hc_28) (fun _ S_33 q_36 => ?_) (fun _ _ qq => kr_x qq)
    refine kr_z (by decide) q_36 fun v_31 f_32 R_34 E_35 => ?_
    have E_37 := E_35
    refine go_pop (by decide +kernel) f_32 (Or.inl rfl) ?_
    refine go_iload_n (n := 2) (by decide +kernel) l_16 fs0 ?_
    obtain ⟨g_38, h⟩ := gd_s h
    cases h
    exact go_iret (by decide +kernel) rfl (Or.inr ⟨rfl, g_38⟩) fs0 (hQ E_37 _ _ R_34 (q_out_v (by decide) fs0))
noncomputable def fm_X12_cancels (p1 : Int) (m0 : MM) : Option (Int × MM) := bp (fm_X12_hasCome p1 7 m0) fun x_4 =>
if x_4 = 0 then
fj_X12_cancels_15 p1 1 m0
else
fj_X12_cancels_15 p1 0 m0
set_option maxHeartbeats 4000000 in
theorem om_X12_cancels {xs : List Int32} {d : Nat} {S : QS} {m0 : MM} {p1 : Int} {v0 : Value} {v1 : Value} {rz : Int} {rm : MM}
  (hd : 4 ≤ d) (R : Rp S m0) (f0 : q_is 2 v0 68) (f1 : q_is 0 v1 p1)
  (h : fm_X12_cancels p1 m0 = some (rz, rm)) : Mt xs d 214 [v0, v1] S (Cr 0 m0 rm rz) := by
  obtain ⟨d, rfl⟩ : ∃ e, d = e + 1 := ⟨d - 1, by omega⟩
  have hd : 3 ≤ d := Nat.le_of_succ_le_succ hd
  refine Mt.of (M := qM_X12_cancels) rfl (by rw [sl_1 (q_is_cat f0 (Or.inr rfl)), sl_1 (q_is_cat f1 (Or.inl rfl)), sl_0]; decide) ?_
  rw [la_1 (q_is_cat f0 (Or.inr rfl)), la_1 (q_is_cat f1 (Or.inl rfl)), la_0]
  obtain ⟨L, hL⟩ : ∃ L : QL, L = [(0, v0), (0 + 1, v1)] := ⟨_, rfl⟩
  rw [← hL]
  have l0 : q_lo L 0 = some v0 := by rw [hL]; rfl
  have l1 : q_lo L 1 = some v1 := by rw [hL]; rfl
  have hQ : Ext m0 rm → ∀ o S1, Rp S1 rm → q_out 0 o rz → (Cr 0 m0 rm rz) o S1 := fun a o S1 b e => ⟨b, a, e⟩
  unfold fm_X12_cancels at h
  refine go_aload_n (n := 0) (by decide +kernel) l0 f0 ?_
  refine go_iload_n (n := 1) (by decide +kernel) l1 f1 ?_
  refine go_bipush (n := 7) (z := 7) (by decide +kernel) (by decide) fun v_1 f_2 => ?_
  obtain ⟨x_4, hc_3, h⟩ := bp_s h
  refine go_callV (x := 364) (mi := 211) (n := 2) (ci := 13) (as := [v1, v_1]) (rest := []) (by decide +kernel) (by decide +kernel) rfl rfl (q_sum8 _ (Nat.le_of_ble_eq_true rfl)) R f0 (fx_k (c := 13) R (by decide +kernel)) (om_X12_hasCome (Nat.le_trans (by decide) hd) R f0 f1 f_2 hc_3) (fun _ S_8 q_11 => ?_) (fun _ _ qq => kr_x qq)
  refine kr_z (by decide) q_11 fun v_6 f_7 R_9 E_10 => ?_
  refine go_if (c := .ne) (o := 7) (t := 14) (P := ¬ (x_4 = 0)) (by decide +kernel) (by decide +kernel) f_7 (Iff.rfl) (fun hp_12 => ?_) (fun hp_12 => ?_)
  · have h := it_f hp_12 h
    refine go_iconst (n := 0) (z := 0) (by decide +kernel) (by decide) fun v_13 f_14 => ?_
    exact oj_X12_cancels_15 hd R_9 l0 f0 l1 f1 f_14 hQ h
  · have h := it_n hp_12 h
    refine go_iconst (n := 1) (z := 1) (by decide +kernel) (by decide) fun v_39 f_40 => ?_
    refine go_goto (o := 4) (t := 15) (by decide +kernel) (by decide +kernel) ?_
    exact oj_X12_cancels_15 hd R_9 l0 f0 l1 f1 f_40 hQ h
noncomputable def fl_X12_slot_4 (y1 : Int) (m0 : MM) : Nat → Int → Int → Option Int
  | 0, _, _ => none
  | n + 1, y2, y3 => lx (m0 68 91) fun x_19 =>
if y3 < x_19 then
gd (0 ≤ y3 ∧ y3 < 12) <| lx (m0 143 y3) fun x_29 =>
if x_29 = y1 then
lx (w32 (y3 + 1)) fun x_60 =>
fl_X12_slot_4 y1 m0 n y3 x_60
else
lx (w32 (y3 + 1)) fun x_43 =>
fl_X12_slot_4 y1 m0 n y2 x_43
else
some y2
set_option maxHeartbeats 4000000 in
theorem ol_X12_slot_4 {xs : List Int32} {d : Nat} {Q : QO → QS → Prop} {m0 : MM} {y1 : Int} {rz : Int}
  (hd : 0 ≤ d)
  (hQ : ∀ o S1, Rp S1 m0 → q_out 0 o rz → Q o S1) :
  ∀ (n : Nat) {S : QS} {L : QL} {y2 y3 : Int} {v0 : Value} {v1 : Value} {v2 : Value} {v3 : Value} , fl_X12_slot_4 y1 m0 n y2 y3 = some rz → Rp S m0 → q_lo L 0 = some v0 → q_is 2 v0 68 → q_lo L 1 = some v1 → q_is 0 v1 y1 → q_lo L 2 = some v2 → q_is 0 v2 y2 → q_lo L 3 = some v3 → q_is 0 v3 y3 → Go xs d qM_X12_slot 4 L [] S Q := by
  intro n
  induction n with
  | zero => intro S L y2 y3 v0 v1 v2 v3; intro h R l0 f0 l1 f1 l2 f2 l3 f3; cases h
  | succ n ih0 =>
    intro S L y2 y3 v0 v1 v2 v3; intro h R l0 f0 l1 f1 l2 f2 l3 f3
    have ih : ∀ {z2 : Int} {z3 : Int} {Sq : QS} {Lq : QL} {u0 : Value} {u1 : Value} {u2 : Value} {u3 : Value}, fl_X12_slot_4 y1 m0 n z2 z3 = some rz → Rp Sq m0 → q_lo Lq 0 = some u0 → q_is 2 u0 68 → q_lo Lq 1 = some u1 → q_is 0 u1 y1 → q_lo Lq 2 = some u2 → q_is 0 u2 z2 → q_lo Lq 3 = some u3 → q_is 0 u3 z3 → Go xs d qM_X12_slot 4 Lq [] Sq Q := by intros; exact ih0 ‹_› ‹_› ‹_› ‹_› ‹_› ‹_› ‹_› ‹_› ‹_› ‹_›
    unfold fl_X12_slot_4 at h
    refine go_iload_n (n := 3) (by decide +kernel) l3 f3 ?_
    refine go_aload_n (n := 0) (by decide +kernel) l0 f0 ?_
    obtain ⟨x_19, e_20, h⟩ := lx_s h
    refine go_getf (x := 368) (ci := 13) (kf := 91) (fin := 0) (t := 0) (by decide +kernel) (by decide +kernel) (by decide +kernel) R f0 (fx_k (c := 13) R (by decide +kernel)) fun v_16 f_17 => ?_
    have f_18 := q_is_eq f_17 e_20
    refine go_icmp (c := .ge) (o := 25) (t := 34) (P := ¬ (y3 < x_19)) (by decide +kernel) (by decide +kernel) f3 f_18 (Int.not_lt.symm) (fun hp_21 => ?_) (fun hp_21 => ?_)
    · have h := it_f hp_21 h
      refine go_iload_n (n := 2) (by decide +kernel) l2 f2 ?_
      cases h
      exact go_iret (by decide +kernel) rfl (Or.inl rfl) f2 (hQ _ _ R (q_out_v (by decide) f2))
    · have h := it_n hp_21 h
      refine go_aload_n (n := 0) (by decide +kernel) l0 f0 ?_
      refine go_getf (x := 244) (ci := 13) (kf := 93) (fin := 1) (t := 2) (by decide +kernel) (by decide +kernel) (by decide +kernel) R f0 (fx_k (c := 13) R (by decide +kernel)) fun v_22 f_23 => ?_
      have f_24 := q_is_eq (b := 143) f_23 (fx_v R (by decide +kernel)).symm
      refine go_iload_n (n := 3) (by decide +kernel) l3 f3 ?_
      obtain ⟨g_27, h⟩ := gd_s h
      obtain ⟨x_29, e_30, h⟩ := lx_s h
      refine go_iald (kd := 100) (by decide +kernel) rfl R f_24 f3 (fx_k (c := 100) R (by decide +kernel)) (fx_x (a := 143) (ln := 12) R (by decide +kernel) g_27) fun v_25 f_26 => ?_
      have f_28 := q_is_eq f_26 e_30
      refine go_iload_n (n := 1) (by decide +kernel) l1 f1 ?_
      refine go_icmp (c := .ne) (o := 7) (t := 26) (P := ¬ (x_29 = y1)) (by decide +kernel) (by decide +kernel) f_28 f1 (Iff.rfl) (fun hp_31 => ?_) (fun hp_31 => ?_)
      · have h := it_f hp_31 h
        refine go_iload_n (n := 2) (by decide +kernel) l2 f2 ?_
        refine go_istore_n (n := 2) (by decide +kernel) (by decide +kernel) f2 fun L_32 l_33 kp_34 => ?_
        have l_35 := kp_34 0 _ l0 (by decide) (Or.inl (by decide))
        have l_36 := kp_34 1 _ l1 (by decide) (Or.inr (q_is_cat f1 (Or.inl rfl)))
        have l_37 := kp_34 3 _ l3 (by decide) (Or.inl (by decide))
        refine go_iinc (n := 3) (c := 1) (c' := 1) (by decide +kernel) (by decide +kernel) l_37 f3 (by decide) fun L_38 v_39 f_40 l_41 kp_42 => ?_
        obtain ⟨x_43, e_44, h⟩ := lx_s h
        have f_45 := q_is_eq f_40 e_44
        have l_46 := kp_42 0 _ l_35 (by decide) (Or.inl (by decide))
        have l_47 := kp_42 1 _ l_36 (by decide) (Or.inl (by decide))
        have l_48 := kp_42 2 _ l_33 (by decide) (Or.inr (q_is_cat f2 (Or.inl rfl)))
        refine go_goto (o := (-27)) (t := 4) (by decide +kernel) (by decide +kernel) ?_
        exact ih h R l_46 f0 l_47 f1 l_48 f2 l_41 f_45
      · have h := it_n hp_31 h
        refine go_iload_n (n := 3) (by decide +kernel) l3 f3 ?_
        refine go_goto (o := 4) (t := 27) (by decide +kernel) (by decide +kernel) ?_
        refine go_istore_n (n := 2) (by decide +kernel) (by decide +kernel) f3 fun L_49 l_50 kp_51 => ?_
        have l_52 := kp_51 0 _ l0 (by decide) (Or.inl (by decide))
        have l_53 := kp_51 1 _ l1 (by decide) (Or.inr (q_is_cat f1 (Or.inl rfl)))
        have l_54 := kp_51 3 _ l3 (by decide) (Or.inl (by decide))
        refine go_iinc (n := 3) (c := 1) (c' := 1) (by decide +kernel) (by decide +kernel) l_54 f3 (by decide) fun L_55 v_56 f_57 l_58 kp_59 => ?_
        obtain ⟨x_60, e_61, h⟩ := lx_s h
        have f_62 := q_is_eq f_57 e_61
        have l_63 := kp_59 0 _ l_52 (by decide) (Or.inl (by decide))
        have l_64 := kp_59 1 _ l_53 (by decide) (Or.inl (by decide))
        have l_65 := kp_59 2 _ l_50 (by decide) (Or.inr (q_is_cat f3 (Or.inl rfl)))
        refine go_goto (o := (-27)) (t := 4) (by decide +kernel) (by decide +kernel) ?_
        exact ih h R l_63 f0 l_64 f1 l_65 f3 l_58 f_62
noncomputable def fm_X12_slot (p1 : Int) (m0 : MM) : Option Int := fl_X12_slot_4 p1 m0  BIG (-1) 0
set_option maxHeartbeats 4000000 in
theorem om_X12_slot {xs : List Int32} {d : Nat} {S : QS} {m0 : MM} {p1 : Int} {v0 : Value} {v1 : Value} {rz : Int}
  (hd : 1 ≤ d) (R : Rp S m0) (f0 : q_is 2 v0 68) (f1 : q_is 0 v1 p1)
  (h : fm_X12_slot p1 m0 = some rz) : Mt xs d 215 [v0, v1] S (Cr 0 m0 m0 rz) := by
  obtain ⟨d, rfl⟩ : ∃ e, d = e + 1 := ⟨d - 1, by omega⟩
  have hd : 0 ≤ d := Nat.le_of_succ_le_succ hd
  refine Mt.of (M := qM_X12_slot) rfl (by rw [sl_1 (q_is_cat f0 (Or.inr rfl)), sl_1 (q_is_cat f1 (Or.inl rfl)), sl_0]; decide) ?_
  rw [la_1 (q_is_cat f0 (Or.inr rfl)), la_1 (q_is_cat f1 (Or.inl rfl)), la_0]
  obtain ⟨L, hL⟩ : ∃ L : QL, L = [(0, v0), (0 + 1, v1)] := ⟨_, rfl⟩
  rw [← hL]
  have l0 : q_lo L 0 = some v0 := by rw [hL]; rfl
  have l1 : q_lo L 1 = some v1 := by rw [hL]; rfl
  have hQ : ∀ o S1, Rp S1 m0 → q_out 0 o rz → (Cr 0 m0 m0 rz) o S1 := fun o S1 a b => ⟨a, Ext.rf _, b⟩
  unfold fm_X12_slot at h
  refine go_iconst (n := (-1)) (z := (-1)) (by decide +kernel) (by decide) fun v_1 f_2 => ?_
  refine go_istore_n (n := 2) (by decide +kernel) (by decide +kernel) f_2 fun L_3 l_4 kp_5 => ?_
  have l_6 := kp_5 0 _ l0 (by decide) (Or.inl (by decide))
  have l_7 := kp_5 1 _ l1 (by decide) (Or.inr (q_is_cat f1 (Or.inl rfl)))
  refine go_iconst (n := 0) (z := 0) (by decide +kernel) (by decide) fun v_8 f_9 => ?_
  refine go_istore_n (n := 3) (by decide +kernel) (by decide +kernel) f_9 fun L_10 l_11 kp_12 => ?_
  have l_13 := kp_12 0 _ l_6 (by decide) (Or.inl (by decide))
  have l_14 := kp_12 1 _ l_7 (by decide) (Or.inl (by decide))
  have l_15 := kp_12 2 _ l_4 (by decide) (Or.inr (q_is_cat f_2 (Or.inl rfl)))
  refine ol_X12_slot_4 hd   hQ BIG h R l_13 f0 l_14 f1 l_15 f_2 l_11 f_9
noncomputable def fm_X12_goes (m0 : MM) : Option Int := lx (m0 68 112) fun x_4 =>
if x_4 = 0 then
lx (m0 68 114) fun x_12 =>
if x_12 = 0 then
some 1
else
some 0
else
some 0
set_option maxHeartbeats 4000000 in
theorem om_X12_goes {xs : List Int32} {d : Nat} {S : QS} {m0 : MM} {v0 : Value} {rz : Int}
  (hd : 1 ≤ d) (R : Rp S m0) (f0 : q_is 2 v0 68)
  (h : fm_X12_goes m0 = some rz) : Mt xs d 216 [v0] S (Cr 0 m0 m0 rz) := by
  obtain ⟨d, rfl⟩ : ∃ e, d = e + 1 := ⟨d - 1, by omega⟩
  have hd : 0 ≤ d := Nat.le_of_succ_le_succ hd
  refine Mt.of (M := qM_X12_goes) rfl (by rw [sl_1 (q_is_cat f0 (Or.inr rfl)), sl_0]; decide) ?_
  rw [la_1 (q_is_cat f0 (Or.inr rfl)), la_0]
  obtain ⟨L, hL⟩ : ∃ L : QL, L = [(0, v0)] := ⟨_, rfl⟩
  rw [← hL]
  have l0 : q_lo L 0 = some v0 := by rw [hL]; rfl
  have hQ : ∀ o S1, Rp S1 m0 → q_out 0 o rz → (Cr 0 m0 m0 rz) o S1 := fun o S1 a b => ⟨a, Ext.rf _, b⟩
  unfold fm_X12_goes at h
  refine go_aload_n (n := 0) (by decide +kernel) l0 f0 ?_
  obtain ⟨x_4, e_5, h⟩ := lx_s h
  refine go_getf (x := 371) (ci := 13) (kf := 112) (fin := 0) (t := 0) (by decide +kernel) (by decide +kernel) (by decide +kernel) R f0 (fx_k (c := 13) R (by decide +kernel)) fun v_1 f_2 => ?_
  have f_3 := q_is_eq f_2 e_5
  refine go_if (c := .ne) (o := 14) (t := 18) (P := ¬ (x_4 = 0)) (by decide +kernel) (by decide +kernel) f_3 (Iff.rfl) (fun hp_6 => ?_) (fun hp_6 => ?_)
  · have h := it_f hp_6 h
    refine go_iconst (n := 0) (z := 0) (by decide +kernel) (by decide) fun v_7 f_8 => ?_
    cases h
    exact go_iret (by decide +kernel) rfl (Or.inr ⟨rfl, by decide⟩) f_8 (hQ _ _ R (q_out_v (by decide) f_8))
  · have h := it_n hp_6 h
    refine go_aload_n (n := 0) (by decide +kernel) l0 f0 ?_
    obtain ⟨x_12, e_13, h⟩ := lx_s h
    refine go_getf (x := 374) (ci := 13) (kf := 114) (fin := 0) (t := 0) (by decide +kernel) (by decide +kernel) (by decide +kernel) R f0 (fx_k (c := 13) R (by decide +kernel)) fun v_9 f_10 => ?_
    have f_11 := q_is_eq f_10 e_13
    refine go_if (c := .ne) (o := 7) (t := 18) (P := ¬ (x_12 = 0)) (by decide +kernel) (by decide +kernel) f_11 (Iff.rfl) (fun hp_14 => ?_) (fun hp_14 => ?_)
    · have h := it_f hp_14 h
      refine go_iconst (n := 0) (z := 0) (by decide +kernel) (by decide) fun v_15 f_16 => ?_
      cases h
      exact go_iret (by decide +kernel) rfl (Or.inr ⟨rfl, by decide⟩) f_16 (hQ _ _ R (q_out_v (by decide) f_16))
    · have h := it_n hp_14 h
      refine go_iconst (n := 1) (z := 1) (by decide +kernel) (by decide) fun v_17 f_18 => ?_
      refine go_goto (o := 4) (t := 19) (by decide +kernel) (by decide +kernel) ?_
      cases h
      exact go_iret (by decide +kernel) rfl (Or.inr ⟨rfl, by decide⟩) f_18 (hQ _ _ R (q_out_v (by decide) f_18))
noncomputable def fm_X12_spins (m0 : MM) : Option (Int × MM) := up m0 68 114 1 fun m_3 =>
up m_3 68 115 (-1) fun m_11 =>
some (0, m_11)
set_option maxHeartbeats 4000000 in
theorem om_X12_spins {xs : List Int32} {d : Nat} {S : QS} {m0 : MM} {v0 : Value} {rz : Int} {rm : MM}
  (hd : 1 ≤ d) (R : Rp S m0) (f0 : q_is 2 v0 68)
  (h : fm_X12_spins m0 = some (rz, rm)) : Mt xs d 217 [v0] S (Cr 9 m0 rm rz) := by
  obtain ⟨d, rfl⟩ : ∃ e, d = e + 1 := ⟨d - 1, by omega⟩
  have hd : 0 ≤ d := Nat.le_of_succ_le_succ hd
  refine Mt.of (M := qM_X12_spins) rfl (by rw [sl_1 (q_is_cat f0 (Or.inr rfl)), sl_0]; decide) ?_
  rw [la_1 (q_is_cat f0 (Or.inr rfl)), la_0]
  obtain ⟨L, hL⟩ : ∃ L : QL, L = [(0, v0)] := ⟨_, rfl⟩
  rw [← hL]
  have l0 : q_lo L 0 = some v0 := by rw [hL]; rfl
  have hQ : Ext m0 rm → ∀ o S1, Rp S1 rm → q_out 9 o rz → (Cr 9 m0 rm rz) o S1 := fun a o S1 b e => ⟨b, a, e⟩
  unfold fm_X12_spins at h
  refine go_aload_n (n := 0) (by decide +kernel) l0 f0 ?_
  refine go_iconst (n := 1) (z := 1) (by decide +kernel) (by decide) fun v_1 f_2 => ?_
  obtain ⟨m_3, e_4, h⟩ := up_s h
  refine go_putf (x := 374) (ci := 13) (kf := 114) (fin := 0) (zt := 1) (by decide +kernel) (by decide +kernel) (by decide) (by decide +kernel) (by decide) (Or.inl rfl) R f0 f_2 (fun _ => by decide) (fx_k (c := 13) R (by decide +kernel)) e_4 (fx_f (j := 114) R.2 (fx_k (c := 13) R (by decide +kernel)) (by decide +kernel)) fun S_5 R_6 E_7 => ?_
  have E_8 := E_7
  refine go_aload_n (n := 0) (by decide +kernel) l0 f0 ?_
  refine go_iconst (n := (-1)) (z := (-1)) (by decide +kernel) (by decide) fun v_9 f_10 => ?_
  obtain ⟨m_11, e_12, h⟩ := up_s h
  refine go_putf (x := 378) (ci := 13) (kf := 115) (fin := 0) (zt := 0) (by decide +kernel) (by decide +kernel) (by decide) (by decide +kernel) (by decide) (Or.inl rfl) R_6 f0 f_10 (fun hq => absurd hq (by decide)) (fx_k (c := 13) R_6 (by decide +kernel)) e_12 (fx_f (j := 115) R_6.2 (fx_k (c := 13) R_6 (by decide +kernel)) (by decide +kernel)) fun S_13 R_14 E_15 => ?_
  have E_16 := Ext.tr E_8 E_15
  cases h
  exact go_vret (by decide +kernel) rfl (hQ E_16 _ _ R_14 q_out_n)
noncomputable def fm_X12_differs (p1 : Int) (m0 : MM) : Option (Int × MM) := up m0 68 114 1 fun m_3 =>
up m_3 68 115 p1 fun m_9 =>
some (0, m_9)
set_option maxHeartbeats 4000000 in
theorem om_X12_differs {xs : List Int32} {d : Nat} {S : QS} {m0 : MM} {p1 : Int} {v0 : Value} {v1 : Value} {rz : Int} {rm : MM}
  (hd : 1 ≤ d) (R : Rp S m0) (f0 : q_is 2 v0 68) (f1 : q_is 0 v1 p1)
  (h : fm_X12_differs p1 m0 = some (rz, rm)) : Mt xs d 218 [v0, v1] S (Cr 9 m0 rm rz) := by
  obtain ⟨d, rfl⟩ : ∃ e, d = e + 1 := ⟨d - 1, by omega⟩
  have hd : 0 ≤ d := Nat.le_of_succ_le_succ hd
  refine Mt.of (M := qM_X12_differs) rfl (by rw [sl_1 (q_is_cat f0 (Or.inr rfl)), sl_1 (q_is_cat f1 (Or.inl rfl)), sl_0]; decide) ?_
  rw [la_1 (q_is_cat f0 (Or.inr rfl)), la_1 (q_is_cat f1 (Or.inl rfl)), la_0]
  obtain ⟨L, hL⟩ : ∃ L : QL, L = [(0, v0), (0 + 1, v1)] := ⟨_, rfl⟩
  rw [← hL]
  have l0 : q_lo L 0 = some v0 := by rw [hL]; rfl
  have l1 : q_lo L 1 = some v1 := by rw [hL]; rfl
  have hQ : Ext m0 rm → ∀ o S1, Rp S1 rm → q_out 9 o rz → (Cr 9 m0 rm rz) o S1 := fun a o S1 b e => ⟨b, a, e⟩
  unfold fm_X12_differs at h
  refine go_aload_n (n := 0) (by decide +kernel) l0 f0 ?_
  refine go_iconst (n := 1) (z := 1) (by decide +kernel) (by decide) fun v_1 f_2 => ?_
  obtain ⟨m_3, e_4, h⟩ := up_s h
  refine go_putf (x := 374) (ci := 13) (kf := 114) (fin := 0) (zt := 1) (by decide +kernel) (by decide +kernel) (by decide) (by decide +kernel) (by decide) (Or.inl rfl) R f0 f_2 (fun _ => by decide) (fx_k (c := 13) R (by decide +kernel)) e_4 (fx_f (j := 114) R.2 (fx_k (c := 13) R (by decide +kernel)) (by decide +kernel)) fun S_5 R_6 E_7 => ?_
  have E_8 := E_7
  refine go_aload_n (n := 0) (by decide +kernel) l0 f0 ?_
  refine go_iload_n (n := 1) (by decide +kernel) l1 f1 ?_
  obtain ⟨m_9, e_10, h⟩ := up_s h
  refine go_putf (x := 378) (ci := 13) (kf := 115) (fin := 0) (zt := 0) (by decide +kernel) (by decide +kernel) (by decide) (by decide +kernel) (by decide) (Or.inl rfl) R_6 f0 f1 (fun hq => absurd hq (by decide)) (fx_k (c := 13) R_6 (by decide +kernel)) e_10 (fx_f (j := 115) R_6.2 (fx_k (c := 13) R_6 (by decide +kernel)) (by decide +kernel)) fun S_11 R_12 E_13 => ?_
  have E_14 := Ext.tr E_8 E_13
  cases h
  exact go_vret (by decide +kernel) rfl (hQ E_14 _ _ R_12 q_out_n)
noncomputable def fl_X12_nextCommand_0 : Nat → MM → Option (Int × MM)
  | 0, _ => none
  | n + 1, m => lx (m 68 116) fun x_4 =>
lx (m 68 124) fun x_9 =>
if x_4 < x_9 then
lx (m 68 88) fun x_18 =>
bp (fm_X12_kindAt x_18 x_4 m) fun x_24 =>
bp (fm_X12_isIn x_24 8 16 m) fun x_37 =>
if x_37 = 0 then
up m 68 116 (w32 (x_4 + 1)) fun m_56 =>
fl_X12_nextCommand_0 n m_56
else
some (x_4, m)
else
some (x_4, m)
set_option maxHeartbeats 4000000 in
theorem ol_X12_nextCommand_0 {xs : List Int32} {d : Nat} {Q : QO → QS → Prop} {mb : MM} {rz : Int} {rm : MM}
  (hd : 2 ≤ d)
  (hQ : Ext mb rm → ∀ o S1, Rp S1 rm → q_out 0 o rz → Q o S1) :
  ∀ (n : Nat) {m : MM} {S : QS} {L : QL} {v0 : Value} , Ext mb m → fl_X12_nextCommand_0 n m = some (rz, rm) → Rp S m → q_lo L 0 = some v0 → q_is 2 v0 68 → Go xs d qM_X12_nextCommand 0 L [] S Q := by
  intro n
  induction n with
  | zero => intro m S L v0; intro E h R l0 f0; cases h
  | succ n ih0 =>
    intro m S L v0; intro E h R l0 f0
    have ih : ∀ mq : MM, Ext mb mq → ∀ {Sq : QS} {Lq : QL} {u0 : Value}, fl_X12_nextCommand_0 n mq = some (rz, rm) → Rp Sq mq → q_lo Lq 0 = some u0 → q_is 2 u0 68 → Go xs d qM_X12_nextCommand 0 Lq [] Sq Q := fun mq b => by intros; exact ih0 b ‹_› ‹_› ‹_› ‹_›
    unfold fl_X12_nextCommand_0 at h
    refine go_aload_n (n := 0) (by decide +kernel) l0 f0 ?_
    obtain ⟨x_4, e_5, h⟩ := lx_s h
    refine go_getf (x := 381) (ci := 13) (kf := 116) (fin := 0) (t := 0) (by decide +kernel) (by decide +kernel) (by decide +kernel) R f0 (fx_k (c := 13) R (by decide +kernel)) fun v_1 f_2 => ?_
    have f_3 := q_is_eq f_2 e_5
    refine go_aload_n (n := 0) (by decide +kernel) l0 f0 ?_
    obtain ⟨x_9, e_10, h⟩ := lx_s h
    refine go_getf (x := 384) (ci := 13) (kf := 124) (fin := 0) (t := 0) (by decide +kernel) (by decide +kernel) (by decide +kernel) R f0 (fx_k (c := 13) R (by decide +kernel)) fun v_6 f_7 => ?_
    have f_8 := q_is_eq f_7 e_10
    refine go_icmp (c := .ge) (o := 38) (t := 46) (P := ¬ (x_4 < x_9)) (by decide +kernel) (by decide +kernel) f_3 f_8 (Int.not_lt.symm) (fun hp_11 => ?_) (fun hp_11 => ?_)
    · have h := it_f hp_11 h
      refine go_aload_n (n := 0) (by decide +kernel) l0 f0 ?_
      refine go_getf (x := 381) (ci := 13) (kf := 116) (fin := 0) (t := 0) (by decide +kernel) (by decide +kernel) (by decide +kernel) R f0 (fx_k (c := 13) R (by decide +kernel)) fun v_12 f_13 => ?_
      have f_14 := q_is_eq f_13 e_5
      cases h
      exact go_iret (by decide +kernel) rfl (Or.inl rfl) f_14 (hQ E _ _ R (q_out_v (by decide) f_14))
    · have h := it_n hp_11 h
      refine go_aload_n (n := 0) (by decide +kernel) l0 f0 ?_
      refine go_aload_n (n := 0) (by decide +kernel) l0 f0 ?_
      obtain ⟨x_18, e_19, h⟩ := lx_s h
      refine go_getf (x := 387) (ci := 13) (kf := 88) (fin := 0) (t := 0) (by decide +kernel) (by decide +kernel) (by decide +kernel) R f0 (fx_k (c := 13) R (by decide +kernel)) fun v_15 f_16 => ?_
      have f_17 := q_is_eq f_16 e_19
      refine go_aload_n (n := 0) (by decide +kernel) l0 f0 ?_
      refine go_getf (x := 381) (ci := 13) (kf := 116) (fin := 0) (t := 0) (by decide +kernel) (by decide +kernel) (by decide +kernel) R f0 (fx_k (c := 13) R (by decide +kernel)) fun v_20 f_21 => ?_
      have f_22 := q_is_eq f_21 e_5
      obtain ⟨x_24, hc_23, h⟩ := bp_s h
      refine go_callV (x := 341) (mi := 204) (n := 2) (ci := 13) (as := [v_15, v_20]) (rest := []) (by decide +kernel) (by decide +kernel) rfl rfl (q_sum8 _ (Nat.le_of_ble_eq_true rfl)) R f0 (fx_k (c := 13) R (by decide +kernel)) (om_X12_kindAt (Nat.le_trans (by decide) hd) R f0 f_17 f_22 hc_23) (fun _ S_28 q_31 => ?_) (fun _ _ qq => kr_x qq)
      refine kr_z (by decide) q_31 fun v_26 f_27 R_29 E_30 => ?_
      refine go_bipush (n := 8) (z := 8) (by decide +kernel) (by decide) fun v_32 f_33 => ?_
      refine go_bipush (n := 16) (z := 16) (by decide +kernel) (by decide) fun v_34 f_35 => ?_
      obtain ⟨x_37, hc_36, h⟩ := bp_s h
      refine go_callS (x := 306) (mi := 188) (n := 3) (b := 0) (as := [v_26, v_32, v_34]) (rest := []) (by decide +kernel) (by decide +kernel) rfl rfl (q_sum8 _ (Nat.le_of_ble_eq_true rfl)) (om_X12_isIn (Nat.le_trans (by decide) hd) R_29 f_27 f_33 f_35 hc_36) (fun _ S_41 q_44 => ?_) (fun _ _ qq => kr_x qq)
      refine kr_z (by decide) q_44 fun v_39 f_40 R_42 E_43 => ?_
      refine go_if (c := .ne) (o := 16) (t := 46) (P := ¬ (x_37 = 0)) (by decide +kernel) (by decide +kernel) f_40 (Iff.rfl) (fun hp_45 => ?_) (fun hp_45 => ?_)
      · have h := it_f hp_45 h
        refine go_aload_n (n := 0) (by decide +kernel) l0 f0 ?_
        refine go_getf (x := 381) (ci := 13) (kf := 116) (fin := 0) (t := 0) (by decide +kernel) (by decide +kernel) (by decide +kernel) R_42 f0 (fx_k (c := 13) R_42 (by decide +kernel)) fun v_46 f_47 => ?_
        have f_48 := q_is_eq f_47 e_5
        cases h
        exact go_iret (by decide +kernel) rfl (Or.inl rfl) f_48 (hQ E _ _ R_42 (q_out_v (by decide) f_48))
      · have h := it_n hp_45 h
        refine go_aload_n (n := 0) (by decide +kernel) l0 f0 ?_
        refine go_dup (by decide +kernel) f0 (Or.inr rfl) ?_
        refine go_getf (x := 381) (ci := 13) (kf := 116) (fin := 0) (t := 0) (by decide +kernel) (by decide +kernel) (by decide +kernel) R_42 f0 (fx_k (c := 13) R_42 (by decide +kernel)) fun v_49 f_50 => ?_
        have f_51 := q_is_eq f_50 e_5
        refine go_iconst (n := 1) (z := 1) (by decide +kernel) (by decide) fun v_52 f_53 => ?_
        refine go_iadd (by decide +kernel) f_51 f_53 fun v_54 f_55 => ?_
        obtain ⟨m_56, e_57, h⟩ := up_s h
        refine go_putf (x := 381) (ci := 13) (kf := 116) (fin := 0) (zt := 0) (by decide +kernel) (by decide +kernel) (by decide) (by decide +kernel) (by decide) (Or.inl rfl) R_42 f0 f_55 (fun hq => absurd hq (by decide)) (fx_k (c := 13) R_42 (by decide +kernel)) e_57 (fx_f (j := 116) R_42.2 (fx_k (c := 13) R_42 (by decide +kernel)) (by decide +kernel)) fun S_58 R_59 E_60 => ?_
        have E_61 := Ext.tr E E_60
        refine go_goto (o := (-43)) (t := 0) (by decide +kernel) (by decide +kernel) ?_
        exact ih m_56 E_61 h R_59 l0 f0
noncomputable def fm_X12_nextCommand (m0 : MM) : Option (Int × MM) := fl_X12_nextCommand_0   BIG m0
set_option maxHeartbeats 4000000 in
theorem om_X12_nextCommand {xs : List Int32} {d : Nat} {S : QS} {m0 : MM} {v0 : Value} {rz : Int} {rm : MM}
  (hd : 3 ≤ d) (R : Rp S m0) (f0 : q_is 2 v0 68)
  (h : fm_X12_nextCommand m0 = some (rz, rm)) : Mt xs d 219 [v0] S (Cr 0 m0 rm rz) := by
  obtain ⟨d, rfl⟩ : ∃ e, d = e + 1 := ⟨d - 1, by omega⟩
  have hd : 2 ≤ d := Nat.le_of_succ_le_succ hd
  refine Mt.of (M := qM_X12_nextCommand) rfl (by rw [sl_1 (q_is_cat f0 (Or.inr rfl)), sl_0]; decide) ?_
  rw [la_1 (q_is_cat f0 (Or.inr rfl)), la_0]
  obtain ⟨L, hL⟩ : ∃ L : QL, L = [(0, v0)] := ⟨_, rfl⟩
  rw [← hL]
  have l0 : q_lo L 0 = some v0 := by rw [hL]; rfl
  have hQ : Ext m0 rm → ∀ o S1, Rp S1 rm → q_out 0 o rz → (Cr 0 m0 rm rz) o S1 := fun a o S1 b e => ⟨b, a, e⟩
  unfold fm_X12_nextCommand at h
  refine ol_X12_nextCommand_0 hd   hQ BIG (Ext.rf _) h R l0 f0
noncomputable def fl_X12_nextLater_0 : Nat → MM → Option (Int × MM)
  | 0, _ => none
  | n + 1, m => lx (m 68 125) fun x_4 =>
lx (m 68 88) fun x_12 =>
gd (0 ≤ x_12 ∧ x_12 < 30) <| lx (m 86 x_12) fun x_18 =>
if x_4 < x_18 then
bp (fm_X12_kindAt x_12 x_4 m) fun x_31 =>
bp (fm_X12_isIn x_31 8 16 m) fun x_44 =>
if x_44 = 0 then
up m 68 125 (w32 (x_4 + 1)) fun m_63 =>
fl_X12_nextLater_0 n m_63
else
some (x_4, m)
else
some (x_4, m)
set_option maxHeartbeats 4000000 in
theorem ol_X12_nextLater_0 {xs : List Int32} {d : Nat} {Q : QO → QS → Prop} {mb : MM} {rz : Int} {rm : MM}
  (hd : 2 ≤ d)
  (hQ : Ext mb rm → ∀ o S1, Rp S1 rm → q_out 0 o rz → Q o S1) :
  ∀ (n : Nat) {m : MM} {S : QS} {L : QL} {v0 : Value} , Ext mb m → fl_X12_nextLater_0 n m = some (rz, rm) → Rp S m → q_lo L 0 = some v0 → q_is 2 v0 68 → Go xs d qM_X12_nextLater 0 L [] S Q := by
  intro n
  induction n with
  | zero => intro m S L v0; intro E h R l0 f0; cases h
  | succ n ih0 =>
    intro m S L v0; intro E h R l0 f0
    have ih : ∀ mq : MM, Ext mb mq → ∀ {Sq : QS} {Lq : QL} {u0 : Value}, fl_X12_nextLater_0 n mq = some (rz, rm) → Rp Sq mq → q_lo Lq 0 = some u0 → q_is 2 u0 68 → Go xs d qM_X12_nextLater 0 Lq [] Sq Q := fun mq b => by intros; exact ih0 b ‹_› ‹_› ‹_› ‹_›
    unfold fl_X12_nextLater_0 at h
    refine go_aload_n (n := 0) (by decide +kernel) l0 f0 ?_
    obtain ⟨x_4, e_5, h⟩ := lx_s h
    refine go_getf (x := 390) (ci := 13) (kf := 125) (fin := 0) (t := 0) (by decide +kernel) (by decide +kernel) (by decide +kernel) R f0 (fx_k (c := 13) R (by decide +kernel)) fun v_1 f_2 => ?_
    have f_3 := q_is_eq f_2 e_5
    refine go_aload_n (n := 0) (by decide +kernel) l0 f0 ?_
    refine go_getf (x := 61) (ci := 13) (kf := 19) (fin := 1) (t := 2) (by decide +kernel) (by decide +kernel) (by decide +kernel) R f0 (fx_k (c := 13) R (by decide +kernel)) fun v_6 f_7 => ?_
    have f_8 := q_is_eq (b := 86) f_7 (fx_v R (by decide +kernel)).symm
    refine go_aload_n (n := 0) (by decide +kernel) l0 f0 ?_
    obtain ⟨x_12, e_13, h⟩ := lx_s h
    refine go_getf (x := 387) (ci := 13) (kf := 88) (fin := 0) (t := 0) (by decide +kernel) (by decide +kernel) (by decide +kernel) R f0 (fx_k (c := 13) R (by decide +kernel)) fun v_9 f_10 => ?_
    have f_11 := q_is_eq f_10 e_13
    obtain ⟨g_16, h⟩ := gd_s h
    obtain ⟨x_18, e_19, h⟩ := lx_s h
    refine go_iald (kd := 100) (by decide +kernel) rfl R f_8 f_11 (fx_k (c := 100) R (by decide +kernel)) (fx_x (a := 86) (ln := 30) R (by decide +kernel) g_16) fun v_14 f_15 => ?_
    have f_17 := q_is_eq f_15 e_19
    refine go_icmp (c := .ge) (o := 38) (t := 51) (P := ¬ (x_4 < x_18)) (by decide +kernel) (by decide +kernel) f_3 f_17 (Int.not_lt.symm) (fun hp_20 => ?_) (fun hp_20 => ?_)
    · have h := it_f hp_20 h
      refine go_aload_n (n := 0) (by decide +kernel) l0 f0 ?_
      refine go_getf (x := 390) (ci := 13) (kf := 125) (fin := 0) (t := 0) (by decide +kernel) (by decide +kernel) (by decide +kernel) R f0 (fx_k (c := 13) R (by decide +kernel)) fun v_21 f_22 => ?_
      have f_23 := q_is_eq f_22 e_5
      cases h
      exact go_iret (by decide +kernel) rfl (Or.inl rfl) f_23 (hQ E _ _ R (q_out_v (by decide) f_23))
    · have h := it_n hp_20 h
      refine go_aload_n (n := 0) (by decide +kernel) l0 f0 ?_
      refine go_aload_n (n := 0) (by decide +kernel) l0 f0 ?_
      refine go_getf (x := 387) (ci := 13) (kf := 88) (fin := 0) (t := 0) (by decide +kernel) (by decide +kernel) (by decide +kernel) R f0 (fx_k (c := 13) R (by decide +kernel)) fun v_24 f_25 => ?_
      have f_26 := q_is_eq f_25 e_13
      refine go_aload_n (n := 0) (by decide +kernel) l0 f0 ?_
      refine go_getf (x := 390) (ci := 13) (kf := 125) (fin := 0) (t := 0) (by decide +kernel) (by decide +kernel) (by decide +kernel) R f0 (fx_k (c := 13) R (by decide +kernel)) fun v_27 f_28 => ?_
      have f_29 := q_is_eq f_28 e_5
      obtain ⟨x_31, hc_30, h⟩ := bp_s h
      refine go_callV (x := 341) (mi := 204) (n := 2) (ci := 13) (as := [v_24, v_27]) (rest := []) (by decide +kernel) (by decide +kernel) rfl rfl (q_sum8 _ (Nat.le_of_ble_eq_true rfl)) R f0 (fx_k (c := 13) R (by decide +kernel)) (om_X12_kindAt (Nat.le_trans (by decide) hd) R f0 f_26 f_29 hc_30) (fun _ S_35 q_38 => ?_) (fun _ _ qq => kr_x qq)
      refine kr_z (by decide) q_38 fun v_33 f_34 R_36 E_37 => ?_
      refine go_bipush (n := 8) (z := 8) (by decide +kernel) (by decide) fun v_39 f_40 => ?_
      refine go_bipush (n := 16) (z := 16) (by decide +kernel) (by decide) fun v_41 f_42 => ?_
      obtain ⟨x_44, hc_43, h⟩ := bp_s h
      refine go_callS (x := 306) (mi := 188) (n := 3) (b := 0) (as := [v_33, v_39, v_41]) (rest := []) (by decide +kernel) (by decide +kernel) rfl rfl (q_sum8 _ (Nat.le_of_ble_eq_true rfl)) (om_X12_isIn (Nat.le_trans (by decide) hd) R_36 f_34 f_40 f_42 hc_43) (fun _ S_48 q_51 => ?_) (fun _ _ qq => kr_x qq)
      refine kr_z (by decide) q_51 fun v_46 f_47 R_49 E_50 => ?_
      refine go_if (c := .ne) (o := 16) (t := 51) (P := ¬ (x_44 = 0)) (by decide +kernel) (by decide +kernel) f_47 (Iff.rfl) (fun hp_52 => ?_) (fun hp_52 => ?_)
      · have h := it_f hp_52 h
        refine go_aload_n (n := 0) (by decide +kernel) l0 f0 ?_
        refine go_getf (x := 390) (ci := 13) (kf := 125) (fin := 0) (t := 0) (by decide +kernel) (by decide +kernel) (by decide +kernel) R_49 f0 (fx_k (c := 13) R_49 (by decide +kernel)) fun v_53 f_54 => ?_
        have f_55 := q_is_eq f_54 e_5
        cases h
        exact go_iret (by decide +kernel) rfl (Or.inl rfl) f_55 (hQ E _ _ R_49 (q_out_v (by decide) f_55))
      · have h := it_n hp_52 h
        refine go_aload_n (n := 0) (by decide +kernel) l0 f0 ?_
        refine go_dup (by decide +kernel) f0 (Or.inr rfl) ?_
        refine go_getf (x := 390) (ci := 13) (kf := 125) (fin := 0) (t := 0) (by decide +kernel) (by decide +kernel) (by decide +kernel) R_49 f0 (fx_k (c := 13) R_49 (by decide +kernel)) fun v_56 f_57 => ?_
        have f_58 := q_is_eq f_57 e_5
        refine go_iconst (n := 1) (z := 1) (by decide +kernel) (by decide) fun v_59 f_60 => ?_
        refine go_iadd (by decide +kernel) f_58 f_60 fun v_61 f_62 => ?_
        obtain ⟨m_63, e_64, h⟩ := up_s h
        refine go_putf (x := 390) (ci := 13) (kf := 125) (fin := 0) (zt := 0) (by decide +kernel) (by decide +kernel) (by decide) (by decide +kernel) (by decide) (Or.inl rfl) R_49 f0 f_62 (fun hq => absurd hq (by decide)) (fx_k (c := 13) R_49 (by decide +kernel)) e_64 (fx_f (j := 125) R_49.2 (fx_k (c := 13) R_49 (by decide +kernel)) (by decide +kernel)) fun S_65 R_66 E_67 => ?_
        have E_68 := Ext.tr E E_67
        refine go_goto (o := (-48)) (t := 0) (by decide +kernel) (by decide +kernel) ?_
        exact ih m_63 E_68 h R_66 l0 f0
noncomputable def fm_X12_nextLater (m0 : MM) : Option (Int × MM) := fl_X12_nextLater_0   BIG m0
set_option maxHeartbeats 4000000 in
theorem om_X12_nextLater {xs : List Int32} {d : Nat} {S : QS} {m0 : MM} {v0 : Value} {rz : Int} {rm : MM}
  (hd : 3 ≤ d) (R : Rp S m0) (f0 : q_is 2 v0 68)
  (h : fm_X12_nextLater m0 = some (rz, rm)) : Mt xs d 220 [v0] S (Cr 0 m0 rm rz) := by
  obtain ⟨d, rfl⟩ : ∃ e, d = e + 1 := ⟨d - 1, by omega⟩
  have hd : 2 ≤ d := Nat.le_of_succ_le_succ hd
  refine Mt.of (M := qM_X12_nextLater) rfl (by rw [sl_1 (q_is_cat f0 (Or.inr rfl)), sl_0]; decide) ?_
  rw [la_1 (q_is_cat f0 (Or.inr rfl)), la_0]
  obtain ⟨L, hL⟩ : ∃ L : QL, L = [(0, v0)] := ⟨_, rfl⟩
  rw [← hL]
  have l0 : q_lo L 0 = some v0 := by rw [hL]; rfl
  have hQ : Ext m0 rm → ∀ o S1, Rp S1 rm → q_out 0 o rz → (Cr 0 m0 rm rz) o S1 := fun a o S1 b e => ⟨b, a, e⟩
  unfold fm_X12_nextLater at h
  refine ol_X12_nextLater_0 hd   hQ BIG (Ext.rf _) h R l0 f0
noncomputable def fl_X12_firstTask_2 (m0 : MM) : Nat → Int → Option Int
  | 0, _ => none
  | n + 1, y1 => lx (m0 68 88) fun x_10 =>
bp (fm_X12_kindAt x_10 y1 m0) fun x_13 =>
if x_13 = 17 then
bp (fm_X12_xAt x_10 y1 m0) fun x_37 =>
lx (m0 68 117) fun x_48 =>
if x_37 < x_48 then
lx (w32 (y1 + 1)) fun x_56 =>
fl_X12_firstTask_2 m0 n x_56
else
some y1
else
lx (w32 (y1 + 1)) fun x_29 =>
fl_X12_firstTask_2 m0 n x_29
set_option maxHeartbeats 4000000 in
theorem ol_X12_firstTask_2 {xs : List Int32} {d : Nat} {Q : QO → QS → Prop} {m0 : MM} {rz : Int}
  (hd : 2 ≤ d)
  (hQ : ∀ o S1, Rp S1 m0 → q_out 0 o rz → Q o S1) :
  ∀ (n : Nat) {S : QS} {L : QL} {y1 : Int} {v0 : Value} {v1 : Value} , fl_X12_firstTask_2 m0 n y1 = some rz → Rp S m0 → q_lo L 0 = some v0 → q_is 2 v0 68 → q_lo L 1 = some v1 → q_is 0 v1 y1 → Go xs d qM_X12_firstTask 2 L [] S Q := by
  intro n
  induction n with
  | zero => intro S L y1 v0 v1; intro h R l0 f0 l1 f1; cases h
  | succ n ih0 =>
    intro S L y1 v0 v1; intro h R l0 f0 l1 f1
    have ih : ∀ {z1 : Int} {Sq : QS} {Lq : QL} {u0 : Value} {u1 : Value}, fl_X12_firstTask_2 m0 n z1 = some rz → Rp Sq m0 → q_lo Lq 0 = some u0 → q_is 2 u0 68 → q_lo Lq 1 = some u1 → q_is 0 u1 z1 → Go xs d qM_X12_firstTask 2 Lq [] Sq Q := by intros; exact ih0 ‹_› ‹_› ‹_› ‹_› ‹_› ‹_›
    unfold fl_X12_firstTask_2 at h
    refine go_aload_n (n := 0) (by decide +kernel) l0 f0 ?_
    refine go_aload_n (n := 0) (by decide +kernel) l0 f0 ?_
    obtain ⟨x_10, e_11, h⟩ := lx_s h
    refine go_getf (x := 387) (ci := 13) (kf := 88) (fin := 0) (t := 0) (by decide +kernel) (by decide +kernel) (by decide +kernel) R f0 (fx_k (c := 13) R (by decide +kernel)) fun v_7 f_8 => ?_
    have f_9 := q_is_eq f_8 e_11
    refine go_iload_n (n := 1) (by decide +kernel) l1 f1 ?_
    obtain ⟨x_13, hc_12, h⟩ := bp_s h
    refine go_callV (x := 341) (mi := 204) (n := 2) (ci := 13) (as := [v_7, v1]) (rest := []) (by decide +kernel) (by decide +kernel) rfl rfl (q_sum8 _ (Nat.le_of_ble_eq_true rfl)) R f0 (fx_k (c := 13) R (by decide +kernel)) (om_X12_kindAt (Nat.le_trans (by decide) hd) R f0 f_9 f1 hc_12) (fun _ S_17 q_20 => ?_) (fun _ _ qq => kr_x qq)
    refine kr_z (by decide) q_20 fun v_15 f_16 R_18 E_19 => ?_
    refine go_bipush (n := 17) (z := 17) (by decide +kernel) (by decide) fun v_21 f_22 => ?_
    refine go_icmp (c := .ne) (o := 19) (t := 32) (P := ¬ (x_13 = 17)) (by decide +kernel) (by decide +kernel) f_16 f_22 (Iff.rfl) (fun hp_23 => ?_) (fun hp_23 => ?_)
    · have h := it_f hp_23 h
      refine go_iinc (n := 1) (c := 1) (c' := 1) (by decide +kernel) (by decide +kernel) l1 f1 (by decide) fun L_24 v_25 f_26 l_27 kp_28 => ?_
      obtain ⟨x_29, e_30, h⟩ := lx_s h
      have f_31 := q_is_eq f_26 e_30
      have l_32 := kp_28 0 _ l0 (by decide) (Or.inr (q_is_cat f0 (Or.inr rfl)))
      refine go_goto (o := (-33)) (t := 2) (by decide +kernel) (by decide +kernel) ?_
      exact ih h R_18 l_32 f0 l_27 f_31
    · have h := it_n hp_23 h
      refine go_aload_n (n := 0) (by decide +kernel) l0 f0 ?_
      refine go_aload_n (n := 0) (by decide +kernel) l0 f0 ?_
      refine go_getf (x := 387) (ci := 13) (kf := 88) (fin := 0) (t := 0) (by decide +kernel) (by decide +kernel) (by decide +kernel) R_18 f0 (fx_k (c := 13) R_18 (by decide +kernel)) fun v_33 f_34 => ?_
      have f_35 := q_is_eq f_34 e_11
      refine go_iload_n (n := 1) (by decide +kernel) l1 f1 ?_
      obtain ⟨x_37, hc_36, h⟩ := bp_s h
      refine go_callV (x := 344) (mi := 206) (n := 2) (ci := 13) (as := [v_33, v1]) (rest := []) (by decide +kernel) (by decide +kernel) rfl rfl (q_sum8 _ (Nat.le_of_ble_eq_true rfl)) R_18 f0 (fx_k (c := 13) R_18 (by decide +kernel)) (om_X12_xAt (Nat.le_trans (by decide) hd) R_18 f0 f_35 f1 hc_36) (fun _ S_41 q_44 => ?_) (fun _ _ qq => kr_x qq)
      refine kr_z (by decide) q_44 fun v_39 f_40 R_42 E_43 => ?_
      refine go_aload_n (n := 0) (by decide +kernel) l0 f0 ?_
      obtain ⟨x_48, e_49, h⟩ := lx_s h
      refine go_getf (x := 404) (ci := 13) (kf := 117) (fin := 0) (t := 0) (by decide +kernel) (by decide +kernel) (by decide +kernel) R_42 f0 (fx_k (c := 13) R_42 (by decide +kernel)) fun v_45 f_46 => ?_
      have f_47 := q_is_eq f_46 e_49
      refine go_icmp (c := .ge) (o := 9) (t := 38) (P := ¬ (x_37 < x_48)) (by decide +kernel) (by decide +kernel) f_40 f_47 (Int.not_lt.symm) (fun hp_50 => ?_) (fun hp_50 => ?_)
      · have h := it_f hp_50 h
        refine go_iload_n (n := 1) (by decide +kernel) l1 f1 ?_
        cases h
        exact go_iret (by decide +kernel) rfl (Or.inl rfl) f1 (hQ _ _ R_42 (q_out_v (by decide) f1))
      · have h := it_n hp_50 h
        refine go_iinc (n := 1) (c := 1) (c' := 1) (by decide +kernel) (by decide +kernel) l1 f1 (by decide) fun L_51 v_52 f_53 l_54 kp_55 => ?_
        obtain ⟨x_56, e_57, h⟩ := lx_s h
        have f_58 := q_is_eq f_53 e_57
        have l_59 := kp_55 0 _ l0 (by decide) (Or.inr (q_is_cat f0 (Or.inr rfl)))
        refine go_goto (o := (-33)) (t := 2) (by decide +kernel) (by decide +kernel) ?_
        exact ih h R_42 l_59 f0 l_54 f_58
noncomputable def fm_X12_firstTask (m0 : MM) : Option Int := fl_X12_firstTask_2 m0  BIG 0
set_option maxHeartbeats 4000000 in
theorem om_X12_firstTask {xs : List Int32} {d : Nat} {S : QS} {m0 : MM} {v0 : Value} {rz : Int}
  (hd : 3 ≤ d) (R : Rp S m0) (f0 : q_is 2 v0 68)
  (h : fm_X12_firstTask m0 = some rz) : Mt xs d 222 [v0] S (Cr 0 m0 m0 rz) := by
  obtain ⟨d, rfl⟩ : ∃ e, d = e + 1 := ⟨d - 1, by omega⟩
  have hd : 2 ≤ d := Nat.le_of_succ_le_succ hd
  refine Mt.of (M := qM_X12_firstTask) rfl (by rw [sl_1 (q_is_cat f0 (Or.inr rfl)), sl_0]; decide) ?_
  rw [la_1 (q_is_cat f0 (Or.inr rfl)), la_0]
  obtain ⟨L, hL⟩ : ∃ L : QL, L = [(0, v0)] := ⟨_, rfl⟩
  rw [← hL]
  have l0 : q_lo L 0 = some v0 := by rw [hL]; rfl
  have hQ : ∀ o S1, Rp S1 m0 → q_out 0 o rz → (Cr 0 m0 m0 rz) o S1 := fun o S1 a b => ⟨a, Ext.rf _, b⟩
  unfold fm_X12_firstTask at h
  refine go_iconst (n := 0) (z := 0) (by decide +kernel) (by decide) fun v_1 f_2 => ?_
  refine go_istore_n (n := 1) (by decide +kernel) (by decide +kernel) f_2 fun L_3 l_4 kp_5 => ?_
  have l_6 := kp_5 0 _ l0 (by decide) (Or.inr (q_is_cat f0 (Or.inr rfl)))
  refine ol_X12_firstTask_2 hd   hQ BIG h R l_6 f0 l_4 f_2
noncomputable def fj_X12_commands_63 (y4 : Int) (m : MM) : Option (Int × MM) := up m 68 116 (w32 (y4 + 1)) fun m_210 =>
some (y4, m_210)
set_option maxHeartbeats 4000000 in
theorem oj_X12_commands_63 {xs : List Int32} {d : Nat} {S : QS} {L : QL} {Q : QO → QS → Prop} {m : MM} {y4 : Int} {v0 : Value} {v4 : Value}  {rz : Int} {rm : MM}
  (hd : 3 ≤ d) (R : Rp S m) (l0 : q_lo L 0 = some v0) (f0 : q_is 2 v0 68) (l4 : q_lo L 4 = some v4) (f4 : q_is 0 v4 y4)
  (hQ : Ext m rm → ∀ o S1, Rp S1 rm → q_out 0 o rz → Q o S1)
  (h : fj_X12_commands_63 y4 m = some (rz, rm)) : Go xs d qM_X12_commands 63 L [] S Q := by
  unfold fj_X12_commands_63 at h
  refine go_aload_n (n := 0) (by decide +kernel) l0 f0 ?_
  refine go_iload (n := 4) (by decide +kernel) l4 f4 ?_
  refine go_iconst (n := 1) (z := 1) (by decide +kernel) (by decide) fun v_206 f_207 => ?_
  refine go_iadd (by decide +kernel) f4 f_207 fun v_208 f_209 => ?_
  obtain ⟨m_210, e_211, h⟩ := up_s h
  refine go_putf (x := 381) (ci := 13) (kf := 116) (fin := 0) (zt := 0) (by decide +kernel) (by decide +kernel) (by decide) (by decide +kernel) (by decide) (Or.inl rfl) R f0 f_209 (fun hq => absurd hq (by decide)) (fx_k (c := 13) R (by decide +kernel)) e_211 (fx_f (j := 116) R.2 (fx_k (c := 13) R (by decide +kernel)) (by decide +kernel)) fun S_212 R_213 E_214 => ?_
  have E_215 := E_214
  refine go_iload (n := 4) (by decide +kernel) l4 f4 ?_
  cases h
  exact go_iret (by decide +kernel) rfl (Or.inl rfl) f4 (hQ E_215 _ _ R_213 (q_out_v (by decide) f4))
noncomputable def fj_X12_commands_57 (y4 : Int) (m : MM) : Option (Int × MM) := bd (fm_X12_differs y4 m) fun x_197 m_198 =>
fj_X12_commands_63 y4 m_198
set_option maxHeartbeats 4000000 in
theorem oj_X12_commands_57 {xs : List Int32} {d : Nat} {S : QS} {L : QL} {Q : QO → QS → Prop} {m : MM} {y4 : Int} {v0 : Value} {v4 : Value}  {rz : Int} {rm : MM}
  (hd : 3 ≤ d) (R : Rp S m) (l0 : q_lo L 0 = some v0) (f0 : q_is 2 v0 68) (l4 : q_lo L 4 = some v4) (f4 : q_is 0 v4 y4)
  (hQ : Ext m rm → ∀ o S1, Rp S1 rm → q_out 0 o rz → Q o S1)
  (h : fj_X12_commands_57 y4 m = some (rz, rm)) : Go xs d qM_X12_commands 57 L [] S Q := by
  unfold fj_X12_commands_57 at h
  refine go_aload_n (n := 0) (by decide +kernel) l0 f0 ?_
  refine go_iload (n := 4) (by decide +kernel) l4 f4 ?_
  obtain ⟨x_197, m_198, hc_196, h⟩ := bd_s h
  refine go_callV (x := 400) (mi := 218) (n := 1) (ci := 13) (as := [v4]) (rest := []) (by decide +kernel) (by decide +kernel) rfl rfl (q_sum8 _ (Nat.le_of_ble_eq_true rfl)) R f0 (fx_k (c := 13) R (by decide +kernel)) (om_X12_differs (Nat.le_trans (by decide) hd) R f0 f4 hc_196) (fun _ S_201 q_204 => ?_) (fun _ _ qq => kr_x qq)
  refine kr_v q_204 fun R_202 E_203 => ?_
  have E_205 := E_203
  exact oj_X12_commands_63 hd R_202 l0 f0 l4 f4 (fun b => hQ (Ext.tr E_205 b)) h
noncomputable def fm_X12_commands (p1 p2 p3 : Int) (m0 : MM) : Option (Int × MM) := bd (fm_X12_nextCommand m0) fun x_2 m_3 =>
lx (m_3 68 124) fun x_21 =>
if x_2 < x_21 then
lx (m_3 68 88) fun x_184 =>
bp (fm_X12_kindAt x_184 x_2 m_3) fun x_187 =>
if x_187 = p1 then
bp (fm_X12_xAt x_184 x_2 m_3) fun x_220 =>
if x_220 = p2 then
bp (fm_X12_yAt x_184 x_2 m_3) fun x_233 =>
if x_233 = p3 then
fj_X12_commands_63 x_2 m_3
else
fj_X12_commands_57 x_2 m_3
else
fj_X12_commands_57 x_2 m_3
else
fj_X12_commands_57 x_2 m_3
else
lx (m_3 68 117) fun x_27 =>
lx (m_3 68 119) fun x_32 =>
if x_32 < x_27 then
bd (fm_X12_nextLater m_3) fun x_36 m_37 =>
lx (m_37 68 88) fun x_51 =>
gd (0 ≤ x_51 ∧ x_51 < 30) <| lx (m_37 86 x_51) fun x_57 =>
if x_36 < x_57 then
lx (m_37 68 125) fun x_139 =>
up m_37 68 125 (w32 (x_139 + 1)) fun m_145 =>
lx (m_145 68 125) fun x_154 =>
some (w32 (x_154 - 1), m_145)
else
lx (m_37 68 120) fun x_66 =>
gd (0 ≤ x_66 ∧ x_66 < 65536) <| up m_37 158 x_66 (w32 ((w32 (1000 * p1)) + p3)) fun m_75 =>
lx (m_75 68 120) fun x_87 =>
gd (0 ≤ x_87 ∧ x_87 < 65536) <| up m_75 159 x_87 p2 fun m_90 =>
lx (m_90 68 120) fun x_99 =>
up m_90 68 120 (w32 (x_99 + 1)) fun m_105 =>
lx (m_105 68 88) fun x_117 =>
gd (0 ≤ x_117 ∧ x_117 < 30) <| lx (m_105 86 x_117) fun x_123 =>
lx (m_105 68 120) fun x_128 =>
some (w32 ((w32 (x_123 + x_128)) - 1), m_105)
else
bp (fm_X12_firstTask m_3) fun x_161 =>
bd (fm_X12_differs x_161 m_3) fun x_170 m_171 =>
some ((-1), m_171)
set_option maxHeartbeats 4000000 in
theorem om_X12_commands {xs : List Int32} {d : Nat} {S : QS} {m0 : MM} {p1 p2 p3 : Int} {v0 : Value} {v1 : Value} {v2 : Value} {v3 : Value} {rz : Int} {rm : MM}
  (hd : 4 ≤ d) (R : Rp S m0) (f0 : q_is 2 v0 68) (f1 : q_is 0 v1 p1) (f2 : q_is 0 v2 p2) (f3 : q_is 0 v3 p3)
  (h : fm_X12_commands p1 p2 p3 m0 = some (rz, rm)) : Mt xs d 221 [v0, v1, v2, v3] S (Cr 0 m0 rm rz) := by
  obtain ⟨d, rfl⟩ : ∃ e, d = e + 1 := ⟨d - 1, by omega⟩
  have hd : 3 ≤ d := Nat.le_of_succ_le_succ hd
  refine Mt.of (M := qM_X12_commands) rfl (by rw [sl_1 (q_is_cat f0 (Or.inr rfl)), sl_1 (q_is_cat f1 (Or.inl rfl)), sl_1 (q_is_cat f2 (Or.inl rfl)), sl_1 (q_is_cat f3 (Or.inl rfl)), sl_0]; decide) ?_
  rw [la_1 (q_is_cat f0 (Or.inr rfl)), la_1 (q_is_cat f1 (Or.inl rfl)), la_1 (q_is_cat f2 (Or.inl rfl)), la_1 (q_is_cat f3 (Or.inl rfl)), la_0]
  obtain ⟨L, hL⟩ : ∃ L : QL, L = [(0, v0), (0 + 1, v1), (0 + 1 + 1, v2), (0 + 1 + 1 + 1, v3)] := ⟨_, rfl⟩
  rw [← hL]
  have l0 : q_lo L 0 = some v0 := by rw [hL]; rfl
  have l1 : q_lo L 1 = some v1 := by rw [hL]; rfl
  have l2 : q_lo L 2 = some v2 := by rw [hL]; rfl
  have l3 : q_lo L 3 = some v3 := by rw [hL]; rfl
  have hQ : Ext m0 rm → ∀ o S1, Rp S1 rm → q_out 0 o rz → (Cr 0 m0 rm rz) o S1 := fun a o S1 b e => ⟨b, a, e⟩
  unfold fm_X12_commands at h
  refine go_aload_n (n := 0) (by decide +kernel) l0 f0 ?_
  obtain ⟨x_2, m_3, hc_1, h⟩ := bd_s h
  refine go_callV (x := 393) (mi := 219) (n := 0) (ci := 13) (as := []) (rest := []) (by decide +kernel) (by decide +kernel) rfl rfl (q_sum8 _ (Nat.le_of_ble_eq_true rfl)) R f0 (fx_k (c := 13) R (by decide +kernel)) (om_X12_nextCommand (Nat.le_trans (by decide) hd) R f0 hc_1) (fun _ S_6 q_9 => ?_) (fun _ _ qq => kr_x qq)
  refine kr_z (by decide) q_9 fun v_4 f_5 R_7 E_8 => ?_
  have E_10 := E_8
  refine go_istore (n := 4) (by decide +kernel) (by decide +kernel) f_5 fun L_11 l_12 kp_13 => ?_
  have l_14 := kp_13 0 _ l0 (by decide) (Or.inl (by decide))
  have l_15 := kp_13 1 _ l1 (by decide) (Or.inl (by decide))
  have l_16 := kp_13 2 _ l2 (by decide) (Or.inl (by decide))
  have l_17 := kp_13 3 _ l3 (by decide) (Or.inr (q_is_cat f3 (Or.inl rfl)))
  refine go_iload (n := 4) (by decide +kernel) l_12 f_5 ?_
  refine go_aload_n (n := 0) (by decide +kernel) l_14 f0 ?_
  obtain ⟨x_21, e_22, h⟩ := lx_s h
  refine go_getf (x := 384) (ci := 13) (kf := 124) (fin := 0) (t := 0) (by decide +kernel) (by decide +kernel) (by decide +kernel) R_7 f0 (fx_k (c := 13) R_7 (by decide +kernel)) fun v_18 f_19 => ?_
  have f_20 := q_is_eq f_19 e_22
  refine go_icmp (c := .ge) (o := 62) (t := 74) (P := ¬ (x_2 < x_21)) (by decide +kernel) (by decide +kernel) f_5 f_20 (Int.not_lt.symm) (fun hp_23 => ?_) (fun hp_23 => ?_)
  · have h := it_f hp_23 h
    refine go_aload_n (n := 0) (by decide +kernel) l_14 f0 ?_
    obtain ⟨x_27, e_28, h⟩ := lx_s h
    refine go_getf (x := 404) (ci := 13) (kf := 117) (fin := 0) (t := 0) (by decide +kernel) (by decide +kernel) (by decide +kernel) R_7 f0 (fx_k (c := 13) R_7 (by decide +kernel)) fun v_24 f_25 => ?_
    have f_26 := q_is_eq f_25 e_28
    refine go_aload_n (n := 0) (by decide +kernel) l_14 f0 ?_
    obtain ⟨x_32, e_33, h⟩ := lx_s h
    refine go_getf (x := 407) (ci := 13) (kf := 119) (fin := 0) (t := 0) (by decide +kernel) (by decide +kernel) (by decide +kernel) R_7 f0 (fx_k (c := 13) R_7 (by decide +kernel)) fun v_29 f_30 => ?_
    have f_31 := q_is_eq f_30 e_33
    refine go_icmp (c := .gt) (o := 13) (t := 95) (P := x_32 < x_27) (by decide +kernel) (by decide +kernel) f_26 f_31 (Iff.rfl) (fun hp_34 => ?_) (fun hp_34 => ?_)
    · have h := it_t hp_34 h
      refine go_aload_n (n := 0) (by decide +kernel) l_14 f0 ?_
      obtain ⟨x_36, m_37, hc_35, h⟩ := bd_s h
      refine go_callV (x := 413) (mi := 220) (n := 0) (ci := 13) (as := []) (rest := []) (by decide +kernel) (by decide +kernel) rfl rfl (q_sum8 _ (Nat.le_of_ble_eq_true rfl)) R_7 f0 (fx_k (c := 13) R_7 (by decide +kernel)) (om_X12_nextLater (Nat.le_trans (by decide) hd) R_7 f0 hc_35) (fun _ S_40 q_43 => ?_) (fun _ _ qq => kr_x qq)
      refine kr_z (by decide) q_43 fun v_38 f_39 R_41 E_42 => ?_
      have E_44 := Ext.tr E_10 E_42
      refine go_aload_n (n := 0) (by decide +kernel) l_14 f0 ?_
      refine go_getf (x := 61) (ci := 13) (kf := 19) (fin := 1) (t := 2) (by decide +kernel) (by decide +kernel) (by decide +kernel) R_41 f0 (fx_k (c := 13) R_41 (by decide +kernel)) fun v_45 f_46 => ?_
      have f_47 := q_is_eq (b := 86) f_46 (fx_v R_41 (by decide +kernel)).symm
      refine go_aload_n (n := 0) (by decide +kernel) l_14 f0 ?_
      obtain ⟨x_51, e_52, h⟩ := lx_s h
      refine go_getf (x := 387) (ci := 13) (kf := 88) (fin := 0) (t := 0) (by decide +kernel) (by decide +kernel) (by decide +kernel) R_41 f0 (fx_k (c := 13) R_41 (by decide +kernel)) fun v_48 f_49 => ?_
      have f_50 := q_is_eq f_49 e_52
      obtain ⟨g_55, h⟩ := gd_s h
      obtain ⟨x_57, e_58, h⟩ := lx_s h
      refine go_iald (kd := 100) (by decide +kernel) rfl R_41 f_47 f_50 (fx_k (c := 100) R_41 (by decide +kernel)) (fx_x (a := 86) (ln := 30) R_41 (by decide +kernel) g_55) fun v_53 f_54 => ?_
      have f_56 := q_is_eq f_54 e_58
      refine go_icmp (c := .ge) (o := 20) (t := 128) (P := ¬ (x_36 < x_57)) (by decide +kernel) (by decide +kernel) f_39 f_56 (Int.not_lt.symm) (fun hp_59 => ?_) (fun hp_59 => ?_)
      · have h := it_f hp_59 h
        refine go_aload_n (n := 0) (by decide +kernel) l_14 f0 ?_
        refine go_getf (x := 291) (ci := 13) (kf := 121) (fin := 1) (t := 2) (by decide +kernel) (by decide +kernel) (by decide +kernel) R_41 f0 (fx_k (c := 13) R_41 (by decide +kernel)) fun v_60 f_61 => ?_
        have f_62 := q_is_eq (b := 158) f_61 (fx_v R_41 (by decide +kernel)).symm
        refine go_aload_n (n := 0) (by decide +kernel) l_14 f0 ?_
        obtain ⟨x_66, e_67, h⟩ := lx_s h
        refine go_getf (x := 416) (ci := 13) (kf := 120) (fin := 0) (t := 0) (by decide +kernel) (by decide +kernel) (by decide +kernel) R_41 f0 (fx_k (c := 13) R_41 (by decide +kernel)) fun v_63 f_64 => ?_
        have f_65 := q_is_eq f_64 e_67
        refine go_sipush (n := 1000) (z := 1000) (by decide +kernel) (by decide) fun v_68 f_69 => ?_
        refine go_iload_n (n := 1) (by decide +kernel) l_15 f1 ?_
        refine go_imul (by decide +kernel) f_69 f1 fun v_70 f_71 => ?_
        refine go_iload_n (n := 3) (by decide +kernel) l_17 f3 ?_
        refine go_iadd (by decide +kernel) f_71 f3 fun v_72 f_73 => ?_
        obtain ⟨g_74, h⟩ := gd_s h
        obtain ⟨m_75, e_76, h⟩ := up_s h
        refine go_iast (kd := 100) (by decide +kernel) rfl R_41 f_62 f_65 f_73 (fx_k (c := 100) R_41 (by decide +kernel)) (fx_x (a := 158) (ln := 65536) R_41 (by decide +kernel) g_74) e_76 (fx_a R_41.2 (fx_k (c := 100) R_41 (by decide +kernel)) (And.left (fx_x (a := 158) (ln := 65536) R_41 (by decide +kernel) g_74)) (by decide +kernel)) fun S_77 R_78 E_79 => ?_
        have E_80 := Ext.tr E_44 E_79
        refine go_aload_n (n := 0) (by decide +kernel) l_14 f0 ?_
        refine go_getf (x := 294) (ci := 13) (kf := 122) (fin := 1) (t := 2) (by decide +kernel) (by decide +kernel) (by decide +kernel) R_78 f0 (fx_k (c := 13) R_78 (by decide +kernel)) fun v_81 f_82 => ?_
        have f_83 := q_is_eq (b := 159) f_82 (fx_v R_78 (by decide +kernel)).symm
        refine go_aload_n (n := 0) (by decide +kernel) l_14 f0 ?_
        obtain ⟨x_87, e_88, h⟩ := lx_s h
        refine go_getf (x := 416) (ci := 13) (kf := 120) (fin := 0) (t := 0) (by decide +kernel) (by decide +kernel) (by decide +kernel) R_78 f0 (fx_k (c := 13) R_78 (by decide +kernel)) fun v_84 f_85 => ?_
        have f_86 := q_is_eq f_85 e_88
        refine go_iload_n (n := 2) (by decide +kernel) l_16 f2 ?_
        obtain ⟨g_89, h⟩ := gd_s h
        obtain ⟨m_90, e_91, h⟩ := up_s h
        refine go_iast (kd := 100) (by decide +kernel) rfl R_78 f_83 f_86 f2 (fx_k (c := 100) R_78 (by decide +kernel)) (fx_x (a := 159) (ln := 65536) R_78 (by decide +kernel) g_89) e_91 (fx_a R_78.2 (fx_k (c := 100) R_78 (by decide +kernel)) (And.left (fx_x (a := 159) (ln := 65536) R_78 (by decide +kernel) g_89)) (by decide +kernel)) fun S_92 R_93 E_94 => ?_
        have E_95 := Ext.tr E_80 E_94
        refine go_aload_n (n := 0) (by decide +kernel) l_14 f0 ?_
        refine go_dup (by decide +kernel) f0 (Or.inr rfl) ?_
        obtain ⟨x_99, e_100, h⟩ := lx_s h
        refine go_getf (x := 416) (ci := 13) (kf := 120) (fin := 0) (t := 0) (by decide +kernel) (by decide +kernel) (by decide +kernel) R_93 f0 (fx_k (c := 13) R_93 (by decide +kernel)) fun v_96 f_97 => ?_
        have f_98 := q_is_eq f_97 e_100
        refine go_iconst (n := 1) (z := 1) (by decide +kernel) (by decide) fun v_101 f_102 => ?_
        refine go_iadd (by decide +kernel) f_98 f_102 fun v_103 f_104 => ?_
        obtain ⟨m_105, e_106, h⟩ := up_s h
        refine go_putf (x := 416) (ci := 13) (kf := 120) (fin := 0) (zt := 0) (by decide +kernel) (by decide +kernel) (by decide) (by decide +kernel) (by decide) (Or.inl rfl) R_93 f0 f_104 (fun hq => absurd hq (by decide)) (fx_k (c := 13) R_93 (by decide +kernel)) e_106 (fx_f (j := 120) R_93.2 (fx_k (c := 13) R_93 (by decide +kernel)) (by decide +kernel)) fun S_107 R_108 E_109 => ?_
        have E_110 := Ext.tr E_95 E_109
        refine go_aload_n (n := 0) (by decide +kernel) l_14 f0 ?_
        refine go_getf (x := 61) (ci := 13) (kf := 19) (fin := 1) (t := 2) (by decide +kernel) (by decide +kernel) (by decide +kernel) R_108 f0 (fx_k (c := 13) R_108 (by decide +kernel)) fun v_111 f_112 => ?_
        have f_113 := q_is_eq (b := 86) f_112 (fx_v R_108 (by decide +kernel)).symm
        refine go_aload_n (n := 0) (by decide +kernel) l_14 f0 ?_
        obtain ⟨x_117, e_118, h⟩ := lx_s h
        refine go_getf (x := 387) (ci := 13) (kf := 88) (fin := 0) (t := 0) (by decide +kernel) (by decide +kernel) (by decide +kernel) R_108 f0 (fx_k (c := 13) R_108 (by decide +kernel)) fun v_114 f_115 => ?_
        have f_116 := q_is_eq f_115 e_118
        obtain ⟨g_121, h⟩ := gd_s h
        obtain ⟨x_123, e_124, h⟩ := lx_s h
        refine go_iald (kd := 100) (by decide +kernel) rfl R_108 f_113 f_116 (fx_k (c := 100) R_108 (by decide +kernel)) (fx_x (a := 86) (ln := 30) R_108 (by decide +kernel) g_121) fun v_119 f_120 => ?_
        have f_122 := q_is_eq f_120 e_124
        refine go_aload_n (n := 0) (by decide +kernel) l_14 f0 ?_
        obtain ⟨x_128, e_129, h⟩ := lx_s h
        refine go_getf (x := 416) (ci := 13) (kf := 120) (fin := 0) (t := 0) (by decide +kernel) (by decide +kernel) (by decide +kernel) R_108 f0 (fx_k (c := 13) R_108 (by decide +kernel)) fun v_125 f_126 => ?_
        have f_127 := q_is_eq f_126 e_129
        refine go_iadd (by decide +kernel) f_122 f_127 fun v_130 f_131 => ?_
        refine go_iconst (n := 1) (z := 1) (by decide +kernel) (by decide) fun v_132 f_133 => ?_
        refine go_isub (by decide +kernel) f_131 f_133 fun v_134 f_135 => ?_
        cases h
        exact go_iret (by decide +kernel) rfl (Or.inl rfl) f_135 (hQ E_110 _ _ R_108 (q_out_v (by decide) f_135))
      · have h := it_n hp_59 h
        refine go_aload_n (n := 0) (by decide +kernel) l_14 f0 ?_
        refine go_dup (by decide +kernel) f0 (Or.inr rfl) ?_
        obtain ⟨x_139, e_140, h⟩ := lx_s h
        refine go_getf (x := 390) (ci := 13) (kf := 125) (fin := 0) (t := 0) (by decide +kernel) (by decide +kernel) (by decide +kernel) R_41 f0 (fx_k (c := 13) R_41 (by decide +kernel)) fun v_136 f_137 => ?_
        have f_138 := q_is_eq f_137 e_140
        refine go_iconst (n := 1) (z := 1) (by decide +kernel) (by decide) fun v_141 f_142 => ?_
        refine go_iadd (by decide +kernel) f_138 f_142 fun v_143 f_144 => ?_
        obtain ⟨m_145, e_146, h⟩ := up_s h
        refine go_putf (x := 390) (ci := 13) (kf := 125) (fin := 0) (zt := 0) (by decide +kernel) (by decide +kernel) (by decide) (by decide +kernel) (by decide) (Or.inl rfl) R_41 f0 f_144 (fun hq => absurd hq (by decide)) (fx_k (c := 13) R_41 (by decide +kernel)) e_146 (fx_f (j := 125) R_41.2 (fx_k (c := 13) R_41 (by decide +kernel)) (by decide +kernel)) fun S_147 R_148 E_149 => ?_
        have E_150 := Ext.tr E_44 E_149
        refine go_aload_n (n := 0) (by decide +kernel) l_14 f0 ?_
        obtain ⟨x_154, e_155, h⟩ := lx_s h
        refine go_getf (x := 390) (ci := 13) (kf := 125) (fin := 0) (t := 0) (by decide +kernel) (by decide +kernel) (by decide +kernel) R_148 f0 (fx_k (c := 13) R_148 (by decide +kernel)) fun v_151 f_152 => ?_
        have f_153 := q_is_eq f_152 e_155
        refine go_iconst (n := 1) (z := 1) (by decide +kernel) (by decide) fun v_156 f_157 => ?_
        refine go_isub (by decide +kernel) f_153 f_157 fun v_158 f_159 => ?_
        cases h
        exact go_iret (by decide +kernel) rfl (Or.inl rfl) f_159 (hQ E_150 _ _ R_148 (q_out_v (by decide) f_159))
    · have h := it_f hp_34 h
      refine go_aload_n (n := 0) (by decide +kernel) l_14 f0 ?_
      refine go_aload_n (n := 0) (by decide +kernel) l_14 f0 ?_
      obtain ⟨x_161, hc_160, h⟩ := bp_s h
      refine go_callV (x := 410) (mi := 222) (n := 0) (ci := 13) (as := []) (rest := [v0]) (by decide +kernel) (by decide +kernel) rfl rfl (q_sum8 _ (Nat.le_of_ble_eq_true rfl)) R_7 f0 (fx_k (c := 13) R_7 (by decide +kernel)) (om_X12_firstTask (Nat.le_trans (by decide) hd) R_7 f0 hc_160) (fun _ S_165 q_168 => ?_) (fun _ _ qq => kr_x qq)
      refine kr_z (by decide) q_168 fun v_163 f_164 R_166 E_167 => ?_
      obtain ⟨x_170, m_171, hc_169, h⟩ := bd_s h
      refine go_callV (x := 400) (mi := 218) (n := 1) (ci := 13) (as := [v_163]) (rest := []) (by decide +kernel) (by decide +kernel) rfl rfl (q_sum8 _ (Nat.le_of_ble_eq_true rfl)) R_166 f0 (fx_k (c := 13) R_166 (by decide +kernel)) (om_X12_differs (Nat.le_trans (by decide) hd) R_166 f0 f_164 hc_169) (fun _ S_174 q_177 => ?_) (fun _ _ qq => kr_x qq)
      refine kr_v q_177 fun R_175 E_176 => ?_
      have E_178 := Ext.tr E_10 E_176
      refine go_iconst (n := (-1)) (z := (-1)) (by decide +kernel) (by decide) fun v_179 f_180 => ?_
      cases h
      exact go_iret (by decide +kernel) rfl (Or.inl rfl) f_180 (hQ E_178 _ _ R_175 (q_out_v (by decide) f_180))
  · have h := it_n hp_23 h
    refine go_aload_n (n := 0) (by decide +kernel) l_14 f0 ?_
    refine go_aload_n (n := 0) (by decide +kernel) l_14 f0 ?_
    obtain ⟨x_184, e_185, h⟩ := lx_s h
    refine go_getf (x := 387) (ci := 13) (kf := 88) (fin := 0) (t := 0) (by decide +kernel) (by decide +kernel) (by decide +kernel) R_7 f0 (fx_k (c := 13) R_7 (by decide +kernel)) fun v_181 f_182 => ?_
    have f_183 := q_is_eq f_182 e_185
    refine go_iload (n := 4) (by decide +kernel) l_12 f_5 ?_
    obtain ⟨x_187, hc_186, h⟩ := bp_s h
    refine go_callV (x := 341) (mi := 204) (n := 2) (ci := 13) (as := [v_181, v_4]) (rest := []) (by decide +kernel) (by decide +kernel) rfl rfl (q_sum8 _ (Nat.le_of_ble_eq_true rfl)) R_7 f0 (fx_k (c := 13) R_7 (by decide +kernel)) (om_X12_kindAt (Nat.le_trans (by decide) hd) R_7 f0 f_183 f_5 hc_186) (fun _ S_191 q_194 => ?_) (fun _ _ qq => kr_x qq)
    refine kr_z (by decide) q_194 fun v_189 f_190 R_192 E_193 => ?_
    refine go_iload_n (n := 1) (by decide +kernel) l_15 f1 ?_
    refine go_icmp (c := .ne) (o := 31) (t := 57) (P := ¬ (x_187 = p1)) (by decide +kernel) (by decide +kernel) f_190 f1 (Iff.rfl) (fun hp_195 => ?_) (fun hp_195 => ?_)
    · have h := it_f hp_195 h
      exact oj_X12_commands_57 hd R_192 l_14 f0 l_12 f_5 (fun b => hQ (Ext.tr E_10 b)) h
    · have h := it_n hp_195 h
      refine go_aload_n (n := 0) (by decide +kernel) l_14 f0 ?_
      refine go_aload_n (n := 0) (by decide +kernel) l_14 f0 ?_
      refine go_getf (x := 387) (ci := 13) (kf := 88) (fin := 0) (t := 0) (by decide +kernel) (by decide +kernel) (by decide +kernel) R_192 f0 (fx_k (c := 13) R_192 (by decide +kernel)) fun v_216 f_217 => ?_
      have f_218 := q_is_eq f_217 e_185
      refine go_iload (n := 4) (by decide +kernel) l_12 f_5 ?_
      obtain ⟨x_220, hc_219, h⟩ := bp_s h
      refine go_callV (x := 344) (mi := 206) (n := 2) (ci := 13) (as := [v_216, v_4]) (rest := []) (by decide +kernel) (by decide +kernel) rfl rfl (q_sum8 _ (Nat.le_of_ble_eq_true rfl)) R_192 f0 (fx_k (c := 13) R_192 (by decide +kernel)) (om_X12_xAt (Nat.le_trans (by decide) hd) R_192 f0 f_218 f_5 hc_219) (fun _ S_224 q_227 => ?_) (fun _ _ qq => kr_x qq)
      refine kr_z (by decide) q_227 fun v_222 f_223 R_225 E_226 => ?_
      refine go_iload_n (n := 2) (by decide +kernel) l_16 f2 ?_
      refine go_icmp (c := .ne) (o := 17) (t := 57) (P := ¬ (x_220 = p2)) (by decide +kernel) (by decide +kernel) f_223 f2 (Iff.rfl) (fun hp_228 => ?_) (fun hp_228 => ?_)
      · have h := it_f hp_228 h
        exact oj_X12_commands_57 hd R_225 l_14 f0 l_12 f_5 (fun b => hQ (Ext.tr E_10 b)) h
      · have h := it_n hp_228 h
        refine go_aload_n (n := 0) (by decide +kernel) l_14 f0 ?_
        refine go_aload_n (n := 0) (by decide +kernel) l_14 f0 ?_
        refine go_getf (x := 387) (ci := 13) (kf := 88) (fin := 0) (t := 0) (by decide +kernel) (by decide +kernel) (by decide +kernel) R_225 f0 (fx_k (c := 13) R_225 (by decide +kernel)) fun v_229 f_230 => ?_
        have f_231 := q_is_eq f_230 e_185
        refine go_iload (n := 4) (by decide +kernel) l_12 f_5 ?_
        obtain ⟨x_233, hc_232, h⟩ := bp_s h
        refine go_callV (x := 397) (mi := 205) (n := 2) (ci := 13) (as := [v_229, v_4]) (rest := []) (by decide +kernel) (by decide +kernel) rfl rfl (q_sum8 _ (Nat.le_of_ble_eq_true rfl)) R_225 f0 (fx_k (c := 13) R_225 (by decide +kernel)) (om_X12_yAt (Nat.le_trans (by decide) hd) R_225 f0 f_231 f_5 hc_232) (fun _ S_237 q_240 => ?_) (fun _ _ qq => kr_x qq)
        refine kr_z (by decide) q_240 fun v_235 f_236 R_238 E_239 => ?_
        refine go_iload_n (n := 3) (by decide +kernel) l_17 f3 ?_
        refine go_icmp (c := .eq) (o := 9) (t := 63) (P := x_233 = p3) (by decide +kernel) (by decide +kernel) f_236 f3 (Iff.rfl) (fun hp_241 => ?_) (fun hp_241 => ?_)
        · have h := it_t hp_241 h
          exact oj_X12_commands_63 hd R_238 l_14 f0 l_12 f_5 (fun b => hQ (Ext.tr E_10 b)) h
        · have h := it_f hp_241 h
          exact oj_X12_commands_57 hd R_238 l_14 f0 l_12 f_5 (fun b => hQ (Ext.tr E_10 b)) h
end DF27
