/-! Methods as functions (written by wip/whole/dec.py), 27: X12_makes, X12_isAlive, X12_cancels, X12_slot, X12_goes, X12_spins, X12_differs, X12_nextCommand, X12_nextLater, X12_firstTask, X12_commands. -/
section DF27
noncomputable def fm_X12_makes (p1 p2 p3 p4 p5 p6 : Int) (m0 : MM) : Option (Int × MM) := lx (m0 68 12) fun x_4 =>
gd (0 ≤ x_4 ∧ x_4 < 30) <| up m0 80 x_4 p1 fun m_20 =>
up m_20 81 x_4 p2 fun m_30 =>
up m_30 82 x_4 p3 fun m_40 =>
up m_40 83 x_4 0 fun m_52 =>
up m_52 84 x_4 p5 fun m_62 =>
up m_62 85 x_4 p6 fun m_72 =>
up m_72 86 x_4 0 fun m_84 =>
lx (m_84 68 12) fun x_94 =>
up m_84 68 12 (w32 (x_94 + 1)) fun m_100 =>
if p4 = (-1) then
some (x_4, m_100)
else
bd (fm_X12_puts x_4 0 p4 0 m_100) fun x_115 m_116 =>
some (x_4, m_116)
set_option maxHeartbeats 4000000 in
theorem om_X12_makes {xs : List Int32} {d : Nat} {S : QS} {m0 : MM} {p1 p2 p3 p4 p5 p6 : Int} {v0 : Value} {v1 : Value} {v2 : Value} {v3 : Value} {v4 : Value} {v5 : Value} {v6 : Value} {rz : Int} {rm : MM}
  (hd : 4 ≤ d) (R : Rp S m0) (f0 : q_is 2 v0 68) (f1 : q_is 0 v1 p1) (f2 : q_is 0 v2 p2) (f3 : q_is 0 v3 p3) (f4 : q_is 0 v4 p4) (f5 : q_is 0 v5 p5) (f6 : q_is 0 v6 p6)
  (h : fm_X12_makes p1 p2 p3 p4 p5 p6 m0 = some (rz, rm)) : Mt xs d 212 [v0, v1, v2, v3, v4, v5, v6] S (Cr 0 m0 rm rz) := by
  obtain ⟨d, rfl⟩ : ∃ e, d = e + 1 := ⟨d - 1, by omega⟩
  have hd : 3 ≤ d := Nat.le_of_succ_le_succ hd
  refine Mt.of (M := qM_X12_makes) rfl (by rw [sl_1 (q_is_cat f0 (Or.inr rfl)), sl_1 (q_is_cat f1 (Or.inl rfl)), sl_1 (q_is_cat f2 (Or.inl rfl)), sl_1 (q_is_cat f3 (Or.inl rfl)), sl_1 (q_is_cat f4 (Or.inl rfl)), sl_1 (q_is_cat f5 (Or.inl rfl)), sl_1 (q_is_cat f6 (Or.inl rfl)), sl_0]; decide) ?_
  rw [la_1 (q_is_cat f0 (Or.inr rfl)), la_1 (q_is_cat f1 (Or.inl rfl)), la_1 (q_is_cat f2 (Or.inl rfl)), la_1 (q_is_cat f3 (Or.inl rfl)), la_1 (q_is_cat f4 (Or.inl rfl)), la_1 (q_is_cat f5 (Or.inl rfl)), la_1 (q_is_cat f6 (Or.inl rfl)), la_0]
  obtain ⟨L, hL⟩ : ∃ L : QL, L = [(0, v0), (0 + 1, v1), (0 + 1 + 1, v2), (0 + 1 + 1 + 1, v3), (0 + 1 + 1 + 1 + 1, v4), (0 + 1 + 1 + 1 + 1 + 1, v5), (0 + 1 + 1 + 1 + 1 + 1 + 1, v6)] := ⟨_, rfl⟩
  rw [← hL]
  have l0 : q_lo L 0 = some v0 := by rw [hL]; rfl
  have l1 : q_lo L 1 = some v1 := by rw [hL]; rfl
  have l2 : q_lo L 2 = some v2 := by rw [hL]; rfl
  have l3 : q_lo L 3 = some v3 := by rw [hL]; rfl
  have l4 : q_lo L 4 = some v4 := by rw [hL]; rfl
  have l5 : q_lo L 5 = some v5 := by rw [hL]; rfl
  have l6 : q_lo L 6 = some v6 := by rw [hL]; rfl
  have hQ : Ext m0 rm → ∀ o S1, Rp S1 rm → q_out 0 o rz → (Cr 0 m0 rm rz) o S1 := fun a o S1 b e => ⟨b, a, e⟩
  unfold fm_X12_makes at h
  refine go_aload_n (n := 0) (by decide +kernel) l0 f0 ?_
  obtain ⟨x_4, e_5, h⟩ := lx_s h
  refine go_getf (x := 310) (ci := 13) (kf := 12) (fin := 0) (t := 0) (by decide +kernel) (by decide +kernel) (by decide +kernel) R f0 (fx_k (c := 13) R (by decide +kernel)) fun v_1 f_2 => ?_
  have f_3 := q_is_eq f_2 e_5
  refine go_istore (n := 7) (by decide +kernel) (by decide +kernel) f_3 fun L_6 l_7 kp_8 => ?_
  have l_9 := kp_8 0 _ l0 (by decide) (Or.inl (by decide))
  have l_10 := kp_8 1 _ l1 (by decide) (Or.inl (by decide))
  have l_11 := kp_8 2 _ l2 (by decide) (Or.inl (by decide))
  have l_12 := kp_8 3 _ l3 (by decide) (Or.inl (by decide))
  have l_13 := kp_8 4 _ l4 (by decide) (Or.inl (by decide))
  have l_14 := kp_8 5 _ l5 (by decide) (Or.inl (by decide))
  have l_15 := kp_8 6 _ l6 (by decide) (Or.inr (q_is_cat f6 (Or.inl rfl)))
  refine go_aload_n (n := 0) (by decide +kernel) l_9 f0 ?_
  refine go_getf (x := 43) (ci := 13) (kf := 13) (fin := 1) (t := 2) (by decide +kernel) (by decide +kernel) (by decide +kernel) R f0 (fx_k (c := 13) R (by decide +kernel)) fun v_16 f_17 => ?_
  have f_18 := q_is_eq (b := 80) f_17 (fx_v R (by decide +kernel)).symm
  refine go_iload (n := 7) (by decide +kernel) l_7 f_3 ?_
  refine go_iload_n (n := 1) (by decide +kernel) l_10 f1 ?_
  obtain ⟨g_19, h⟩ := gd_s h
  obtain ⟨m_20, e_21, h⟩ := up_s h
  refine go_iast (kd := 100) (by decide +kernel) rfl R f_18 f_3 f1 (fx_k (c := 100) R (by decide +kernel)) (fx_x (a := 80) (ln := 30) R (by decide +kernel) g_19) e_21 (fx_a R.2 (fx_k (c := 100) R (by decide +kernel)) (And.left (fx_x (a := 80) (ln := 30) R (by decide +kernel) g_19)) (by decide +kernel)) fun S_22 R_23 E_24 => ?_
  have E_26 := E_24
  refine go_aload_n (n := 0) (by decide +kernel) l_9 f0 ?_
  refine go_getf (x := 46) (ci := 13) (kf := 14) (fin := 1) (t := 2) (by decide +kernel) (by decide +kernel) (by decide +kernel) R_23 f0 (fx_k (c := 13) R_23 (by decide +kernel)) fun v_27 f_28 => ?_
  have f_29 := q_is_eq (b := 81) f_28 (fx_v R_23 (by decide +kernel)).symm
  refine go_iload (n := 7) (by decide +kernel) l_7 f_3 ?_
  refine go_iload_n (n := 2) (by decide +kernel) l_11 f2 ?_
  obtain ⟨m_30, e_31, h⟩ := up_s h
  refine go_iast (kd := 100) (by decide +kernel) rfl R_23 f_29 f_3 f2 (fx_k (c := 100) R_23 (by decide +kernel)) (fx_x (a := 81) (ln := 30) R_23 (by decide +kernel) g_19) e_31 (fx_a R_23.2 (fx_k (c := 100) R_23 (by decide +kernel)) (And.left (fx_x (a := 81) (ln := 30) R_23 (by decide +kernel) g_19)) (by decide +kernel)) fun S_32 R_33 E_34 => ?_
  have E_36 := Ext.tr E_26 E_34
  refine go_aload_n (n := 0) (by decide +kernel) l_9 f0 ?_
  refine go_getf (x := 49) (ci := 13) (kf := 15) (fin := 1) (t := 2) (by decide +kernel) (by decide +kernel) (by decide +kernel) R_33 f0 (fx_k (c := 13) R_33 (by decide +kernel)) fun v_37 f_38 => ?_
  have f_39 := q_is_eq (b := 82) f_38 (fx_v R_33 (by decide +kernel)).symm
  refine go_iload (n := 7) (by decide +kernel) l_7 f_3 ?_
  refine go_iload_n (n := 3) (by decide +kernel) l_12 f3 ?_
  obtain ⟨m_40, e_41, h⟩ := up_s h
  refine go_iast (kd := 100) (by decide +kernel) rfl R_33 f_39 f_3 f3 (fx_k (c := 100) R_33 (by decide +kernel)) (fx_x (a := 82) (ln := 30) R_33 (by decide +kernel) g_19) e_41 (fx_a R_33.2 (fx_k (c := 100) R_33 (by decide +kernel)) (And.left (fx_x (a := 82) (ln := 30) R_33 (by decide +kernel) g_19)) (by decide +kernel)) fun S_42 R_43 E_44 => ?_
  have E_46 := Ext.tr E_36 E_44
  refine go_aload_n (n := 0) (by decide +kernel) l_9 f0 ?_
  refine go_getf (x := 52) (ci := 13) (kf := 16) (fin := 1) (t := 2) (by decide +kernel) (by decide +kernel) (by decide +kernel) R_43 f0 (fx_k (c := 13) R_43 (by decide +kernel)) fun v_47 f_48 => ?_
  have f_49 := q_is_eq (b := 83) f_48 (fx_v R_43 (by decide +kernel)).symm
  refine go_iload (n := 7) (by decide +kernel) l_7 f_3 ?_
  refine go_iconst (n := 0) (z := 0) (by decide +kernel) (by decide) fun v_50 f_51 => ?_
  obtain ⟨m_52, e_53, h⟩ := up_s h
  refine go_iast (kd := 100) (by decide +kernel) rfl R_43 f_49 f_3 f_51 (fx_k (c := 100) R_43 (by decide +kernel)) (fx_x (a := 83) (ln := 30) R_43 (by decide +kernel) g_19) e_53 (fx_a R_43.2 (fx_k (c := 100) R_43 (by decide +kernel)) (And.left (fx_x (a := 83) (ln := 30) R_43 (by decide +kernel) g_19)) (by decide +kernel)) fun S_54 R_55 E_56 => ?_
  have E_58 := Ext.tr E_46 E_56
  refine go_aload_n (n := 0) (by decide +kernel) l_9 f0 ?_
  refine go_getf (x := 55) (ci := 13) (kf := 17) (fin := 1) (t := 2) (by decide +kernel) (by decide +kernel) (by decide +kernel) R_55 f0 (fx_k (c := 13) R_55 (by decide +kernel)) fun v_59 f_60 => ?_
  have f_61 := q_is_eq (b := 84) f_60 (fx_v R_55 (by decide +kernel)).symm
  refine go_iload (n := 7) (by decide +kernel) l_7 f_3 ?_
  refine go_iload (n := 5) (by decide +kernel) l_14 f5 ?_
  obtain ⟨m_62, e_63, h⟩ := up_s h
  refine go_iast (kd := 100) (by decide +kernel) rfl R_55 f_61 f_3 f5 (fx_k (c := 100) R_55 (by decide +kernel)) (fx_x (a := 84) (ln := 30) R_55 (by decide +kernel) g_19) e_63 (fx_a R_55.2 (fx_k (c := 100) R_55 (by decide +kernel)) (And.left (fx_x (a := 84) (ln := 30) R_55 (by decide +kernel) g_19)) (by decide +kernel)) fun S_64 R_65 E_66 => ?_
  have E_68 := Ext.tr E_58 E_66
  refine go_aload_n (n := 0) (by decide +kernel) l_9 f0 ?_
  refine go_getf (x := 58) (ci := 13) (kf := 18) (fin := 1) (t := 2) (by decide +kernel) (by decide +kernel) (by decide +kernel) R_65 f0 (fx_k (c := 13) R_65 (by decide +kernel)) fun v_69 f_70 => ?_
  have f_71 := q_is_eq (b := 85) f_70 (fx_v R_65 (by decide +kernel)).symm
  refine go_iload (n := 7) (by decide +kernel) l_7 f_3 ?_
  refine go_iload (n := 6) (by decide +kernel) l_15 f6 ?_
  obtain ⟨m_72, e_73, h⟩ := up_s h
  refine go_iast (kd := 100) (by decide +kernel) rfl R_65 f_71 f_3 f6 (fx_k (c := 100) R_65 (by decide +kernel)) (fx_x (a := 85) (ln := 30) R_65 (by decide +kernel) g_19) e_73 (fx_a R_65.2 (fx_k (c := 100) R_65 (by decide +kernel)) (And.left (fx_x (a := 85) (ln := 30) R_65 (by decide +kernel) g_19)) (by decide +kernel)) fun S_74 R_75 E_76 => ?_
  have E_78 := Ext.tr E_68 E_76
  refine go_aload_n (n := 0) (by decide +kernel) l_9 f0 ?_
  refine go_getf (x := 61) (ci := 13) (kf := 19) (fin := 1) (t := 2) (by decide +kernel) (by decide +kernel) (by decide +kernel) R_75 f0 (fx_k (c := 13) R_75 (by decide +kernel)) fun v_79 f_80 => ?_
  have f_81 := q_is_eq (b := 86) f_80 (fx_v R_75 (by decide +kernel)).symm
  refine go_iload (n := 7) (by decide +kernel) l_7 f_3 ?_
  refine go_iconst (n := 0) (z := 0) (by decide +kernel) (by decide) fun v_82 f_83 => ?_
  obtain ⟨m_84, e_85, h⟩ := up_s h
  refine go_iast (kd := 100) (by decide +kernel) rfl R_75 f_81 f_3 f_83 (fx_k (c := 100) R_75 (by decide +kernel)) (fx_x (a := 86) (ln := 30) R_75 (by decide +kernel) g_19) e_85 (fx_a R_75.2 (fx_k (c := 100) R_75 (by decide +kernel)) (And.left (fx_x (a := 86) (ln := 30) R_75 (by decide +kernel) g_19)) (by decide +kernel)) fun S_86 R_87 E_88 => ?_
  have E_90 := Ext.tr E_78 E_88
  refine go_aload_n (n := 0) (by decide +kernel) l_9 f0 ?_
  refine go_dup (by decide +kernel) f0 (Or.inr rfl) ?_
  obtain ⟨x_94, e_95, h⟩ := lx_s h
  refine go_getf (x := 310) (ci := 13) (kf := 12) (fin := 0) (t := 0) (by decide +kernel) (by decide +kernel) (by decide +kernel) R_87 f0 (fx_k (c := 13) R_87 (by decide +kernel)) fun v_91 f_92 => ?_
  have f_93 := q_is_eq f_92 e_95
  refine go_iconst (n := 1) (z := 1) (by decide +kernel) (by decide) fun v_96 f_97 => ?_
  refine go_iadd (by decide +kernel) f_93 f_97 fun v_98 f_99 => ?_
  obtain ⟨m_100, e_101, h⟩ := up_s h
  refine go_putf (x := 310) (ci := 13) (kf := 12) (fin := 0) (zt := 0) (by decide +kernel) (by decide +kernel) (by decide) (by decide +kernel) (by decide) (Or.inl rfl) R_87 f0 f_99 (fun hq => absurd hq (by decide)) (fx_k (c := 13) R_87 (by decide +kernel)) e_101 (fx_f (j := 12) R_87.2 (fx_k (c := 13) R_87 (by decide +kernel)) (by decide +kernel)) fun S_102 R_103 E_104 => ?_
  have E_106 := Ext.tr E_90 E_104
  refine go_iload (n := 4) (by decide +kernel) l_13 f4 ?_
  refine go_iconst (n := (-1)) (z := (-1)) (by decide +kernel) (by decide) fun v_107 f_108 => ?_
  refine go_icmp (c := .eq) (o := 14) (t := 91) (P := p4 = (-1)) (by decide +kernel) (by decide +kernel) f4 f_108 (Iff.rfl) (fun hp_109 => ?_) (fun hp_109 => ?_)
  · have h := it_t hp_109 h
    refine go_iload (n := 7) (by decide +kernel) l_7 f_3 ?_
    cases h
    exact go_iret (by decide +kernel) rfl (Or.inl rfl) f_3 (hQ E_106 _ _ R_103 (q_out_v (by decide) f_3))
  · have h := it_f hp_109 h
    refine go_aload_n (n := 0) (by decide +kernel) l_9 f0 ?_
    refine go_iload (n := 7) (by decide +kernel) l_7 f_3 ?_
    refine go_iconst (n := 0) (z := 0) (by decide +kernel) (by decide) fun v_110 f_111 => ?_
    refine go_iload (n := 4) (by decide +kernel) l_13 f4 ?_
    refine go_iconst (n := 0) (z := 0) (by decide +kernel) (by decide) fun v_112 f_113 => ?_
    obtain ⟨x_115, m_116, hc_114, h⟩ := bd_s h
    refine go_callV (x := 360) (mi := 210) (n := 4) (ci := 13) (as := [v_1, v_110, v4, v_112]) (rest := []) (by decide +kernel) (by decide +kernel) rfl rfl (q_sum8 _ (Nat.le_of_ble_eq_true rfl)) R_103 f0 (fx_k (c := 13) R_103 (by decide +kernel)) (om_X12_puts (Nat.le_trans (by decide) hd) R_103 f0 f_3 f_111 f4 f_113 hc_114) (fun _ S_119 q_122 => ?_) (fun _ _ qq => kr_x qq)
    refine kr_z (by decide) q_122 fun v_117 f_118 R_120 E_121 => ?_
    have E_125 := Ext.tr E_106 E_121
    refine go_pop (by decide +kernel) f_118 (Or.inl rfl) ?_
    refine go_iload (n := 7) (by decide +kernel) l_7 f_3 ?_
    cases h
    exact go_iret (by decide +kernel) rfl (Or.inl rfl) f_3 (hQ E_125 _ _ R_120 (q_out_v (by decide) f_3))
noncomputable def fm_X12_isAlive (p1 : Int) (m0 : MM) : Option Int := gd (0 ≤ p1 ∧ p1 < 30) <| lx (m0 83 p1) fun x_8 =>
if x_8 = 0 then
some 1
else
if x_8 = 6 then
some 1
else
some 0
set_option maxHeartbeats 4000000 in
theorem om_X12_isAlive {xs : List Int32} {d : Nat} {S : QS} {m0 : MM} {p1 : Int} {v0 : Value} {v1 : Value} {rz : Int}
  (hd : 1 ≤ d) (R : Rp S m0) (f0 : q_is 2 v0 68) (f1 : q_is 0 v1 p1)
  (h : fm_X12_isAlive p1 m0 = some rz) : Mt xs d 213 [v0, v1] S (Cr 0 m0 m0 rz) := by
  obtain ⟨d, rfl⟩ : ∃ e, d = e + 1 := ⟨d - 1, by omega⟩
  have hd : 0 ≤ d := Nat.le_of_succ_le_succ hd
  refine Mt.of (M := qM_X12_isAlive) rfl (by rw [sl_1 (q_is_cat f0 (Or.inr rfl)), sl_1 (q_is_cat f1 (Or.inl rfl)), sl_0]; decide) ?_
  rw [la_1 (q_is_cat f0 (Or.inr rfl)), la_1 (q_is_cat f1 (Or.inl rfl)), la_0]
  obtain ⟨L, hL⟩ : ∃ L : QL, L = [(0, v0), (0 + 1, v1)] := ⟨_, rfl⟩
  rw [← hL]
  have l0 : q_lo L 0 = some v0 := by rw [hL]; rfl
  have l1 : q_lo L 1 = some v1 := by rw [hL]; rfl
  have hQ : ∀ o S1, Rp S1 m0 → q_out 0 o rz → (Cr 0 m0 m0 rz) o S1 := fun o S1 a b => ⟨a, Ext.rf _, b⟩
  unfold fm_X12_isAlive at h
  refine go_aload_n (n := 0) (by decide +kernel) l0 f0 ?_
  refine go_getf (x := 52) (ci := 13) (kf := 16) (fin := 1) (t := 2) (by decide +kernel) (by decide +kernel) (by decide +kernel) R f0 (fx_k (c := 13) R (by decide +kernel)) fun v_1 f_2 => ?_
  have f_3 := q_is_eq (b := 83) f_2 (fx_v R (by decide +kernel)).symm
  refine go_iload_n (n := 1) (by decide +kernel) l1 f1 ?_
  obtain ⟨g_6, h⟩ := gd_s h
  obtain ⟨x_8, e_9, h⟩ := lx_s h
  refine go_iald (kd := 100) (by decide +kernel) rfl R f_3 f1 (fx_k (c := 100) R (by decide +kernel)) (fx_x (a := 83) (ln := 30) R (by decide +kernel) g_6) fun v_4 f_5 => ?_
  have f_7 := q_is_eq f_5 e_9
  refine go_if (c := .eq) (o := 14) (t := 20) (P := x_8 = 0) (by decide +kernel) (by decide +kernel) f_7 (Iff.rfl) (fun hp_10 => ?_) (fun hp_10 => ?_)
  · have h := it_t hp_10 h
    refine go_iconst (n := 1) (z := 1) (by decide +kernel) (by decide) fun v_11 f_12 => ?_
    refine go_goto (o := 4) (t := 25) (by decide +kernel) (by decide +kernel) ?_
    cases h
    exact go_iret (by decide +kernel) rfl (Or.inr ⟨rfl, by decide⟩) f_12 (hQ _ _ R (q_out_v (by decide) f_12))
  · have h := it_f hp_10 h
    refine go_aload_n (n := 0) (by decide +kernel) l0 f0 ?_
    refine go_getf (x := 52) (ci := 13) (kf := 16) (fin := 1) (t := 2) (by decide +kernel) (by decide +kernel) (by decide +kernel) R f0 (fx_k (c := 13) R (by decide +kernel)) fun v_13 f_14 => ?_
    have f_15 := q_is_eq (b := 83) f_14 (fx_v R (by decide +kernel)).symm
    refine go_iload_n (n := 1) (by decide +kernel) l1 f1 ?_
    refine go_iald (kd := 100) (by decide +kernel) rfl R f_15 f1 (fx_k (c := 100) R (by decide +kernel)) (fx_x (a := 83) (ln := 30) R (by decide +kernel) g_6) fun v_16 f_17 => ?_
    have f_18 := q_is_eq f_17 e_9
    refine go_bipush (n := 6) (z := 6) (by decide +kernel) (by decide) fun v_19 f_20 => ?_
    refine go_icmp (c := .ne) (o := 7) (t := 24) (P := ¬ (x_8 = 6)) (by decide +kernel) (by decide +kernel) f_18 f_20 (Iff.rfl) (fun hp_21 => ?_) (fun hp_21 => ?_)
    · have h := it_f hp_21 h
      refine go_iconst (n := 0) (z := 0) (by decide +kernel) (by decide) fun v_22 f_23 => ?_
      cases h
      exact go_iret (by decide +kernel) rfl (Or.inr ⟨rfl, by decide⟩) f_23 (hQ _ _ R (q_out_v (by decide) f_23))
    · have h := it_n hp_21 h
      refine go_iconst (n := 1) (z := 1) (by decide +kernel) (by decide) fun v_24 f_25 => ?_
      refine go_goto (o := 4) (t := 25) (by decide +kernel) (by decide +kernel) ?_
      cases h
      exact go_iret (by decide +kernel) rfl (Or.inr ⟨rfl, by decide⟩) f_25 (hQ _ _ R (q_out_v (by decide) f_25))
noncomputable def fj_X12_cancels_15 (y1 s0 : Int) (m : MM) : Option (Int × MM) := if s0 = 0 then
gd (s0 = 0 ∨ s0 = 1) <| some (s0, m)
else
bd (fm_X12_puts y1 7 0 0 m) fun x_29 m_30 =>
gd (s0 = 0 ∨ s0 = 1) <| some (s0, m_30)
set_option maxHeartbeats 4000000 in
theorem oj_X12_cancels_15 {xs : List Int32} {d : Nat} {S : QS} {L : QL} {Q : QO → QS → Prop} {m : MM} {y1 s0 : Int} {v0 : Value} {v1 : Value} {w0 : Value}  {rz : Int} {rm : MM}
  (hd : 3 ≤ d) (R : Rp S m) (l0 : q_lo L 0 = some v0) (f0 : q_is 2 v0 68) (l1 : q_lo L 1 = some v1) (f1 : q_is 0 v1 y1) (fs0 : q_is 0 w0 s0)
  (hQ : Ext m rm → ∀ o S1, Rp S1 rm → q_out 0 o rz → Q o S1)
  (h : fj_X12_cancels_15 y1 s0 m = some (rz, rm)) : Go xs d qM_X12_cancels 15 L [w0] S Q := by
  unfold fj_X12_cancels_15 at h
  refine go_istore_n (n := 2) (by decide +kernel) (by decide +kernel) fs0 fun L_15 l_16 kp_17 => ?_
  have l_18 := kp_17 0 _ l0 (by decide) (Or.inl (by decide))
  have l_19 := kp_17 1 _ l1 (by decide) (Or.inr (q_is_cat f1 (Or.inl rfl)))
  refine go_iload_n (n := 2) (by decide +kernel) l_16 fs0 ?_
  refine go_if (c := .eq) (o := 13) (t := 30) (P := s0 = 0) (by decide +kernel) (by decide +kernel) fs0 (Iff.rfl) (fun hp_20 => ?_) (fun hp_20 => ?_)
  · have h := it_t hp_20 h
    refine go_iload_n (n := 2) (by decide +kernel) l_16 fs0 ?_
    obtain ⟨g_21, h⟩ := gd_s h
    cases h
    exact go_iret (by decide +kernel) rfl (Or.inr ⟨rfl, g_21⟩) fs0 (hQ (Ext.rf _) _ _ R (q_out_v (by decide) fs0))
  · have h := it_f hp_20 h
    refine go_aload_n (n := 0) (by decide +kernel) l_18 f0 ?_
    refine go_iload_n (n := 1) (by decide +kernel) l_19 f1 ?_
    refine go_bipush (n := 7) (z := 7) (by decide +kernel) (by decide) fun v_22 f_23 => ?_
    refine go_iconst (n := 0) (z := 0) (by decide +kernel) (by decide) fun v_24 f_25 => ?_
    refine go_iconst (n := 0) (z := 0) (by decide +kernel) (by decide) fun v_26 f_27 => ?_
    obtain ⟨x_29, m_30, hc_28, h⟩ := bd_s h
    refine go_callV (x := 360) (mi := 210) (n := 4) (ci := 13) (as := [v1, v_22, v_24, v_26]) (rest := []) (by decide +kernel) (by decide +kernel) rfl rfl (q_sum8 _ (Nat.le_of_ble_eq_true rfl)) R f0 (fx_k (c := 13) R (by decide +kernel)) (om_X12_puts (Nat.le_trans (by decide) hd) R f0 f1 f_23 f_25 f_27 hc_28) (fun _ S_33 q_36 => ?_) (fun _ _ qq => kr_x qq)
    refine kr_z (by decide) q_36 fun v_31 f_32 R_34 E_35 => ?_
    have E_39 := E_35
    refine go_pop (by decide +kernel) f_32 (Or.inl rfl) ?_
    refine go_iload_n (n := 2) (by decide +kernel) l_16 fs0 ?_
    obtain ⟨g_40, h⟩ := gd_s h
    cases h
    exact go_iret (by decide +kernel) rfl (Or.inr ⟨rfl, g_40⟩) fs0 (hQ E_39 _ _ R_34 (q_out_v (by decide) fs0))
noncomputable def fm_X12_cancels (p1 : Int) (m0 : MM) : Option (Int × MM) := bp (fm_X12_hasCome p1 7 m0) fun x_4 =>
if x_4 = 0 then
fj_X12_cancels_15 p1 1 m0
else
fj_X12_cancels_15 p1 0 m0
set_option maxHeartbeats 4000000 in
theorem om_X12_cancels {xs : List Int32} {d : Nat} {S : QS} {m0 : MM} {p1 : Int} {v0 : Value} {v1 : Value} {rz : Int} {rm : MM}
  (hd : 4 ≤ d) (R : Rp S m0) (f0 : q_is 2 v0 68) (f1 : q_is 0 v1 p1)
  (h : fm_X12_cancels p1 m0 = some (rz, rm)) : Mt xs d 214 [v0, v1] S (Cr 0 m0 rm rz) := by
  obtain ⟨d, rfl⟩ : ∃ e, d = e + 1 := ⟨d - 1, by omega⟩
  have hd : 3 ≤ d := Nat.le_of_succ_le_succ hd
  refine Mt.of (M := qM_X12_cancels) rfl (by rw [sl_1 (q_is_cat f0 (Or.inr rfl)), sl_1 (q_is_cat f1 (Or.inl rfl)), sl_0]; decide) ?_
  rw [la_1 (q_is_cat f0 (Or.inr rfl)), la_1 (q_is_cat f1 (Or.inl rfl)), la_0]
  obtain ⟨L, hL⟩ : ∃ L : QL, L = [(0, v0), (0 + 1, v1)] := ⟨_, rfl⟩
  rw [← hL]
  have l0 : q_lo L 0 = some v0 := by rw [hL]; rfl
  have l1 : q_lo L 1 = some v1 := by rw [hL]; rfl
  have hQ : Ext m0 rm → ∀ o S1, Rp S1 rm → q_out 0 o rz → (Cr 0 m0 rm rz) o S1 := fun a o S1 b e => ⟨b, a, e⟩
  unfold fm_X12_cancels at h
  refine go_aload_n (n := 0) (by decide +kernel) l0 f0 ?_
  refine go_iload_n (n := 1) (by decide +kernel) l1 f1 ?_
  refine go_bipush (n := 7) (z := 7) (by decide +kernel) (by decide) fun v_1 f_2 => ?_
  obtain ⟨x_4, hc_3, h⟩ := bp_s h
  refine go_callV (x := 364) (mi := 211) (n := 2) (ci := 13) (as := [v1, v_1]) (rest := []) (by decide +kernel) (by decide +kernel) rfl rfl (q_sum8 _ (Nat.le_of_ble_eq_true rfl)) R f0 (fx_k (c := 13) R (by decide +kernel)) (om_X12_hasCome (Nat.le_trans (by decide) hd) R f0 f1 f_2 hc_3) (fun _ S_8 q_11 => ?_) (fun _ _ qq => kr_x qq)
  refine kr_z (by decide) q_11 fun v_6 f_7 R_9 E_10 => ?_
  refine go_if (c := .ne) (o := 7) (t := 14) (P := ¬ (x_4 = 0)) (by decide +kernel) (by decide +kernel) f_7 (Iff.rfl) (fun hp_12 => ?_) (fun hp_12 => ?_)
  · have h := it_f hp_12 h
    refine go_iconst (n := 0) (z := 0) (by decide +kernel) (by decide) fun v_13 f_14 => ?_
    exact oj_X12_cancels_15 hd R_9 l0 f0 l1 f1 f_14 hQ h
  · have h := it_n hp_12 h
    refine go_iconst (n := 1) (z := 1) (by decide +kernel) (by decide) fun v_41 f_42 => ?_
    refine go_goto (o := 4) (t := 15) (by decide +kernel) (by decide +kernel) ?_
    exact oj_X12_cancels_15 hd R_9 l0 f0 l1 f1 f_42 hQ h
noncomputable def fl_X12_slot_4 (y1 : Int) (m0 : MM) : Nat → Int → Int → Option Int
  | 0, _, _ => none
  | n + 1, y2, y3 => lx (m0 68 91) fun x_19 =>
if y3 < x_19 then
gd (0 ≤ y3 ∧ y3 < 12) <| lx (m0 143 y3) fun x_29 =>
if x_29 = y1 then
lx (w32 (y3 + 1)) fun x_60 =>
fl_X12_slot_4 y1 m0 n y3 x_60
else
lx (w32 (y3 + 1)) fun x_43 =>
fl_X12_slot_4 y1 m0 n y2 x_43
else
some y2
set_option maxHeartbeats 4000000 in
theorem ol_X12_slot_4 {xs : List Int32} {d : Nat} {Q : QO → QS → Prop} {m0 : MM} {y1 : Int} {rz : Int}
  (hd : 0 ≤ d)
  (hQ : ∀ o S1, Rp S1 m0 → q_out 0 o rz → Q o S1) :
  ∀ (n : Nat) {S : QS} {L : QL} {y2 y3 : Int} {v0 : Value} {v1 : Value} {v2 : Value} {v3 : Value} , fl_X12_slot_4 y1 m0 n y2 y3 = some rz → Rp S m0 → q_lo L 0 = some v0 → q_is 2 v0 68 → q_lo L 1 = some v1 → q_is 0 v1 y1 → q_lo L 2 = some v2 → q_is 0 v2 y2 → q_lo L 3 = some v3 → q_is 0 v3 y3 → Go xs d qM_X12_slot 4 L [] S Q := by
  intro n
  induction n with
  | zero => intro S L y2 y3 v0 v1 v2 v3; intro h R l0 f0 l1 f1 l2 f2 l3 f3; cases h
  | succ n ih0 =>
    intro S L y2 y3 v0 v1 v2 v3; intro h R l0 f0 l1 f1 l2 f2 l3 f3
    have ih : ∀ {z2 : Int} {z3 : Int} {Sq : QS} {Lq : QL} {u0 : Value} {u1 : Value} {u2 : Value} {u3 : Value}, fl_X12_slot_4 y1 m0 n z2 z3 = some rz → Rp Sq m0 → q_lo Lq 0 = some u0 → q_is 2 u0 68 → q_lo Lq 1 = some u1 → q_is 0 u1 y1 → q_lo Lq 2 = some u2 → q_is 0 u2 z2 → q_lo Lq 3 = some u3 → q_is 0 u3 z3 → Go xs d qM_X12_slot 4 Lq [] Sq Q := by intros; exact ih0 ‹_› ‹_› ‹_› ‹_› ‹_› ‹_› ‹_› ‹_› ‹_› ‹_›
    unfold fl_X12_slot_4 at h
    refine go_iload_n (n := 3) (by decide +kernel) l3 f3 ?_
    refine go_aload_n (n := 0) (by decide +kernel) l0 f0 ?_
    obtain ⟨x_19, e_20, h⟩ := lx_s h
    refine go_getf (x := 368) (ci := 13) (kf := 91) (fin := 0) (t := 0) (by decide +kernel) (by decide +kernel) (by decide +kernel) R f0 (fx_k (c := 13) R (by decide +kernel)) fun v_16 f_17 => ?_
    have f_18 := q_is_eq f_17 e_20
    refine go_icmp (c := .ge) (o := 25) (t := 34) (P := ¬ (y3 < x_19)) (by decide +kernel) (by decide +kernel) f3 f_18 (Int.not_lt.symm) (fun hp_21 => ?_) (fun hp_21 => ?_)
    · have h := it_f hp_21 h
      refine go_iload_n (n := 2) (by decide +kernel) l2 f2 ?_
      cases h
      exact go_iret (by decide +kernel) rfl (Or.inl rfl) f2 (hQ _ _ R (q_out_v (by decide) f2))
    · have h := it_n hp_21 h
      refine go_aload_n (n := 0) (by decide +kernel) l0 f0 ?_
      refine go_getf (x := 244) (ci := 13) (kf := 93) (fin := 1) (t := 2) (by decide +kernel) (by decide +kernel) (by decide +kernel) R f0 (fx_k (c := 13) R (by decide +kernel)) fun v_22 f_23 => ?_
      have f_24 := q_is_eq (b := 143) f_23 (fx_v R (by decide +kernel)).symm
      refine go_iload_n (n := 3) (by decide +kernel) l3 f3 ?_
      obtain ⟨g_27, h⟩ := gd_s h
      obtain ⟨x_29, e_30, h⟩ := lx_s h
      refine go_iald (kd := 100) (by decide +kernel) rfl R f_24 f3 (fx_k (c := 100) R (by decide +kernel)) (fx_x (a := 143) (ln := 12) R (by decide +kernel) g_27) fun v_25 f_26 => ?_
      have f_28 := q_is_eq f_26 e_30
      refine go_iload_n (n := 1) (by decide +kernel) l1 f1 ?_
      refine go_icmp (c := .ne) (o := 7) (t := 26) (P := ¬ (x_29 = y1)) (by decide +kernel) (by decide +kernel) f_28 f1 (Iff.rfl) (fun hp_31 => ?_) (fun hp_31 => ?_)
      · have h := it_f hp_31 h
        refine go_iload_n (n := 2) (by decide +kernel) l2 f2 ?_
        refine go_istore_n (n := 2) (by decide +kernel) (by decide +kernel) f2 fun L_32 l_33 kp_34 => ?_
        have l_35 := kp_34 0 _ l0 (by decide) (Or.inl (by decide))
        have l_36 := kp_34 1 _ l1 (by decide) (Or.inr (q_is_cat f1 (Or.inl rfl)))
        have l_37 := kp_34 3 _ l3 (by decide) (Or.inl (by decide))
        refine go_iinc (n := 3) (c := 1) (c' := 1) (by decide +kernel) (by decide +kernel) l_37 f3 (by decide) fun L_38 v_39 f_40 l_41 kp_42 => ?_
        obtain ⟨x_43, e_44, h⟩ := lx_s h
        have f_45 := q_is_eq f_40 e_44
        have l_46 := kp_42 0 _ l_35 (by decide) (Or.inl (by decide))
        have l_47 := kp_42 1 _ l_36 (by decide) (Or.inl (by decide))
        have l_48 := kp_42 2 _ l_33 (by decide) (Or.inr (q_is_cat f2 (Or.inl rfl)))
        refine go_goto (o := (-27)) (t := 4) (by decide +kernel) (by decide +kernel) ?_
        exact ih h R l_46 f0 l_47 f1 l_48 f2 l_41 f_45
      · have h := it_n hp_31 h
        refine go_iload_n (n := 3) (by decide +kernel) l3 f3 ?_
        refine go_goto (o := 4) (t := 27) (by decide +kernel) (by decide +kernel) ?_
        refine go_istore_n (n := 2) (by decide +kernel) (by decide +kernel) f3 fun L_49 l_50 kp_51 => ?_
        have l_52 := kp_51 0 _ l0 (by decide) (Or.inl (by decide))
        have l_53 := kp_51 1 _ l1 (by decide) (Or.inr (q_is_cat f1 (Or.inl rfl)))
        have l_54 := kp_51 3 _ l3 (by decide) (Or.inl (by decide))
        refine go_iinc (n := 3) (c := 1) (c' := 1) (by decide +kernel) (by decide +kernel) l_54 f3 (by decide) fun L_55 v_56 f_57 l_58 kp_59 => ?_
        obtain ⟨x_60, e_61, h⟩ := lx_s h
        have f_62 := q_is_eq f_57 e_61
        have l_63 := kp_59 0 _ l_52 (by decide) (Or.inl (by decide))
        have l_64 := kp_59 1 _ l_53 (by decide) (Or.inl (by decide))
        have l_65 := kp_59 2 _ l_50 (by decide) (Or.inr (q_is_cat f3 (Or.inl rfl)))
        refine go_goto (o := (-27)) (t := 4) (by decide +kernel) (by decide +kernel) ?_
        exact ih h R l_63 f0 l_64 f1 l_65 f3 l_58 f_62
noncomputable def fm_X12_slot (p1 : Int) (m0 : MM) : Option Int := fl_X12_slot_4 p1 m0  BIG (-1) 0
set_option maxHeartbeats 4000000 in
theorem om_X12_slot {xs : List Int32} {d : Nat} {S : QS} {m0 : MM} {p1 : Int} {v0 : Value} {v1 : Value} {rz : Int}
  (hd : 1 ≤ d) (R : Rp S m0) (f0 : q_is 2 v0 68) (f1 : q_is 0 v1 p1)
  (h : fm_X12_slot p1 m0 = some rz) : Mt xs d 215 [v0, v1] S (Cr 0 m0 m0 rz) := by
  obtain ⟨d, rfl⟩ : ∃ e, d = e + 1 := ⟨d - 1, by omega⟩
  have hd : 0 ≤ d := Nat.le_of_succ_le_succ hd
  refine Mt.of (M := qM_X12_slot) rfl (by rw [sl_1 (q_is_cat f0 (Or.inr rfl)), sl_1 (q_is_cat f1 (Or.inl rfl)), sl_0]; decide) ?_
  rw [la_1 (q_is_cat f0 (Or.inr rfl)), la_1 (q_is_cat f1 (Or.inl rfl)), la_0]
  obtain ⟨L, hL⟩ : ∃ L : QL, L = [(0, v0), (0 + 1, v1)] := ⟨_, rfl⟩
  rw [← hL]
  have l0 : q_lo L 0 = some v0 := by rw [hL]; rfl
  have l1 : q_lo L 1 = some v1 := by rw [hL]; rfl
  have hQ : ∀ o S1, Rp S1 m0 → q_out 0 o rz → (Cr 0 m0 m0 rz) o S1 := fun o S1 a b => ⟨a, Ext.rf _, b⟩
  unfold fm_X12_slot at h
  refine go_iconst (n := (-1)) (z := (-1)) (by decide +kernel) (by decide) fun v_1 f_2 => ?_
  refine go_istore_n (n := 2) (by decide +kernel) (by decide +kernel) f_2 fun L_3 l_4 kp_5 => ?_
  have l_6 := kp_5 0 _ l0 (by decide) (Or.inl (by decide))
  have l_7 := kp_5 1 _ l1 (by decide) (Or.inr (q_is_cat f1 (Or.inl rfl)))
  refine go_iconst (n := 0) (z := 0) (by decide +kernel) (by decide) fun v_8 f_9 => ?_
  refine go_istore_n (n := 3) (by decide +kernel) (by decide +kernel) f_9 fun L_10 l_11 kp_12 => ?_
  have l_13 := kp_12 0 _ l_6 (by decide) (Or.inl (by decide))
  have l_14 := kp_12 1 _ l_7 (by decide) (Or.inl (by decide))
  have l_15 := kp_12 2 _ l_4 (by decide) (Or.inr (q_is_cat f_2 (Or.inl rfl)))
  refine ol_X12_slot_4 hd   hQ BIG h R l_13 f0 l_14 f1 l_15 f_2 l_11 f_9
noncomputable def fm_X12_goes (m0 : MM) : Option Int := lx (m0 68 112) fun x_4 =>
if x_4 = 0 then
lx (m0 68 114) fun x_12 =>
if x_12 = 0 then
some 1
else
some 0
else
some 0
set_option maxHeartbeats 4000000 in
theorem om_X12_goes {xs : List Int32} {d : Nat} {S : QS} {m0 : MM} {v0 : Value} {rz : Int}
  (hd : 1 ≤ d) (R : Rp S m0) (f0 : q_is 2 v0 68)
  (h : fm_X12_goes m0 = some rz) : Mt xs d 216 [v0] S (Cr 0 m0 m0 rz) := by
  obtain ⟨d, rfl⟩ : ∃ e, d = e + 1 := ⟨d - 1, by omega⟩
  have hd : 0 ≤ d := Nat.le_of_succ_le_succ hd
  refine Mt.of (M := qM_X12_goes) rfl (by rw [sl_1 (q_is_cat f0 (Or.inr rfl)), sl_0]; decide) ?_
  rw [la_1 (q_is_cat f0 (Or.inr rfl)), la_0]
  obtain ⟨L, hL⟩ : ∃ L : QL, L = [(0, v0)] := ⟨_, rfl⟩
  rw [← hL]
  have l0 : q_lo L 0 = some v0 := by rw [hL]; rfl
  have hQ : ∀ o S1, Rp S1 m0 → q_out 0 o rz → (Cr 0 m0 m0 rz) o S1 := fun o S1 a b => ⟨a, Ext.rf _, b⟩
  unfold fm_X12_goes at h
  refine go_aload_n (n := 0) (by decide +kernel) l0 f0 ?_
  obtain ⟨x_4, e_5, h⟩ := lx_s h
  refine go_getf (x := 371) (ci := 13) (kf := 112) (fin := 0) (t := 0) (by decide +kernel) (by decide +kernel) (by decide +kernel) R f0 (fx_k (c := 13) R (by decide +kernel)) fun v_1 f_2 => ?_
  have f_3 := q_is_eq f_2 e_5
  refine go_if (c := .ne) (o := 14) (t := 18) (P := ¬ (x_4 = 0)) (by decide +kernel) (by decide +kernel) f_3 (Iff.rfl) (fun hp_6 => ?_) (fun hp_6 => ?_)
  · have h := it_f hp_6 h
    refine go_iconst (n := 0) (z := 0) (by decide +kernel) (by decide) fun v_7 f_8 => ?_
    cases h
    exact go_iret (by decide +kernel) rfl (Or.inr ⟨rfl, by decide⟩) f_8 (hQ _ _ R (q_out_v (by decide) f_8))
  · have h := it_n hp_6 h
    refine go_aload_n (n := 0) (by decide +kernel) l0 f0 ?_
    obtain ⟨x_12, e_13, h⟩ := lx_s h
    refine go_getf (x := 374) (ci := 13) (kf := 114) (fin := 0) (t := 0) (by decide +kernel) (by decide +kernel) (by decide +kernel) R f0 (fx_k (c := 13) R (by decide +kernel)) fun v_9 f_10 => ?_
    have f_11 := q_is_eq f_10 e_13
    refine go_if (c := .ne) (o := 7) (t := 18) (P := ¬ (x_12 = 0)) (by decide +kernel) (by decide +kernel) f_11 (Iff.rfl) (fun hp_14 => ?_) (fun hp_14 => ?_)
    · have h := it_f hp_14 h
      refine go_iconst (n := 0) (z := 0) (by decide +kernel) (by decide) fun v_15 f_16 => ?_
      cases h
      exact go_iret (by decide +kernel) rfl (Or.inr ⟨rfl, by decide⟩) f_16 (hQ _ _ R (q_out_v (by decide) f_16))
    · have h := it_n hp_14 h
      refine go_iconst (n := 1) (z := 1) (by decide +kernel) (by decide) fun v_17 f_18 => ?_
      refine go_goto (o := 4) (t := 19) (by decide +kernel) (by decide +kernel) ?_
      cases h
      exact go_iret (by decide +kernel) rfl (Or.inr ⟨rfl, by decide⟩) f_18 (hQ _ _ R (q_out_v (by decide) f_18))
noncomputable def fm_X12_spins (m0 : MM) : Option (Int × MM) := up m0 68 114 1 fun m_3 =>
up m_3 68 115 (-1) fun m_12 =>
some (0, m_12)
set_option maxHeartbeats 4000000 in
theorem om_X12_spins {xs : List Int32} {d : Nat} {S : QS} {m0 : MM} {v0 : Value} {rz : Int} {rm : MM}
  (hd : 1 ≤ d) (R : Rp S m0) (f0 : q_is 2 v0 68)
  (h : fm_X12_spins m0 = some (rz, rm)) : Mt xs d 217 [v0] S (Cr 9 m0 rm rz) := by
  obtain ⟨d, rfl⟩ : ∃ e, d = e + 1 := ⟨d - 1, by omega⟩
  have hd : 0 ≤ d := Nat.le_of_succ_le_succ hd
  refine Mt.of (M := qM_X12_spins) rfl (by rw [sl_1 (q_is_cat f0 (Or.inr rfl)), sl_0]; decide) ?_
  rw [la_1 (q_is_cat f0 (Or.inr rfl)), la_0]
  obtain ⟨L, hL⟩ : ∃ L : QL, L = [(0, v0)] := ⟨_, rfl⟩
  rw [← hL]
  have l0 : q_lo L 0 = some v0 := by rw [hL]; rfl
  have hQ : Ext m0 rm → ∀ o S1, Rp S1 rm → q_out 9 o rz → (Cr 9 m0 rm rz) o S1 := fun a o S1 b e => ⟨b, a, e⟩
  unfold fm_X12_spins at h
  refine go_aload_n (n := 0) (by decide +kernel) l0 f0 ?_
  refine go_iconst (n := 1) (z := 1) (by decide +kernel) (by decide) fun v_1 f_2 => ?_
  obtain ⟨m_3, e_4, h⟩ := up_s h
  refine go_putf (x := 374) (ci := 13) (kf := 114) (fin := 0) (zt := 1) (by decide +kernel) (by decide +kernel) (by decide) (by decide +kernel) (by decide) (Or.inl rfl) R f0 f_2 (fun _ => by decide) (fx_k (c := 13) R (by decide +kernel)) e_4 (fx_f (j := 114) R.2 (fx_k (c := 13) R (by decide +kernel)) (by decide +kernel)) fun S_5 R_6 E_7 => ?_
  have E_9 := E_7
  refine go_aload_n (n := 0) (by decide +kernel) l0 f0 ?_
  refine go_iconst (n := (-1)) (z := (-1)) (by decide +kernel) (by decide) fun v_10 f_11 => ?_
  obtain ⟨m_12, e_13, h⟩ := up_s h
  refine go_putf (x := 378) (ci := 13) (kf := 115) (fin := 0) (zt := 0) (by decide +kernel) (by decide +kernel) (by decide) (by decide +kernel) (by decide) (Or.inl rfl) R_6 f0 f_11 (fun hq => absurd hq (by decide)) (fx_k (c := 13) R_6 (by decide +kernel)) e_13 (fx_f (j := 115) R_6.2 (fx_k (c := 13) R_6 (by decide +kernel)) (by decide +kernel)) fun S_14 R_15 E_16 => ?_
  have E_18 := Ext.tr E_9 E_16
  cases h
  exact go_vret (by decide +kernel) rfl (hQ E_18 _ _ R_15 q_out_n)
noncomputable def fm_X12_differs (p1 : Int) (m0 : MM) : Option (Int × MM) := up m0 68 114 1 fun m_3 =>
up m_3 68 115 p1 fun m_10 =>
some (0, m_10)
set_option maxHeartbeats 4000000 in
theorem om_X12_differs {xs : List Int32} {d : Nat} {S : QS} {m0 : MM} {p1 : Int} {v0 : Value} {v1 : Value} {rz : Int} {rm : MM}
  (hd : 1 ≤ d) (R : Rp S m0) (f0 : q_is 2 v0 68) (f1 : q_is 0 v1 p1)
  (h : fm_X12_differs p1 m0 = some (rz, rm)) : Mt xs d 218 [v0, v1] S (Cr 9 m0 rm rz) := by
  obtain ⟨d, rfl⟩ : ∃ e, d = e + 1 := ⟨d - 1, by omega⟩
  have hd : 0 ≤ d := Nat.le_of_succ_le_succ hd
  refine Mt.of (M := qM_X12_differs) rfl (by rw [sl_1 (q_is_cat f0 (Or.inr rfl)), sl_1 (q_is_cat f1 (Or.inl rfl)), sl_0]; decide) ?_
  rw [la_1 (q_is_cat f0 (Or.inr rfl)), la_1 (q_is_cat f1 (Or.inl rfl)), la_0]
  obtain ⟨L, hL⟩ : ∃ L : QL, L = [(0, v0), (0 + 1, v1)] := ⟨_, rfl⟩
  rw [← hL]
  have l0 : q_lo L 0 = some v0 := by rw [hL]; rfl
  have l1 : q_lo L 1 = some v1 := by rw [hL]; rfl
  have hQ : Ext m0 rm → ∀ o S1, Rp S1 rm → q_out 9 o rz → (Cr 9 m0 rm rz) o S1 := fun a o S1 b e => ⟨b, a, e⟩
  unfold fm_X12_differs at h
  refine go_aload_n (n := 0) (by decide +kernel) l0 f0 ?_
  refine go_iconst (n := 1) (z := 1) (by decide +kernel) (by decide) fun v_1 f_2 => ?_
  obtain ⟨m_3, e_4, h⟩ := up_s h
  refine go_putf (x := 374) (ci := 13) (kf := 114) (fin := 0) (zt := 1) (by decide +kernel) (by decide +kernel) (by decide) (by decide +kernel) (by decide) (Or.inl rfl) R f0 f_2 (fun _ => by decide) (fx_k (c := 13) R (by decide +kernel)) e_4 (fx_f (j := 114) R.2 (fx_k (c := 13) R (by decide +kernel)) (by decide +kernel)) fun S_5 R_6 E_7 => ?_
  have E_9 := E_7
  refine go_aload_n (n := 0) (by decide +kernel) l0 f0 ?_
  refine go_iload_n (n := 1) (by decide +kernel) l1 f1 ?_
  obtain ⟨m_10, e_11, h⟩ := up_s h
  refine go_putf (x := 378) (ci := 13) (kf := 115) (fin := 0) (zt := 0) (by decide +kernel) (by decide +kernel) (by decide) (by decide +kernel) (by decide) (Or.inl rfl) R_6 f0 f1 (fun hq => absurd hq (by decide)) (fx_k (c := 13) R_6 (by decide +kernel)) e_11 (fx_f (j := 115) R_6.2 (fx_k (c := 13) R_6 (by decide +kernel)) (by decide +kernel)) fun S_12 R_13 E_14 => ?_
  have E_16 := Ext.tr E_9 E_14
  cases h
  exact go_vret (by decide +kernel) rfl (hQ E_16 _ _ R_13 q_out_n)
noncomputable def fl_X12_nextCommand_0 : Nat → MM → Option (Int × MM)
  | 0, _ => none
  | n + 1, m => lx (m 68 116) fun x_4 =>
lx (m 68 124) fun x_9 =>
if x_4 < x_9 then
lx (m 68 88) fun x_18 =>
bp (fm_X12_kindAt x_18 x_4 m) fun x_24 =>
bp (fm_X12_isIn x_24 8 16 m) fun x_37 =>
if x_37 = 0 then
up m 68 116 (w32 (x_4 + 1)) fun m_56 =>
fl_X12_nextCommand_0 n m_56
else
some (x_4, m)
else
some (x_4, m)
set_option maxHeartbeats 4000000 in
theorem ol_X12_nextCommand_0 {xs : List Int32} {d : Nat} {Q : QO → QS → Prop} {mb : MM} {rz : Int} {rm : MM}
  (hd : 2 ≤ d)
  (hQ : Ext mb rm → ∀ o S1, Rp S1 rm → q_out 0 o rz → Q o S1) :
  ∀ (n : Nat) {m : MM} {S : QS} {L : QL} {v0 : Value} , Ext mb m → fl_X12_nextCommand_0 n m = some (rz, rm) → Rp S m → q_lo L 0 = some v0 → q_is 2 v0 68 → Go xs d qM_X12_nextCommand 0 L [] S Q := by
  intro n
  induction n with
  | zero => intro m S L v0; intro E h R l0 f0; cases h
  | succ n ih0 =>
    intro m S L v0; intro E h R l0 f0
    have ih : ∀ mq : MM, Ext mb mq → ∀ {Sq : QS} {Lq : QL} {u0 : Value}, fl_X12_nextCommand_0 n mq = some (rz, rm) → Rp Sq mq → q_lo Lq 0 = some u0 → q_is 2 u0 68 → Go xs d qM_X12_nextCommand 0 Lq [] Sq Q := fun mq b => by intros; exact ih0 b ‹_› ‹_› ‹_› ‹_›
    unfold fl_X12_nextCommand_0 at h
    refine go_aload_n (n := 0) (by decide +kernel) l0 f0 ?_
    obtain ⟨x_4, e_5, h⟩ := lx_s h
    refine go_getf (x := 381) (ci := 13) (kf := 116) (fin := 0) (t := 0) (by decide +kernel) (by decide +kernel) (by decide +kernel) R f0 (fx_k (c := 13) R (by decide +kernel)) fun v_1 f_2 => ?_
    have f_3 := q_is_eq f_2 e_5
    refine go_aload_n (n := 0) (by decide +kernel) l0 f0 ?_
    obtain ⟨x_9, e_10, h⟩ := lx_s h
    refine go_getf (x := 384) (ci := 13) (kf := 124) (fin := 0) (t := 0) (by decide +kernel) (by decide +kernel) (by decide +kernel) R f0 (fx_k (c := 13) R (by decide +kernel)) fun v_6 f_7 => ?_
    have f_8 := q_is_eq f_7 e_10
    refine go_icmp (c := .ge) (o := 38) (t := 46) (P := ¬ (x_4 < x_9)) (by decide +kernel) (by decide +kernel) f_3 f_8 (Int.not_lt.symm) (fun hp_11 => ?_) (fun hp_11 => ?_)
    · have h := it_f hp_11 h
      refine go_aload_n (n := 0) (by decide +kernel) l0 f0 ?_
      refine go_getf (x := 381) (ci := 13) (kf := 116) (fin := 0) (t := 0) (by decide +kernel) (by decide +kernel) (by decide +kernel) R f0 (fx_k (c := 13) R (by decide +kernel)) fun v_12 f_13 => ?_
      have f_14 := q_is_eq f_13 e_5
      cases h
      exact go_iret (by decide +kernel) rfl (Or.inl rfl) f_14 (hQ E _ _ R (q_out_v (by decide) f_14))
    · have h := it_n hp_11 h
      refine go_aload_n (n := 0) (by decide +kernel) l0 f0 ?_
      refine go_aload_n (n := 0) (by decide +kernel) l0 f0 ?_
      obtain ⟨x_18, e_19, h⟩ := lx_s h
      refine go_getf (x := 387) (ci := 13) (kf := 88) (fin := 0) (t := 0) (by decide +kernel) (by decide +kernel) (by decide +kernel) R f0 (fx_k (c := 13) R (by decide +kernel)) fun v_15 f_16 => ?_
      have f_17 := q_is_eq f_16 e_19
      refine go_aload_n (n := 0) (by decide +kernel) l0 f0 ?_
      refine go_getf (x := 381) (ci := 13) (kf := 116) (fin := 0) (t := 0) (by decide +kernel) (by decide +kernel) (by decide +kernel) R f0 (fx_k (c := 13) R (by decide +kernel)) fun v_20 f_21 => ?_
      have f_22 := q_is_eq f_21 e_5
      obtain ⟨x_24, hc_23, h⟩ := bp_s h
      refine go_callV (x := 341) (mi := 204) (n := 2) (ci := 13) (as := [v_15, v_20]) (rest := []) (by decide +kernel) (by decide +kernel) rfl rfl (q_sum8 _ (Nat.le_of_ble_eq_true rfl)) R f0 (fx_k (c := 13) R (by decide +kernel)) (om_X12_kindAt (Nat.le_trans (by decide) hd) R f0 f_17 f_22 hc_23) (fun _ S_28 q_31 => ?_) (fun _ _ qq => kr_x qq)
      refine kr_z (by decide) q_31 fun v_26 f_27 R_29 E_30 => ?_
      refine go_bipush (n := 8) (z := 8) (by decide +kernel) (by decide) fun v_32 f_33 => ?_
      refine go_bipush (n := 16) (z := 16) (by decide +kernel) (by decide) fun v_34 f_35 => ?_
      obtain ⟨x_37, hc_36, h⟩ := bp_s h
      refine go_callS (x := 306) (mi := 188) (n := 3) (b := 0) (as := [v_26, v_32, v_34]) (rest := []) (by decide +kernel) (by decide +kernel) rfl rfl (q_sum8 _ (Nat.le_of_ble_eq_true rfl)) (om_X12_isIn (Nat.le_trans (by decide) hd) R_29 f_27 f_33 f_35 hc_36) (fun _ S_41 q_44 => ?_) (fun _ _ qq => kr_x qq)
      refine kr_z (by decide) q_44 fun v_39 f_40 R_42 E_43 => ?_
      refine go_if (c := .ne) (o := 16) (t := 46) (P := ¬ (x_37 = 0)) (by decide +kernel) (by decide +kernel) f_40 (Iff.rfl) (fun hp_45 => ?_) (fun hp_45 => ?_)
      · have h := it_f hp_45 h
        refine go_aload_n (n := 0) (by decide +kernel) l0 f0 ?_
        refine go_getf (x := 381) (ci := 13) (kf := 116) (fin := 0) (t := 0) (by decide +kernel) (by decide +kernel) (by decide +kernel) R_42 f0 (fx_k (c := 13) R_42 (by decide +kernel)) fun v_46 f_47 => ?_
        have f_48 := q_is_eq f_47 e_5
        cases h
        exact go_iret (by decide +kernel) rfl (Or.inl rfl) f_48 (hQ E _ _ R_42 (q_out_v (by decide) f_48))
      · have h := it_n hp_45 h
        refine go_aload_n (n := 0) (by decide +kernel) l0 f0 ?_
        refine go_dup (by decide +kernel) f0 (Or.inr rfl) ?_
        refine go_getf (x := 381) (ci := 13) (kf := 116) (fin := 0) (t := 0) (by decide +kernel) (by decide +kernel) (by decide +kernel) R_42 f0 (fx_k (c := 13) R_42 (by decide +kernel)) fun v_49 f_50 => ?_
        have f_51 := q_is_eq f_50 e_5
        refine go_iconst (n := 1) (z := 1) (by decide +kernel) (by decide) fun v_52 f_53 => ?_
        refine go_iadd (by decide +kernel) f_51 f_53 fun v_54 f_55 => ?_
        obtain ⟨m_56, e_57, h⟩ := up_s h
        refine go_putf (x := 381) (ci := 13) (kf := 116) (fin := 0) (zt := 0) (by decide +kernel) (by decide +kernel) (by decide) (by decide +kernel) (by decide) (Or.inl rfl) R_42 f0 f_55 (fun hq => absurd hq (by decide)) (fx_k (c := 13) R_42 (by decide +kernel)) e_57 (fx_f (j := 116) R_42.2 (fx_k (c := 13) R_42 (by decide +kernel)) (by decide +kernel)) fun S_58 R_59 E_60 => ?_
        have E_62 := Ext.tr E E_60
        refine go_goto (o := (-43)) (t := 0) (by decide +kernel) (by decide +kernel) ?_
        exact ih m_56 E_62 h R_59 l0 f0
noncomputable def fm_X12_nextCommand (m0 : MM) : Option (Int × MM) := fl_X12_nextCommand_0   BIG m0
set_option maxHeartbeats 4000000 in
theorem om_X12_nextCommand {xs : List Int32} {d : Nat} {S : QS} {m0 : MM} {v0 : Value} {rz : Int} {rm : MM}
  (hd : 3 ≤ d) (R : Rp S m0) (f0 : q_is 2 v0 68)
  (h : fm_X12_nextCommand m0 = some (rz, rm)) : Mt xs d 219 [v0] S (Cr 0 m0 rm rz) := by
  obtain ⟨d, rfl⟩ : ∃ e, d = e + 1 := ⟨d - 1, by omega⟩
  have hd : 2 ≤ d := Nat.le_of_succ_le_succ hd
  refine Mt.of (M := qM_X12_nextCommand) rfl (by rw [sl_1 (q_is_cat f0 (Or.inr rfl)), sl_0]; decide) ?_
  rw [la_1 (q_is_cat f0 (Or.inr rfl)), la_0]
  obtain ⟨L, hL⟩ : ∃ L : QL, L = [(0, v0)] := ⟨_, rfl⟩
  rw [← hL]
  have l0 : q_lo L 0 = some v0 := by rw [hL]; rfl
  have hQ : Ext m0 rm → ∀ o S1, Rp S1 rm → q_out 0 o rz → (Cr 0 m0 rm rz) o S1 := fun a o S1 b e => ⟨b, a, e⟩
  unfold fm_X12_nextCommand at h
  refine ol_X12_nextCommand_0 hd   hQ BIG (Ext.rf _) h R l0 f0
noncomputable def fl_X12_nextLater_0 : Nat → MM → Option (Int × MM)
  | 0, _ => none
  | n + 1, m => lx (m 68 125) fun x_4 =>
lx (m 68 88) fun x_12 =>
gd (0 ≤ x_12 ∧ x_12 < 30) <| lx (m 86 x_12) fun x_18 =>
if x_4 < x_18 then
bp (fm_X12_kindAt x_12 x_4 m) fun x_31 =>
bp (fm_X12_isIn x_31 8 16 m) fun x_44 =>
if x_44 = 0 then
up m 68 125 (w32 (x_4 + 1)) fun m_63 =>
fl_X12_nextLater_0 n m_63
else
some (x_4, m)
else
some (x_4, m)
set_option maxHeartbeats 4000000 in
theorem ol_X12_nextLater_0 {xs : List Int32} {d : Nat} {Q : QO → QS → Prop} {mb : MM} {rz : Int} {rm : MM}
  (hd : 2 ≤ d)
  (hQ : Ext mb rm → ∀ o S1, Rp S1 rm → q_out 0 o rz → Q o S1) :
  ∀ (n : Nat) {m : MM} {S : QS} {L : QL} {v0 : Value} , Ext mb m → fl_X12_nextLater_0 n m = some (rz, rm) → Rp S m → q_lo L 0 = some v0 → q_is 2 v0 68 → Go xs d qM_X12_nextLater 0 L [] S Q := by
  intro n
  induction n with
  | zero => intro m S L v0; intro E h R l0 f0; cases h
  | succ n ih0 =>
    intro m S L v0; intro E h R l0 f0
    have ih : ∀ mq : MM, Ext mb mq → ∀ {Sq : QS} {Lq : QL} {u0 : Value}, fl_X12_nextLater_0 n mq = some (rz, rm) → Rp Sq mq → q_lo Lq 0 = some u0 → q_is 2 u0 68 → Go xs d qM_X12_nextLater 0 Lq [] Sq Q := fun mq b => by intros; exact ih0 b ‹_› ‹_› ‹_› ‹_›
    unfold fl_X12_nextLater_0 at h
    refine go_aload_n (n := 0) (by decide +kernel) l0 f0 ?_
    obtain ⟨x_4, e_5, h⟩ := lx_s h
    refine go_getf (x := 390) (ci := 13) (kf := 125) (fin := 0) (t := 0) (by decide +kernel) (by decide +kernel) (by decide +kernel) R f0 (fx_k (c := 13) R (by decide +kernel)) fun v_1 f_2 => ?_
    have f_3 := q_is_eq f_2 e_5
    refine go_aload_n (n := 0) (by decide +kernel) l0 f0 ?_
    refine go_getf (x := 61) (ci := 13) (kf := 19) (fin := 1) (t := 2) (by decide +kernel) (by decide +kernel) (by decide +kernel) R f0 (fx_k (c := 13) R (by decide +kernel)) fun v_6 f_7 => ?_
    have f_8 := q_is_eq (b := 86) f_7 (fx_v R (by decide +kernel)).symm
    refine go_aload_n (n := 0) (by decide +kernel) l0 f0 ?_
    obtain ⟨x_12, e_13, h⟩ := lx_s h
    refine go_getf (x := 387) (ci := 13) (kf := 88) (fin := 0) (t := 0) (by decide +kernel) (by decide +kernel) (by decide +kernel) R f0 (fx_k (c := 13) R (by decide +kernel)) fun v_9 f_10 => ?_
    have f_11 := q_is_eq f_10 e_13
    obtain ⟨g_16, h⟩ := gd_s h
    obtain ⟨x_18, e_19, h⟩ := lx_s h
    refine go_iald (kd := 100) (by decide +kernel) rfl R f_8 f_11 (fx_k (c := 100) R (by decide +kernel)) (fx_x (a := 86) (ln := 30) R (by decide +kernel) g_16) fun v_14 f_15 => ?_
    have f_17 := q_is_eq f_15 e_19
    refine go_icmp (c := .ge) (o := 38) (t := 51) (P := ¬ (x_4 < x_18)) (by decide +kernel) (by decide +kernel) f_3 f_17 (Int.not_lt.symm) (fun hp_20 => ?_) (fun hp_20 => ?_)
    · have h := it_f hp_20 h
      refine go_aload_n (n := 0) (by decide +kernel) l0 f0 ?_
      refine go_getf (x := 390) (ci := 13) (kf := 125) (fin := 0) (t := 0) (by decide +kernel) (by decide +kernel) (by decide +kernel) R f0 (fx_k (c := 13) R (by decide +kernel)) fun v_21 f_22 => ?_
      have f_23 := q_is_eq f_22 e_5
      cases h
      exact go_iret (by decide +kernel) rfl (Or.inl rfl) f_23 (hQ E _ _ R (q_out_v (by decide) f_23))
    · have h := it_n hp_20 h
      refine go_aload_n (n := 0) (by decide +kernel) l0 f0 ?_
      refine go_aload_n (n := 0) (by decide +kernel) l0 f0 ?_
      refine go_getf (x := 387) (ci := 13) (kf := 88) (fin := 0) (t := 0) (by decide +kernel) (by decide +kernel) (by decide +kernel) R f0 (fx_k (c := 13) R (by decide +kernel)) fun v_24 f_25 => ?_
      have f_26 := q_is_eq f_25 e_13
      refine go_aload_n (n := 0) (by decide +kernel) l0 f0 ?_
      refine go_getf (x := 390) (ci := 13) (kf := 125) (fin := 0) (t := 0) (by decide +kernel) (by decide +kernel) (by decide +kernel) R f0 (fx_k (c := 13) R (by decide +kernel)) fun v_27 f_28 => ?_
      have f_29 := q_is_eq f_28 e_5
      obtain ⟨x_31, hc_30, h⟩ := bp_s h
      refine go_callV (x := 341) (mi := 204) (n := 2) (ci := 13) (as := [v_24, v_27]) (rest := []) (by decide +kernel) (by decide +kernel) rfl rfl (q_sum8 _ (Nat.le_of_ble_eq_true rfl)) R f0 (fx_k (c := 13) R (by decide +kernel)) (om_X12_kindAt (Nat.le_trans (by decide) hd) R f0 f_26 f_29 hc_30) (fun _ S_35 q_38 => ?_) (fun _ _ qq => kr_x qq)
      refine kr_z (by decide) q_38 fun v_33 f_34 R_36 E_37 => ?_
      refine go_bipush (n := 8) (z := 8) (by decide +kernel) (by decide) fun v_39 f_40 => ?_
      refine go_bipush (n := 16) (z := 16) (by decide +kernel) (by decide) fun v_41 f_42 => ?_
      obtain ⟨x_44, hc_43, h⟩ := bp_s h
      refine go_callS (x := 306) (mi := 188) (n := 3) (b := 0) (as := [v_33, v_39, v_41]) (rest := []) (by decide +kernel) (by decide +kernel) rfl rfl (q_sum8 _ (Nat.le_of_ble_eq_true rfl)) (om_X12_isIn (Nat.le_trans (by decide) hd) R_36 f_34 f_40 f_42 hc_43) (fun _ S_48 q_51 => ?_) (fun _ _ qq => kr_x qq)
      refine kr_z (by decide) q_51 fun v_46 f_47 R_49 E_50 => ?_
      refine go_if (c := .ne) (o := 16) (t := 51) (P := ¬ (x_44 = 0)) (by decide +kernel) (by decide +kernel) f_47 (Iff.rfl) (fun hp_52 => ?_) (fun hp_52 => ?_)
      · have h := it_f hp_52 h
        refine go_aload_n (n := 0) (by decide +kernel) l0 f0 ?_
        refine go_getf (x := 390) (ci := 13) (kf := 125) (fin := 0) (t := 0) (by decide +kernel) (by decide +kernel) (by decide +kernel) R_49 f0 (fx_k (c := 13) R_49 (by decide +kernel)) fun v_53 f_54 => ?_
        have f_55 := q_is_eq f_54 e_5
        cases h
        exact go_iret (by decide +kernel) rfl (Or.inl rfl) f_55 (hQ E _ _ R_49 (q_out_v (by decide) f_55))
      · have h := it_n hp_52 h
        refine go_aload_n (n := 0) (by decide +kernel) l0 f0 ?_
        refine go_dup (by decide +kernel) f0 (Or.inr rfl) ?_
        refine go_getf (x := 390) (ci := 13) (kf := 125) (fin := 0) (t := 0) (by decide +kernel) (by decide +kernel) (by decide +kernel) R_49 f0 (fx_k (c := 13) R_49 (by decide +kernel)) fun v_56 f_57 => ?_
        have f_58 := q_is_eq f_57 e_5
        refine go_iconst (n := 1) (z := 1) (by decide +kernel) (by decide) fun v_59 f_60 => ?_
        refine go_iadd (by decide +kernel) f_58 f_60 fun v_61 f_62 => ?_
        obtain ⟨m_63, e_64, h⟩ := up_s h
        refine go_putf (x := 390) (ci := 13) (kf := 125) (fin := 0) (zt := 0) (by decide +kernel) (by decide +kernel) (by decide) (by decide +kernel) (by decide) (Or.inl rfl) R_49 f0 f_62 (fun hq => absurd hq (by decide)) (fx_k (c := 13) R_49 (by decide +kernel)) e_64 (fx_f (j := 125) R_49.2 (fx_k (c := 13) R_49 (by decide +kernel)) (by decide +kernel)) fun S_65 R_66 E_67 => ?_
        have E_69 := Ext.tr E E_67
        refine go_goto (o := (-48)) (t := 0) (by decide +kernel) (by decide +kernel) ?_
        exact ih m_63 E_69 h R_66 l0 f0
noncomputable def fm_X12_nextLater (m0 : MM) : Option (Int × MM) := fl_X12_nextLater_0   BIG m0
set_option maxHeartbeats 4000000 in
theorem om_X12_nextLater {xs : List Int32} {d : Nat} {S : QS} {m0 : MM} {v0 : Value} {rz : Int} {rm : MM}
  (hd : 3 ≤ d) (R : Rp S m0) (f0 : q_is 2 v0 68)
  (h : fm_X12_nextLater m0 = some (rz, rm)) : Mt xs d 220 [v0] S (Cr 0 m0 rm rz) := by
  obtain ⟨d, rfl⟩ : ∃ e, d = e + 1 := ⟨d - 1, by omega⟩
  have hd : 2 ≤ d := Nat.le_of_succ_le_succ hd
  refine Mt.of (M := qM_X12_nextLater) rfl (by rw [sl_1 (q_is_cat f0 (Or.inr rfl)), sl_0]; decide) ?_
  rw [la_1 (q_is_cat f0 (Or.inr rfl)), la_0]
  obtain ⟨L, hL⟩ : ∃ L : QL, L = [(0, v0)] := ⟨_, rfl⟩
  rw [← hL]
  have l0 : q_lo L 0 = some v0 := by rw [hL]; rfl
  have hQ : Ext m0 rm → ∀ o S1, Rp S1 rm → q_out 0 o rz → (Cr 0 m0 rm rz) o S1 := fun a o S1 b e => ⟨b, a, e⟩
  unfold fm_X12_nextLater at h
  refine ol_X12_nextLater_0 hd   hQ BIG (Ext.rf _) h R l0 f0
noncomputable def fl_X12_firstTask_2 (m0 : MM) : Nat → Int → Option Int
  | 0, _ => none
  | n + 1, y1 => lx (m0 68 88) fun x_10 =>
bp (fm_X12_kindAt x_10 y1 m0) fun x_13 =>
if x_13 = 17 then
bp (fm_X12_xAt x_10 y1 m0) fun x_37 =>
lx (m0 68 117) fun x_48 =>
if x_37 < x_48 then
lx (w32 (y1 + 1)) fun x_56 =>
fl_X12_firstTask_2 m0 n x_56
else
some y1
else
lx (w32 (y1 + 1)) fun x_29 =>
fl_X12_firstTask_2 m0 n x_29
set_option maxHeartbeats 4000000 in
theorem ol_X12_firstTask_2 {xs : List Int32} {d : Nat} {Q : QO → QS → Prop} {m0 : MM} {rz : Int}
  (hd : 2 ≤ d)
  (hQ : ∀ o S1, Rp S1 m0 → q_out 0 o rz → Q o S1) :
  ∀ (n : Nat) {S : QS} {L : QL} {y1 : Int} {v0 : Value} {v1 : Value} , fl_X12_firstTask_2 m0 n y1 = some rz → Rp S m0 → q_lo L 0 = some v0 → q_is 2 v0 68 → q_lo L 1 = some v1 → q_is 0 v1 y1 → Go xs d qM_X12_firstTask 2 L [] S Q := by
  intro n
  induction n with
  | zero => intro S L y1 v0 v1; intro h R l0 f0 l1 f1; cases h
  | succ n ih0 =>
    intro S L y1 v0 v1; intro h R l0 f0 l1 f1
    have ih : ∀ {z1 : Int} {Sq : QS} {Lq : QL} {u0 : Value} {u1 : Value}, fl_X12_firstTask_2 m0 n z1 = some rz → Rp Sq m0 → q_lo Lq 0 = some u0 → q_is 2 u0 68 → q_lo Lq 1 = some u1 → q_is 0 u1 z1 → Go xs d qM_X12_firstTask 2 Lq [] Sq Q := by intros; exact ih0 ‹_› ‹_› ‹_› ‹_› ‹_› ‹_›
    unfold fl_X12_firstTask_2 at h
    refine go_aload_n (n := 0) (by decide +kernel) l0 f0 ?_
    refine go_aload_n (n := 0) (by decide +kernel) l0 f0 ?_
    obtain ⟨x_10, e_11, h⟩ := lx_s h
    refine go_getf (x := 387) (ci := 13) (kf := 88) (fin := 0) (t := 0) (by decide +kernel) (by decide +kernel) (by decide +kernel) R f0 (fx_k (c := 13) R (by decide +kernel)) fun v_7 f_8 => ?_
    have f_9 := q_is_eq f_8 e_11
    refine go_iload_n (n := 1) (by decide +kernel) l1 f1 ?_
    obtain ⟨x_13, hc_12, h⟩ := bp_s h
    refine go_callV (x := 341) (mi := 204) (n := 2) (ci := 13) (as := [v_7, v1]) (rest := []) (by decide +kernel) (by decide +kernel) rfl rfl (q_sum8 _ (Nat.le_of_ble_eq_true rfl)) R f0 (fx_k (c := 13) R (by decide +kernel)) (om_X12_kindAt (Nat.le_trans (by decide) hd) R f0 f_9 f1 hc_12) (fun _ S_17 q_20 => ?_) (fun _ _ qq => kr_x qq)
    refine kr_z (by decide) q_20 fun v_15 f_16 R_18 E_19 => ?_
    refine go_bipush (n := 17) (z := 17) (by decide +kernel) (by decide) fun v_21 f_22 => ?_
    refine go_icmp (c := .ne) (o := 19) (t := 32) (P := ¬ (x_13 = 17)) (by decide +kernel) (by decide +kernel) f_16 f_22 (Iff.rfl) (fun hp_23 => ?_) (fun hp_23 => ?_)
    · have h := it_f hp_23 h
      refine go_iinc (n := 1) (c := 1) (c' := 1) (by decide +kernel) (by decide +kernel) l1 f1 (by decide) fun L_24 v_25 f_26 l_27 kp_28 => ?_
      obtain ⟨x_29, e_30, h⟩ := lx_s h
      have f_31 := q_is_eq f_26 e_30
      have l_32 := kp_28 0 _ l0 (by decide) (Or.inr (q_is_cat f0 (Or.inr rfl)))
      refine go_goto (o := (-33)) (t := 2) (by decide +kernel) (by decide +kernel) ?_
      exact ih h R_18 l_32 f0 l_27 f_31
    · have h := it_n hp_23 h
      refine go_aload_n (n := 0) (by decide +kernel) l0 f0 ?_
      refine go_aload_n (n := 0) (by decide +kernel) l0 f0 ?_
      refine go_getf (x := 387) (ci := 13) (kf := 88) (fin := 0) (t := 0) (by decide +kernel) (by decide +kernel) (by decide +kernel) R_18 f0 (fx_k (c := 13) R_18 (by decide +kernel)) fun v_33 f_34 => ?_
      have f_35 := q_is_eq f_34 e_11
      refine go_iload_n (n := 1) (by decide +kernel) l1 f1 ?_
      obtain ⟨x_37, hc_36, h⟩ := bp_s h
      refine go_callV (x := 344) (mi := 206) (n := 2) (ci := 13) (as := [v_33, v1]) (rest := []) (by decide +kernel) (by decide +kernel) rfl rfl (q_sum8 _ (Nat.le_of_ble_eq_true rfl)) R_18 f0 (fx_k (c := 13) R_18 (by decide +kernel)) (om_X12_xAt (Nat.le_trans (by decide) hd) R_18 f0 f_35 f1 hc_36) (fun _ S_41 q_44 => ?_) (fun _ _ qq => kr_x qq)
      refine kr_z (by decide) q_44 fun v_39 f_40 R_42 E_43 => ?_
      refine go_aload_n (n := 0) (by decide +kernel) l0 f0 ?_
      obtain ⟨x_48, e_49, h⟩ := lx_s h
      refine go_getf (x := 404) (ci := 13) (kf := 117) (fin := 0) (t := 0) (by decide +kernel) (by decide +kernel) (by decide +kernel) R_42 f0 (fx_k (c := 13) R_42 (by decide +kernel)) fun v_45 f_46 => ?_
      have f_47 := q_is_eq f_46 e_49
      refine go_icmp (c := .ge) (o := 9) (t := 38) (P := ¬ (x_37 < x_48)) (by decide +kernel) (by decide +kernel) f_40 f_47 (Int.not_lt.symm) (fun hp_50 => ?_) (fun hp_50 => ?_)
      · have h := it_f hp_50 h
        refine go_iload_n (n := 1) (by decide +kernel) l1 f1 ?_
        cases h
        exact go_iret (by decide +kernel) rfl (Or.inl rfl) f1 (hQ _ _ R_42 (q_out_v (by decide) f1))
      · have h := it_n hp_50 h
        refine go_iinc (n := 1) (c := 1) (c' := 1) (by decide +kernel) (by decide +kernel) l1 f1 (by decide) fun L_51 v_52 f_53 l_54 kp_55 => ?_
        obtain ⟨x_56, e_57, h⟩ := lx_s h
        have f_58 := q_is_eq f_53 e_57
        have l_59 := kp_55 0 _ l0 (by decide) (Or.inr (q_is_cat f0 (Or.inr rfl)))
        refine go_goto (o := (-33)) (t := 2) (by decide +kernel) (by decide +kernel) ?_
        exact ih h R_42 l_59 f0 l_54 f_58
noncomputable def fm_X12_firstTask (m0 : MM) : Option Int := fl_X12_firstTask_2 m0  BIG 0
set_option maxHeartbeats 4000000 in
theorem om_X12_firstTask {xs : List Int32} {d : Nat} {S : QS} {m0 : MM} {v0 : Value} {rz : Int}
  (hd : 3 ≤ d) (R : Rp S m0) (f0 : q_is 2 v0 68)
  (h : fm_X12_firstTask m0 = some rz) : Mt xs d 222 [v0] S (Cr 0 m0 m0 rz) := by
  obtain ⟨d, rfl⟩ : ∃ e, d = e + 1 := ⟨d - 1, by omega⟩
  have hd : 2 ≤ d := Nat.le_of_succ_le_succ hd
  refine Mt.of (M := qM_X12_firstTask) rfl (by rw [sl_1 (q_is_cat f0 (Or.inr rfl)), sl_0]; decide) ?_
  rw [la_1 (q_is_cat f0 (Or.inr rfl)), la_0]
  obtain ⟨L, hL⟩ : ∃ L : QL, L = [(0, v0)] := ⟨_, rfl⟩
  rw [← hL]
  have l0 : q_lo L 0 = some v0 := by rw [hL]; rfl
  have hQ : ∀ o S1, Rp S1 m0 → q_out 0 o rz → (Cr 0 m0 m0 rz) o S1 := fun o S1 a b => ⟨a, Ext.rf _, b⟩
  unfold fm_X12_firstTask at h
  refine go_iconst (n := 0) (z := 0) (by decide +kernel) (by decide) fun v_1 f_2 => ?_
  refine go_istore_n (n := 1) (by decide +kernel) (by decide +kernel) f_2 fun L_3 l_4 kp_5 => ?_
  have l_6 := kp_5 0 _ l0 (by decide) (Or.inr (q_is_cat f0 (Or.inr rfl)))
  refine ol_X12_firstTask_2 hd   hQ BIG h R l_6 f0 l_4 f_2
noncomputable def fj_X12_commands_63 (y4 : Int) (m : MM) : Option (Int × MM) := up m 68 116 (w32 (y4 + 1)) fun m_222 =>
some (y4, m_222)
set_option maxHeartbeats 4000000 in
theorem oj_X12_commands_63 {xs : List Int32} {d : Nat} {S : QS} {L : QL} {Q : QO → QS → Prop} {m : MM} {y4 : Int} {v0 : Value} {v4 : Value}  {rz : Int} {rm : MM}
  (hd : 3 ≤ d) (R : Rp S m) (l0 : q_lo L 0 = some v0) (f0 : q_is 2 v0 68) (l4 : q_lo L 4 = some v4) (f4 : q_is 0 v4 y4)
  (hQ : Ext m rm → ∀ o S1, Rp S1 rm → q_out 0 o rz → Q o S1)
  (h : fj_X12_commands_63 y4 m = some (rz, rm)) : Go xs d qM_X12_commands 63 L [] S Q := by
  unfold fj_X12_commands_63 at h
  refine go_aload_n (n := 0) (by decide +kernel) l0 f0 ?_
  refine go_iload (n := 4) (by decide +kernel) l4 f4 ?_
  refine go_iconst (n := 1) (z := 1) (by decide +kernel) (by decide) fun v_218 f_219 => ?_
  refine go_iadd (by decide +kernel) f4 f_219 fun v_220 f_221 => ?_
  obtain ⟨m_222, e_223, h⟩ := up_s h
  refine go_putf (x := 381) (ci := 13) (kf := 116) (fin := 0) (zt := 0) (by decide +kernel) (by decide +kernel) (by decide) (by decide +kernel) (by decide) (Or.inl rfl) R f0 f_221 (fun hq => absurd hq (by decide)) (fx_k (c := 13) R (by decide +kernel)) e_223 (fx_f (j := 116) R.2 (fx_k (c := 13) R (by decide +kernel)) (by decide +kernel)) fun S_224 R_225 E_226 => ?_
  have E_228 := E_226
  refine go_iload (n := 4) (by decide +kernel) l4 f4 ?_
  cases h
  exact go_iret (by decide +kernel) rfl (Or.inl rfl) f4 (hQ E_228 _ _ R_225 (q_out_v (by decide) f4))
noncomputable def fj_X12_commands_57 (y4 : Int) (m : MM) : Option (Int × MM) := bd (fm_X12_differs y4 m) fun x_207 m_208 =>
fj_X12_commands_63 y4 m_208
set_option maxHeartbeats 4000000 in
theorem oj_X12_commands_57 {xs : List Int32} {d : Nat} {S : QS} {L : QL} {Q : QO → QS → Prop} {m : MM} {y4 : Int} {v0 : Value} {v4 : Value}  {rz : Int} {rm : MM}
  (hd : 3 ≤ d) (R : Rp S m) (l0 : q_lo L 0 = some v0) (f0 : q_is 2 v0 68) (l4 : q_lo L 4 = some v4) (f4 : q_is 0 v4 y4)
  (hQ : Ext m rm → ∀ o S1, Rp S1 rm → q_out 0 o rz → Q o S1)
  (h : fj_X12_commands_57 y4 m = some (rz, rm)) : Go xs d qM_X12_commands 57 L [] S Q := by
  unfold fj_X12_commands_57 at h
  refine go_aload_n (n := 0) (by decide +kernel) l0 f0 ?_
  refine go_iload (n := 4) (by decide +kernel) l4 f4 ?_
  obtain ⟨x_207, m_208, hc_206, h⟩ := bd_s h
  refine go_callV (x := 400) (mi := 218) (n := 1) (ci := 13) (as := [v4]) (rest := []) (by decide +kernel) (by decide +kernel) rfl rfl (q_sum8 _ (Nat.le_of_ble_eq_true rfl)) R f0 (fx_k (c := 13) R (by decide +kernel)) (om_X12_differs (Nat.le_trans (by decide) hd) R f0 f4 hc_206) (fun _ S_211 q_214 => ?_) (fun _ _ qq => kr_x qq)
  refine kr_v q_214 fun R_212 E_213 => ?_
  have E_217 := E_213
  exact oj_X12_commands_63 hd R_212 l0 f0 l4 f4 (fun b => hQ (Ext.tr E_217 b)) h
noncomputable def fm_X12_commands (p1 p2 p3 : Int) (m0 : MM) : Option (Int × MM) := bd (fm_X12_nextCommand m0) fun x_2 m_3 =>
lx (m_3 68 124) fun x_23 =>
if x_2 < x_23 then
lx (m_3 68 88) fun x_194 =>
bp (fm_X12_kindAt x_194 x_2 m_3) fun x_197 =>
if x_197 = p1 then
bp (fm_X12_xAt x_194 x_2 m_3) fun x_233 =>
if x_233 = p2 then
bp (fm_X12_yAt x_194 x_2 m_3) fun x_246 =>
if x_246 = p3 then
fj_X12_commands_63 x_2 m_3
else
fj_X12_commands_57 x_2 m_3
else
fj_X12_commands_57 x_2 m_3
else
fj_X12_commands_57 x_2 m_3
else
lx (m_3 68 117) fun x_29 =>
lx (m_3 68 119) fun x_34 =>
if x_34 < x_29 then
bd (fm_X12_nextLater m_3) fun x_38 m_39 =>
lx (m_39 68 88) fun x_55 =>
gd (0 ≤ x_55 ∧ x_55 < 30) <| lx (m_39 86 x_55) fun x_61 =>
if x_38 < x_61 then
lx (m_39 68 125) fun x_146 =>
up m_39 68 125 (w32 (x_146 + 1)) fun m_152 =>
lx (m_152 68 125) fun x_162 =>
some (w32 (x_162 - 1), m_152)
else
lx (m_39 68 120) fun x_70 =>
gd (0 ≤ x_70 ∧ x_70 < 65536) <| up m_39 158 x_70 (w32 ((w32 (1000 * p1)) + p3)) fun m_79 =>
lx (m_79 68 120) fun x_92 =>
gd (0 ≤ x_92 ∧ x_92 < 65536) <| up m_79 159 x_92 p2 fun m_95 =>
lx (m_95 68 120) fun x_105 =>
up m_95 68 120 (w32 (x_105 + 1)) fun m_111 =>
lx (m_111 68 88) fun x_124 =>
gd (0 ≤ x_124 ∧ x_124 < 30) <| lx (m_111 86 x_124) fun x_130 =>
lx (m_111 68 120) fun x_135 =>
some (w32 ((w32 (x_130 + x_135)) - 1), m_111)
else
bp (fm_X12_firstTask m_3) fun x_169 =>
bd (fm_X12_differs x_169 m_3) fun x_178 m_179 =>
some ((-1), m_179)
set_option maxHeartbeats 4000000 in
theorem om_X12_commands {xs : List Int32} {d : Nat} {S : QS} {m0 : MM} {p1 p2 p3 : Int} {v0 : Value} {v1 : Value} {v2 : Value} {v3 : Value} {rz : Int} {rm : MM}
  (hd : 4 ≤ d) (R : Rp S m0) (f0 : q_is 2 v0 68) (f1 : q_is 0 v1 p1) (f2 : q_is 0 v2 p2) (f3 : q_is 0 v3 p3)
  (h : fm_X12_commands p1 p2 p3 m0 = some (rz, rm)) : Mt xs d 221 [v0, v1, v2, v3] S (Cr 0 m0 rm rz) := by
  obtain ⟨d, rfl⟩ : ∃ e, d = e + 1 := ⟨d - 1, by omega⟩
  have hd : 3 ≤ d := Nat.le_of_succ_le_succ hd
  refine Mt.of (M := qM_X12_commands) rfl (by rw [sl_1 (q_is_cat f0 (Or.inr rfl)), sl_1 (q_is_cat f1 (Or.inl rfl)), sl_1 (q_is_cat f2 (Or.inl rfl)), sl_1 (q_is_cat f3 (Or.inl rfl)), sl_0]; decide) ?_
  rw [la_1 (q_is_cat f0 (Or.inr rfl)), la_1 (q_is_cat f1 (Or.inl rfl)), la_1 (q_is_cat f2 (Or.inl rfl)), la_1 (q_is_cat f3 (Or.inl rfl)), la_0]
  obtain ⟨L, hL⟩ : ∃ L : QL, L = [(0, v0), (0 + 1, v1), (0 + 1 + 1, v2), (0 + 1 + 1 + 1, v3)] := ⟨_, rfl⟩
  rw [← hL]
  have l0 : q_lo L 0 = some v0 := by rw [hL]; rfl
  have l1 : q_lo L 1 = some v1 := by rw [hL]; rfl
  have l2 : q_lo L 2 = some v2 := by rw [hL]; rfl
  have l3 : q_lo L 3 = some v3 := by rw [hL]; rfl
  have hQ : Ext m0 rm → ∀ o S1, Rp S1 rm → q_out 0 o rz → (Cr 0 m0 rm rz) o S1 := fun a o S1 b e => ⟨b, a, e⟩
  unfold fm_X12_commands at h
  refine go_aload_n (n := 0) (by decide +kernel) l0 f0 ?_
  obtain ⟨x_2, m_3, hc_1, h⟩ := bd_s h
  refine go_callV (x := 393) (mi := 219) (n := 0) (ci := 13) (as := []) (rest := []) (by decide +kernel) (by decide +kernel) rfl rfl (q_sum8 _ (Nat.le_of_ble_eq_true rfl)) R f0 (fx_k (c := 13) R (by decide +kernel)) (om_X12_nextCommand (Nat.le_trans (by decide) hd) R f0 hc_1) (fun _ S_6 q_9 => ?_) (fun _ _ qq => kr_x qq)
  refine kr_z (by decide) q_9 fun v_4 f_5 R_7 E_8 => ?_
  have E_12 := E_8
  refine go_istore (n := 4) (by decide +kernel) (by decide +kernel) f_5 fun L_13 l_14 kp_15 => ?_
  have l_16 := kp_15 0 _ l0 (by decide) (Or.inl (by decide))
  have l_17 := kp_15 1 _ l1 (by decide) (Or.inl (by decide))
  have l_18 := kp_15 2 _ l2 (by decide) (Or.inl (by decide))
  have l_19 := kp_15 3 _ l3 (by decide) (Or.inr (q_is_cat f3 (Or.inl rfl)))
  refine go_iload (n := 4) (by decide +kernel) l_14 f_5 ?_
  refine go_aload_n (n := 0) (by decide +kernel) l_16 f0 ?_
  obtain ⟨x_23, e_24, h⟩ := lx_s h
  refine go_getf (x := 384) (ci := 13) (kf := 124) (fin := 0) (t := 0) (by decide +kernel) (by decide +kernel) (by decide +kernel) R_7 f0 (fx_k (c := 13) R_7 (by decide +kernel)) fun v_20 f_21 => ?_
  have f_22 := q_is_eq f_21 e_24
  refine go_icmp (c := .ge) (o := 62) (t := 74) (P := ¬ (x_2 < x_23)) (by decide +kernel) (by decide +kernel) f_5 f_22 (Int.not_lt.symm) (fun hp_25 => ?_) (fun hp_25 => ?_)
  · have h := it_f hp_25 h
    refine go_aload_n (n := 0) (by decide +kernel) l_16 f0 ?_
    obtain ⟨x_29, e_30, h⟩ := lx_s h
    refine go_getf (x := 404) (ci := 13) (kf := 117) (fin := 0) (t := 0) (by decide +kernel) (by decide +kernel) (by decide +kernel) R_7 f0 (fx_k (c := 13) R_7 (by decide +kernel)) fun v_26 f_27 => ?_
    have f_28 := q_is_eq f_27 e_30
    refine go_aload_n (n := 0) (by decide +kernel) l_16 f0 ?_
    obtain ⟨x_34, e_35, h⟩ := lx_s h
    refine go_getf (x := 407) (ci := 13) (kf := 119) (fin := 0) (t := 0) (by decide +kernel) (by decide +kernel) (by decide +kernel) R_7 f0 (fx_k (c := 13) R_7 (by decide +kernel)) fun v_31 f_32 => ?_
    have f_33 := q_is_eq f_32 e_35
    refine go_icmp (c := .gt) (o := 13) (t := 95) (P := x_34 < x_29) (by decide +kernel) (by decide +kernel) f_28 f_33 (Iff.rfl) (fun hp_36 => ?_) (fun hp_36 => ?_)
    · have h := it_t hp_36 h
      refine go_aload_n (n := 0) (by decide +kernel) l_16 f0 ?_
      obtain ⟨x_38, m_39, hc_37, h⟩ := bd_s h
      refine go_callV (x := 413) (mi := 220) (n := 0) (ci := 13) (as := []) (rest := []) (by decide +kernel) (by decide +kernel) rfl rfl (q_sum8 _ (Nat.le_of_ble_eq_true rfl)) R_7 f0 (fx_k (c := 13) R_7 (by decide +kernel)) (om_X12_nextLater (Nat.le_trans (by decide) hd) R_7 f0 hc_37) (fun _ S_42 q_45 => ?_) (fun _ _ qq => kr_x qq)
      refine kr_z (by decide) q_45 fun v_40 f_41 R_43 E_44 => ?_
      have E_48 := Ext.tr E_12 E_44
      refine go_aload_n (n := 0) (by decide +kernel) l_16 f0 ?_
      refine go_getf (x := 61) (ci := 13) (kf := 19) (fin := 1) (t := 2) (by decide +kernel) (by decide +kernel) (by decide +kernel) R_43 f0 (fx_k (c := 13) R_43 (by decide +kernel)) fun v_49 f_50 => ?_
      have f_51 := q_is_eq (b := 86) f_50 (fx_v R_43 (by decide +kernel)).symm
      refine go_aload_n (n := 0) (by decide +kernel) l_16 f0 ?_
      obtain ⟨x_55, e_56, h⟩ := lx_s h
      refine go_getf (x := 387) (ci := 13) (kf := 88) (fin := 0) (t := 0) (by decide +kernel) (by decide +kernel) (by decide +kernel) R_43 f0 (fx_k (c := 13) R_43 (by decide +kernel)) fun v_52 f_53 => ?_
      have f_54 := q_is_eq f_53 e_56
      obtain ⟨g_59, h⟩ := gd_s h
      obtain ⟨x_61, e_62, h⟩ := lx_s h
      refine go_iald (kd := 100) (by decide +kernel) rfl R_43 f_51 f_54 (fx_k (c := 100) R_43 (by decide +kernel)) (fx_x (a := 86) (ln := 30) R_43 (by decide +kernel) g_59) fun v_57 f_58 => ?_
      have f_60 := q_is_eq f_58 e_62
      refine go_icmp (c := .ge) (o := 20) (t := 128) (P := ¬ (x_38 < x_61)) (by decide +kernel) (by decide +kernel) f_41 f_60 (Int.not_lt.symm) (fun hp_63 => ?_) (fun hp_63 => ?_)
      · have h := it_f hp_63 h
        refine go_aload_n (n := 0) (by decide +kernel) l_16 f0 ?_
        refine go_getf (x := 291) (ci := 13) (kf := 121) (fin := 1) (t := 2) (by decide +kernel) (by decide +kernel) (by decide +kernel) R_43 f0 (fx_k (c := 13) R_43 (by decide +kernel)) fun v_64 f_65 => ?_
        have f_66 := q_is_eq (b := 158) f_65 (fx_v R_43 (by decide +kernel)).symm
        refine go_aload_n (n := 0) (by decide +kernel) l_16 f0 ?_
        obtain ⟨x_70, e_71, h⟩ := lx_s h
        refine go_getf (x := 416) (ci := 13) (kf := 120) (fin := 0) (t := 0) (by decide +kernel) (by decide +kernel) (by decide +kernel) R_43 f0 (fx_k (c := 13) R_43 (by decide +kernel)) fun v_67 f_68 => ?_
        have f_69 := q_is_eq f_68 e_71
        refine go_sipush (n := 1000) (z := 1000) (by decide +kernel) (by decide) fun v_72 f_73 => ?_
        refine go_iload_n (n := 1) (by decide +kernel) l_17 f1 ?_
        refine go_imul (by decide +kernel) f_73 f1 fun v_74 f_75 => ?_
        refine go_iload_n (n := 3) (by decide +kernel) l_19 f3 ?_
        refine go_iadd (by decide +kernel) f_75 f3 fun v_76 f_77 => ?_
        obtain ⟨g_78, h⟩ := gd_s h
        obtain ⟨m_79, e_80, h⟩ := up_s h
        refine go_iast (kd := 100) (by decide +kernel) rfl R_43 f_66 f_69 f_77 (fx_k (c := 100) R_43 (by decide +kernel)) (fx_x (a := 158) (ln := 65536) R_43 (by decide +kernel) g_78) e_80 (fx_a R_43.2 (fx_k (c := 100) R_43 (by decide +kernel)) (And.left (fx_x (a := 158) (ln := 65536) R_43 (by decide +kernel) g_78)) (by decide +kernel)) fun S_81 R_82 E_83 => ?_
        have E_85 := Ext.tr E_48 E_83
        refine go_aload_n (n := 0) (by decide +kernel) l_16 f0 ?_
        refine go_getf (x := 294) (ci := 13) (kf := 122) (fin := 1) (t := 2) (by decide +kernel) (by decide +kernel) (by decide +kernel) R_82 f0 (fx_k (c := 13) R_82 (by decide +kernel)) fun v_86 f_87 => ?_
        have f_88 := q_is_eq (b := 159) f_87 (fx_v R_82 (by decide +kernel)).symm
        refine go_aload_n (n := 0) (by decide +kernel) l_16 f0 ?_
        obtain ⟨x_92, e_93, h⟩ := lx_s h
        refine go_getf (x := 416) (ci := 13) (kf := 120) (fin := 0) (t := 0) (by decide +kernel) (by decide +kernel) (by decide +kernel) R_82 f0 (fx_k (c := 13) R_82 (by decide +kernel)) fun v_89 f_90 => ?_
        have f_91 := q_is_eq f_90 e_93
        refine go_iload_n (n := 2) (by decide +kernel) l_18 f2 ?_
        obtain ⟨g_94, h⟩ := gd_s h
        obtain ⟨m_95, e_96, h⟩ := up_s h
        refine go_iast (kd := 100) (by decide +kernel) rfl R_82 f_88 f_91 f2 (fx_k (c := 100) R_82 (by decide +kernel)) (fx_x (a := 159) (ln := 65536) R_82 (by decide +kernel) g_94) e_96 (fx_a R_82.2 (fx_k (c := 100) R_82 (by decide +kernel)) (And.left (fx_x (a := 159) (ln := 65536) R_82 (by decide +kernel) g_94)) (by decide +kernel)) fun S_97 R_98 E_99 => ?_
        have E_101 := Ext.tr E_85 E_99
        refine go_aload_n (n := 0) (by decide +kernel) l_16 f0 ?_
        refine go_dup (by decide +kernel) f0 (Or.inr rfl) ?_
        obtain ⟨x_105, e_106, h⟩ := lx_s h
        refine go_getf (x := 416) (ci := 13) (kf := 120) (fin := 0) (t := 0) (by decide +kernel) (by decide +kernel) (by decide +kernel) R_98 f0 (fx_k (c := 13) R_98 (by decide +kernel)) fun v_102 f_103 => ?_
        have f_104 := q_is_eq f_103 e_106
        refine go_iconst (n := 1) (z := 1) (by decide +kernel) (by decide) fun v_107 f_108 => ?_
        refine go_iadd (by decide +kernel) f_104 f_108 fun v_109 f_110 => ?_
        obtain ⟨m_111, e_112, h⟩ := up_s h
        refine go_putf (x := 416) (ci := 13) (kf := 120) (fin := 0) (zt := 0) (by decide +kernel) (by decide +kernel) (by decide) (by decide +kernel) (by decide) (Or.inl rfl) R_98 f0 f_110 (fun hq => absurd hq (by decide)) (fx_k (c := 13) R_98 (by decide +kernel)) e_112 (fx_f (j := 120) R_98.2 (fx_k (c := 13) R_98 (by decide +kernel)) (by decide +kernel)) fun S_113 R_114 E_115 => ?_
        have E_117 := Ext.tr E_101 E_115
        refine go_aload_n (n := 0) (by decide +kernel) l_16 f0 ?_
        refine go_getf (x := 61) (ci := 13) (kf := 19) (fin := 1) (t := 2) (by decide +kernel) (by decide +kernel) (by decide +kernel) R_114 f0 (fx_k (c := 13) R_114 (by decide +kernel)) fun v_118 f_119 => ?_
        have f_120 := q_is_eq (b := 86) f_119 (fx_v R_114 (by decide +kernel)).symm
        refine go_aload_n (n := 0) (by decide +kernel) l_16 f0 ?_
        obtain ⟨x_124, e_125, h⟩ := lx_s h
        refine go_getf (x := 387) (ci := 13) (kf := 88) (fin := 0) (t := 0) (by decide +kernel) (by decide +kernel) (by decide +kernel) R_114 f0 (fx_k (c := 13) R_114 (by decide +kernel)) fun v_121 f_122 => ?_
        have f_123 := q_is_eq f_122 e_125
        obtain ⟨g_128, h⟩ := gd_s h
        obtain ⟨x_130, e_131, h⟩ := lx_s h
        refine go_iald (kd := 100) (by decide +kernel) rfl R_114 f_120 f_123 (fx_k (c := 100) R_114 (by decide +kernel)) (fx_x (a := 86) (ln := 30) R_114 (by decide +kernel) g_128) fun v_126 f_127 => ?_
        have f_129 := q_is_eq f_127 e_131
        refine go_aload_n (n := 0) (by decide +kernel) l_16 f0 ?_
        obtain ⟨x_135, e_136, h⟩ := lx_s h
        refine go_getf (x := 416) (ci := 13) (kf := 120) (fin := 0) (t := 0) (by decide +kernel) (by decide +kernel) (by decide +kernel) R_114 f0 (fx_k (c := 13) R_114 (by decide +kernel)) fun v_132 f_133 => ?_
        have f_134 := q_is_eq f_133 e_136
        refine go_iadd (by decide +kernel) f_129 f_134 fun v_137 f_138 => ?_
        refine go_iconst (n := 1) (z := 1) (by decide +kernel) (by decide) fun v_139 f_140 => ?_
        refine go_isub (by decide +kernel) f_138 f_140 fun v_141 f_142 => ?_
        cases h
        exact go_iret (by decide +kernel) rfl (Or.inl rfl) f_142 (hQ E_117 _ _ R_114 (q_out_v (by decide) f_142))
      · have h := it_n hp_63 h
        refine go_aload_n (n := 0) (by decide +kernel) l_16 f0 ?_
        refine go_dup (by decide +kernel) f0 (Or.inr rfl) ?_
        obtain ⟨x_146, e_147, h⟩ := lx_s h
        refine go_getf (x := 390) (ci := 13) (kf := 125) (fin := 0) (t := 0) (by decide +kernel) (by decide +kernel) (by decide +kernel) R_43 f0 (fx_k (c := 13) R_43 (by decide +kernel)) fun v_143 f_144 => ?_
        have f_145 := q_is_eq f_144 e_147
        refine go_iconst (n := 1) (z := 1) (by decide +kernel) (by decide) fun v_148 f_149 => ?_
        refine go_iadd (by decide +kernel) f_145 f_149 fun v_150 f_151 => ?_
        obtain ⟨m_152, e_153, h⟩ := up_s h
        refine go_putf (x := 390) (ci := 13) (kf := 125) (fin := 0) (zt := 0) (by decide +kernel) (by decide +kernel) (by decide) (by decide +kernel) (by decide) (Or.inl rfl) R_43 f0 f_151 (fun hq => absurd hq (by decide)) (fx_k (c := 13) R_43 (by decide +kernel)) e_153 (fx_f (j := 125) R_43.2 (fx_k (c := 13) R_43 (by decide +kernel)) (by decide +kernel)) fun S_154 R_155 E_156 => ?_
        have E_158 := Ext.tr E_48 E_156
        refine go_aload_n (n := 0) (by decide +kernel) l_16 f0 ?_
        obtain ⟨x_162, e_163, h⟩ := lx_s h
        refine go_getf (x := 390) (ci := 13) (kf := 125) (fin := 0) (t := 0) (by decide +kernel) (by decide +kernel) (by decide +kernel) R_155 f0 (fx_k (c := 13) R_155 (by decide +kernel)) fun v_159 f_160 => ?_
        have f_161 := q_is_eq f_160 e_163
        refine go_iconst (n := 1) (z := 1) (by decide +kernel) (by decide) fun v_164 f_165 => ?_
        refine go_isub (by decide +kernel) f_161 f_165 fun v_166 f_167 => ?_
        cases h
        exact go_iret (by decide +kernel) rfl (Or.inl rfl) f_167 (hQ E_158 _ _ R_155 (q_out_v (by decide) f_167))
    · have h := it_f hp_36 h
      refine go_aload_n (n := 0) (by decide +kernel) l_16 f0 ?_
      refine go_aload_n (n := 0) (by decide +kernel) l_16 f0 ?_
      obtain ⟨x_169, hc_168, h⟩ := bp_s h
      refine go_callV (x := 410) (mi := 222) (n := 0) (ci := 13) (as := []) (rest := [v0]) (by decide +kernel) (by decide +kernel) rfl rfl (q_sum8 _ (Nat.le_of_ble_eq_true rfl)) R_7 f0 (fx_k (c := 13) R_7 (by decide +kernel)) (om_X12_firstTask (Nat.le_trans (by decide) hd) R_7 f0 hc_168) (fun _ S_173 q_176 => ?_) (fun _ _ qq => kr_x qq)
      refine kr_z (by decide) q_176 fun v_171 f_172 R_174 E_175 => ?_
      obtain ⟨x_178, m_179, hc_177, h⟩ := bd_s h
      refine go_callV (x := 400) (mi := 218) (n := 1) (ci := 13) (as := [v_171]) (rest := []) (by decide +kernel) (by decide +kernel) rfl rfl (q_sum8 _ (Nat.le_of_ble_eq_true rfl)) R_174 f0 (fx_k (c := 13) R_174 (by decide +kernel)) (om_X12_differs (Nat.le_trans (by decide) hd) R_174 f0 f_172 hc_177) (fun _ S_182 q_185 => ?_) (fun _ _ qq => kr_x qq)
      refine kr_v q_185 fun R_183 E_184 => ?_
      have E_188 := Ext.tr E_12 E_184
      refine go_iconst (n := (-1)) (z := (-1)) (by decide +kernel) (by decide) fun v_189 f_190 => ?_
      cases h
      exact go_iret (by decide +kernel) rfl (Or.inl rfl) f_190 (hQ E_188 _ _ R_183 (q_out_v (by decide) f_190))
  · have h := it_n hp_25 h
    refine go_aload_n (n := 0) (by decide +kernel) l_16 f0 ?_
    refine go_aload_n (n := 0) (by decide +kernel) l_16 f0 ?_
    obtain ⟨x_194, e_195, h⟩ := lx_s h
    refine go_getf (x := 387) (ci := 13) (kf := 88) (fin := 0) (t := 0) (by decide +kernel) (by decide +kernel) (by decide +kernel) R_7 f0 (fx_k (c := 13) R_7 (by decide +kernel)) fun v_191 f_192 => ?_
    have f_193 := q_is_eq f_192 e_195
    refine go_iload (n := 4) (by decide +kernel) l_14 f_5 ?_
    obtain ⟨x_197, hc_196, h⟩ := bp_s h
    refine go_callV (x := 341) (mi := 204) (n := 2) (ci := 13) (as := [v_191, v_4]) (rest := []) (by decide +kernel) (by decide +kernel) rfl rfl (q_sum8 _ (Nat.le_of_ble_eq_true rfl)) R_7 f0 (fx_k (c := 13) R_7 (by decide +kernel)) (om_X12_kindAt (Nat.le_trans (by decide) hd) R_7 f0 f_193 f_5 hc_196) (fun _ S_201 q_204 => ?_) (fun _ _ qq => kr_x qq)
    refine kr_z (by decide) q_204 fun v_199 f_200 R_202 E_203 => ?_
    refine go_iload_n (n := 1) (by decide +kernel) l_17 f1 ?_
    refine go_icmp (c := .ne) (o := 31) (t := 57) (P := ¬ (x_197 = p1)) (by decide +kernel) (by decide +kernel) f_200 f1 (Iff.rfl) (fun hp_205 => ?_) (fun hp_205 => ?_)
    · have h := it_f hp_205 h
      exact oj_X12_commands_57 hd R_202 l_16 f0 l_14 f_5 (fun b => hQ (Ext.tr E_12 b)) h
    · have h := it_n hp_205 h
      refine go_aload_n (n := 0) (by decide +kernel) l_16 f0 ?_
      refine go_aload_n (n := 0) (by decide +kernel) l_16 f0 ?_
      refine go_getf (x := 387) (ci := 13) (kf := 88) (fin := 0) (t := 0) (by decide +kernel) (by decide +kernel) (by decide +kernel) R_202 f0 (fx_k (c := 13) R_202 (by decide +kernel)) fun v_229 f_230 => ?_
      have f_231 := q_is_eq f_230 e_195
      refine go_iload (n := 4) (by decide +kernel) l_14 f_5 ?_
      obtain ⟨x_233, hc_232, h⟩ := bp_s h
      refine go_callV (x := 344) (mi := 206) (n := 2) (ci := 13) (as := [v_229, v_4]) (rest := []) (by decide +kernel) (by decide +kernel) rfl rfl (q_sum8 _ (Nat.le_of_ble_eq_true rfl)) R_202 f0 (fx_k (c := 13) R_202 (by decide +kernel)) (om_X12_xAt (Nat.le_trans (by decide) hd) R_202 f0 f_231 f_5 hc_232) (fun _ S_237 q_240 => ?_) (fun _ _ qq => kr_x qq)
      refine kr_z (by decide) q_240 fun v_235 f_236 R_238 E_239 => ?_
      refine go_iload_n (n := 2) (by decide +kernel) l_18 f2 ?_
      refine go_icmp (c := .ne) (o := 17) (t := 57) (P := ¬ (x_233 = p2)) (by decide +kernel) (by decide +kernel) f_236 f2 (Iff.rfl) (fun hp_241 => ?_) (fun hp_241 => ?_)
      · have h := it_f hp_241 h
        exact oj_X12_commands_57 hd R_238 l_16 f0 l_14 f_5 (fun b => hQ (Ext.tr E_12 b)) h
      · have h := it_n hp_241 h
        refine go_aload_n (n := 0) (by decide +kernel) l_16 f0 ?_
        refine go_aload_n (n := 0) (by decide +kernel) l_16 f0 ?_
        refine go_getf (x := 387) (ci := 13) (kf := 88) (fin := 0) (t := 0) (by decide +kernel) (by decide +kernel) (by decide +kernel) R_238 f0 (fx_k (c := 13) R_238 (by decide +kernel)) fun v_242 f_243 => ?_
        have f_244 := q_is_eq f_243 e_195
        refine go_iload (n := 4) (by decide +kernel) l_14 f_5 ?_
        obtain ⟨x_246, hc_245, h⟩ := bp_s h
        refine go_callV (x := 397) (mi := 205) (n := 2) (ci := 13) (as := [v_242, v_4]) (rest := []) (by decide +kernel) (by decide +kernel) rfl rfl (q_sum8 _ (Nat.le_of_ble_eq_true rfl)) R_238 f0 (fx_k (c := 13) R_238 (by decide +kernel)) (om_X12_yAt (Nat.le_trans (by decide) hd) R_238 f0 f_244 f_5 hc_245) (fun _ S_250 q_253 => ?_) (fun _ _ qq => kr_x qq)
        refine kr_z (by decide) q_253 fun v_248 f_249 R_251 E_252 => ?_
        refine go_iload_n (n := 3) (by decide +kernel) l_19 f3 ?_
        refine go_icmp (c := .eq) (o := 9) (t := 63) (P := x_246 = p3) (by decide +kernel) (by decide +kernel) f_249 f3 (Iff.rfl) (fun hp_254 => ?_) (fun hp_254 => ?_)
        · have h := it_t hp_254 h
          exact oj_X12_commands_63 hd R_251 l_16 f0 l_14 f_5 (fun b => hQ (Ext.tr E_12 b)) h
        · have h := it_f hp_254 h
          exact oj_X12_commands_57 hd R_251 l_16 f0 l_14 f_5 (fun b => hQ (Ext.tr E_12 b)) h
end DF27
