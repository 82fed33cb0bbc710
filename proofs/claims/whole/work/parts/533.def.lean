/-! Methods as functions (written by wip/whole/dec.py), 33: X12_takes, X12_goesBy, X12_tellsRun. -/
section DF33
noncomputable def fj_X12_takes_126 (m : MM) : Option (Int × MM) := bp (fm_X12_goes m) fun x_97 =>
if x_97 = 0 then
some (0, m)
else
bd (fm_X12_goOn m) fun x_107 m_108 =>
some (0, m_108)
set_option maxHeartbeats 4000000 in
theorem oj_X12_takes_126 {xs : List Int32} {d : Nat} {S : QS} {L : QL} {Q : QO → QS → Prop} {m : MM} {v0 : Value}  {rz : Int} {rm : MM}
  (hd : 12 ≤ d) (R : Rp S m) (l0 : q_lo L 0 = some v0) (f0 : q_is 2 v0 68)
  (hQ : Ext m rm → ∀ o S1, Rp S1 rm → q_out 9 o rz → Q o S1)
  (h : fj_X12_takes_126 m = some (rz, rm)) : Go xs d qM_X12_takes 126 L [] S Q := by
  unfold fj_X12_takes_126 at h
  refine go_aload_n (n := 0) (by decide +kernel) l0 f0 ?_
  obtain ⟨x_97, hc_96, h⟩ := bp_s h
  refine go_callV (x := 439) (mi := 216) (n := 0) (ci := 13) (as := []) (rest := []) (by decide +kernel) (by decide +kernel) rfl rfl (q_sum8 _ (Nat.le_of_ble_eq_true rfl)) R f0 (fx_k (c := 13) R (by decide +kernel)) (om_X12_goes (Nat.le_trans (by decide) hd) R f0 hc_96) (fun _ S_101 q_104 => ?_) (fun _ _ qq => kr_x qq)
  refine kr_z (by decide) q_104 fun v_99 f_100 R_102 E_103 => ?_
  refine go_if (c := .eq) (o := 7) (t := 137) (P := x_97 = 0) (by decide +kernel) (by decide +kernel) f_100 (Iff.rfl) (fun hp_105 => ?_) (fun hp_105 => ?_)
  · have h := it_t hp_105 h
    cases h
    exact go_vret (by decide +kernel) rfl (hQ (Ext.rf _) _ _ R_102 q_out_n)
  · have h := it_f hp_105 h
    refine go_aload_n (n := 0) (by decide +kernel) l0 f0 ?_
    obtain ⟨x_107, m_108, hc_106, h⟩ := bd_s h
    refine go_callV (x := 530) (mi := 242) (n := 0) (ci := 13) (as := []) (rest := []) (by decide +kernel) (by decide +kernel) rfl rfl (q_sum8 _ (Nat.le_of_ble_eq_true rfl)) R_102 f0 (fx_k (c := 13) R_102 (by decide +kernel)) (om_X12_goOn (Nat.le_trans (by decide) hd) R_102 f0 hc_106) (fun _ S_111 q_114 => ?_) (fun _ _ qq => kr_x qq)
    refine kr_v q_114 fun R_112 E_113 => ?_
    have E_115 := E_113
    cases h
    exact go_vret (by decide +kernel) rfl (hQ E_115 _ _ R_112 q_out_n)
noncomputable def fm_X12_takes (p1 : Int) (m0 : MM) : Option (Int × MM) := lx (m0 68 88) fun x_4 =>
bp (fm_X12_kindAt x_4 p1 m0) fun x_7 =>
bp (fm_X12_xAt x_4 p1 m0) fun x_24 =>
bp (fm_X12_yAt x_4 p1 m0) fun x_42 =>
bp (fm_X12_whenAt x_4 p1 m0) fun x_61 =>
up m0 68 118 (Int.tmod x_61 1000) fun m_73 =>
if x_7 = 0 then
up m_73 142 0 x_24 fun m_174 =>
bd (fm_X12_begins 0 (-1) m_174) fun x_185 m_186 =>
fj_X12_takes_126 m_186
else
if x_7 = 4 then
gd (0 ≤ x_24 ∧ x_24 < 4) <| lx (m_73 155 x_24) fun x_140 =>
gd (0 ≤ w32 ((w32 (2048 * x_24)) + x_140) ∧ w32 ((w32 (2048 * x_24)) + x_140) < 8192) <| up m_73 157 (w32 ((w32 (2048 * x_24)) + x_140)) x_42 fun m_145 =>
lx (m_145 155 x_24) fun x_157 =>
up m_145 155 x_24 (w32 (x_157 + 1)) fun m_163 =>
fj_X12_takes_126 m_163
else
if x_7 = 7 then
bd (fm_X12_isCancelled m_73) fun x_117 m_118 =>
fj_X12_takes_126 m_118
else
bd (fm_X12_comesBack x_7 x_24 x_42 m_73) fun x_87 m_88 =>
fj_X12_takes_126 m_88
set_option maxHeartbeats 4000000 in
theorem om_X12_takes {xs : List Int32} {d : Nat} {S : QS} {m0 : MM} {p1 : Int} {v0 : Value} {v1 : Value} {rz : Int} {rm : MM}
  (hd : 13 ≤ d) (R : Rp S m0) (f0 : q_is 2 v0 68) (f1 : q_is 0 v1 p1)
  (h : fm_X12_takes p1 m0 = some (rz, rm)) : Mt xs d 247 [v0, v1] S (Cr 9 m0 rm rz) := by
  obtain ⟨d, rfl⟩ : ∃ e, d = e + 1 := ⟨d - 1, by omega⟩
  have hd : 12 ≤ d := Nat.le_of_succ_le_succ hd
  refine Mt.of (M := qM_X12_takes) rfl (by rw [sl_1 (q_is_cat f0 (Or.inr rfl)), sl_1 (q_is_cat f1 (Or.inl rfl)), sl_0]; decide) ?_
  rw [la_1 (q_is_cat f0 (Or.inr rfl)), la_1 (q_is_cat f1 (Or.inl rfl)), la_0]
  obtain ⟨L, hL⟩ : ∃ L : QL, L = [(0, v0), (0 + 1, v1)] := ⟨_, rfl⟩
  rw [← hL]
  have l0 : q_lo L 0 = some v0 := by rw [hL]; rfl
  have l1 : q_lo L 1 = some v1 := by rw [hL]; rfl
  have hQ : Ext m0 rm → ∀ o S1, Rp S1 rm → q_out 9 o rz → (Cr 9 m0 rm rz) o S1 := fun a o S1 b e => ⟨b, a, e⟩
  unfold fm_X12_takes at h
  refine go_aload_n (n := 0) (by decide +kernel) l0 f0 ?_
  refine go_aload_n (n := 0) (by decide +kernel) l0 f0 ?_
  obtain ⟨x_4, e_5, h⟩ := lx_s h
  refine go_getf (x := 387) (ci := 13) (kf := 88) (fin := 0) (t := 0) (by decide +kernel) (by decide +kernel) (by decide +kernel) R f0 (fx_k (c := 13) R (by decide +kernel)) fun v_1 f_2 => ?_
  have f_3 := q_is_eq f_2 e_5
  refine go_iload_n (n := 1) (by decide +kernel) l1 f1 ?_
  obtain ⟨x_7, hc_6, h⟩ := bp_s h
  refine go_callV (x := 341) (mi := 204) (n := 2) (ci := 13) (as := [v_1, v1]) (rest := []) (by decide +kernel) (by decide +kernel) rfl rfl (q_sum8 _ (Nat.le_of_ble_eq_true rfl)) R f0 (fx_k (c := 13) R (by decide +kernel)) (om_X12_kindAt (Nat.le_trans (by decide) hd) R f0 f_3 f1 hc_6) (fun _ S_11 q_14 => ?_) (fun _ _ qq => kr_x qq)
  refine kr_z (by decide) q_14 fun v_9 f_10 R_12 E_13 => ?_
  refine go_istore_n (n := 2) (by decide +kernel) (by decide +kernel) f_10 fun L_15 l_16 kp_17 => ?_
  have l_18 := kp_17 0 _ l0 (by decide) (Or.inl (by decide))
  have l_19 := kp_17 1 _ l1 (by decide) (Or.inr (q_is_cat f1 (Or.inl rfl)))
  refine go_aload_n (n := 0) (by decide +kernel) l_18 f0 ?_
  refine go_aload_n (n := 0) (by decide +kernel) l_18 f0 ?_
  refine go_getf (x := 387) (ci := 13) (kf := 88) (fin := 0) (t := 0) (by decide +kernel) (by decide +kernel) (by decide +kernel) R_12 f0 (fx_k (c := 13) R_12 (by decide +kernel)) fun v_20 f_21 => ?_
  have f_22 := q_is_eq f_21 e_5
  refine go_iload_n (n := 1) (by decide +kernel) l_19 f1 ?_
  obtain ⟨x_24, hc_23, h⟩ := bp_s h
  refine go_callV (x := 344) (mi := 206) (n := 2) (ci := 13) (as := [v_20, v1]) (rest := []) (by decide +kernel) (by decide +kernel) rfl rfl (q_sum8 _ (Nat.le_of_ble_eq_true rfl)) R_12 f0 (fx_k (c := 13) R_12 (by decide +kernel)) (om_X12_xAt (Nat.le_trans (by decide) hd) R_12 f0 f_22 f1 hc_23) (fun _ S_28 q_31 => ?_) (fun _ _ qq => kr_x qq)
  refine kr_z (by decide) q_31 fun v_26 f_27 R_29 E_30 => ?_
  refine go_istore_n (n := 3) (by decide +kernel) (by decide +kernel) f_27 fun L_32 l_33 kp_34 => ?_
  have l_35 := kp_34 0 _ l_18 (by decide) (Or.inl (by decide))
  have l_36 := kp_34 1 _ l_19 (by decide) (Or.inl (by decide))
  have l_37 := kp_34 2 _ l_16 (by decide) (Or.inr (q_is_cat f_10 (Or.inl rfl)))
  refine go_aload_n (n := 0) (by decide +kernel) l_35 f0 ?_
  refine go_aload_n (n := 0) (by decide +kernel) l_35 f0 ?_
  refine go_getf (x := 387) (ci := 13) (kf := 88) (fin := 0) (t := 0) (by decide +kernel) (by decide +kernel) (by decide +kernel) R_29 f0 (fx_k (c := 13) R_29 (by decide +kernel)) fun v_38 f_39 => ?_
  have f_40 := q_is_eq f_39 e_5
  refine go_iload_n (n := 1) (by decide +kernel) l_36 f1 ?_
  obtain ⟨x_42, hc_41, h⟩ := bp_s h
  refine go_callV (x := 397) (mi := 205) (n := 2) (ci := 13) (as := [v_38, v1]) (rest := []) (by decide +kernel) (by decide +kernel) rfl rfl (q_sum8 _ (Nat.le_of_ble_eq_true rfl)) R_29 f0 (fx_k (c := 13) R_29 (by decide +kernel)) (om_X12_yAt (Nat.le_trans (by decide) hd) R_29 f0 f_40 f1 hc_41) (fun _ S_46 q_49 => ?_) (fun _ _ qq => kr_x qq)
  refine kr_z (by decide) q_49 fun v_44 f_45 R_47 E_48 => ?_
  refine go_istore (n := 4) (by decide +kernel) (by decide +kernel) f_45 fun L_50 l_51 kp_52 => ?_
  have l_53 := kp_52 0 _ l_35 (by decide) (Or.inl (by decide))
  have l_54 := kp_52 1 _ l_36 (by decide) (Or.inl (by decide))
  have l_55 := kp_52 2 _ l_37 (by decide) (Or.inl (by decide))
  have l_56 := kp_52 3 _ l_33 (by decide) (Or.inr (q_is_cat f_27 (Or.inl rfl)))
  refine go_aload_n (n := 0) (by decide +kernel) l_53 f0 ?_
  refine go_aload_n (n := 0) (by decide +kernel) l_53 f0 ?_
  refine go_aload_n (n := 0) (by decide +kernel) l_53 f0 ?_
  refine go_getf (x := 387) (ci := 13) (kf := 88) (fin := 0) (t := 0) (by decide +kernel) (by decide +kernel) (by decide +kernel) R_47 f0 (fx_k (c := 13) R_47 (by decide +kernel)) fun v_57 f_58 => ?_
  have f_59 := q_is_eq f_58 e_5
  refine go_iload_n (n := 1) (by decide +kernel) l_54 f1 ?_
  obtain ⟨x_61, hc_60, h⟩ := bp_s h
  refine go_callV (x := 521) (mi := 207) (n := 2) (ci := 13) (as := [v_57, v1]) (rest := [v0]) (by decide +kernel) (by decide +kernel) rfl rfl (q_sum8 _ (Nat.le_of_ble_eq_true rfl)) R_47 f0 (fx_k (c := 13) R_47 (by decide +kernel)) (om_X12_whenAt (Nat.le_trans (by decide) hd) R_47 f0 f_59 f1 hc_60) (fun _ S_65 q_68 => ?_) (fun _ _ qq => kr_x qq)
  refine kr_z (by decide) q_68 fun v_63 f_64 R_66 E_67 => ?_
  refine go_sipush (n := 1000) (z := 1000) (by decide +kernel) (by decide) fun v_69 f_70 => ?_
  refine go_irem (by decide +kernel) f_64 f_70 (by decide) fun v_71 f_72 => ?_
  obtain ⟨m_73, e_74, h⟩ := up_s h
  refine go_putf (x := 494) (ci := 13) (kf := 118) (fin := 0) (zt := 0) (by decide +kernel) (by decide +kernel) (by decide) (by decide +kernel) (by decide) (Or.inl rfl) R_66 f0 f_72 (fun hq => absurd hq (by decide)) (fx_k (c := 13) R_66 (by decide +kernel)) e_74 (fx_f (j := 118) R_66.2 (fx_k (c := 13) R_66 (by decide +kernel)) (by decide +kernel)) fun S_75 R_76 E_77 => ?_
  have E_78 := E_77
  refine go_iload_n (n := 2) (by decide +kernel) l_55 f_10 ?_
  refine go_if (c := .ne) (o := 19) (t := 68) (P := ¬ (x_7 = 0)) (by decide +kernel) (by decide +kernel) f_10 (Iff.rfl) (fun hp_79 => ?_) (fun hp_79 => ?_)
  · have h := it_f hp_79 h
    refine go_iload_n (n := 2) (by decide +kernel) l_55 f_10 ?_
    refine go_iconst (n := 4) (z := 4) (by decide +kernel) (by decide) fun v_80 f_81 => ?_
    refine go_icmp (c := .ne) (o := 35) (t := 105) (P := ¬ (x_7 = 4)) (by decide +kernel) (by decide +kernel) f_10 f_81 (Iff.rfl) (fun hp_82 => ?_) (fun hp_82 => ?_)
    · have h := it_f hp_82 h
      refine go_iload_n (n := 2) (by decide +kernel) l_55 f_10 ?_
      refine go_bipush (n := 7) (z := 7) (by decide +kernel) (by decide) fun v_83 f_84 => ?_
      refine go_icmp (c := .ne) (o := 10) (t := 118) (P := ¬ (x_7 = 7)) (by decide +kernel) (by decide +kernel) f_10 f_84 (Iff.rfl) (fun hp_85 => ?_) (fun hp_85 => ?_)
      · have h := it_f hp_85 h
        refine go_aload_n (n := 0) (by decide +kernel) l_53 f0 ?_
        refine go_iload_n (n := 2) (by decide +kernel) l_55 f_10 ?_
        refine go_iload_n (n := 3) (by decide +kernel) l_56 f_27 ?_
        refine go_iload (n := 4) (by decide +kernel) l_51 f_45 ?_
        obtain ⟨x_87, m_88, hc_86, h⟩ := bd_s h
        refine go_callV (x := 527) (mi := 245) (n := 3) (ci := 13) (as := [v_9, v_26, v_44]) (rest := []) (by decide +kernel) (by decide +kernel) rfl rfl (q_sum8 _ (Nat.le_of_ble_eq_true rfl)) R_76 f0 (fx_k (c := 13) R_76 (by decide +kernel)) (om_X12_comesBack (Nat.le_trans (by decide) hd) R_76 f0 f_10 f_27 f_45 hc_86) (fun _ S_91 q_94 => ?_) (fun _ _ qq => kr_x qq)
        refine kr_v q_94 fun R_92 E_93 => ?_
        have E_95 := Ext.tr E_78 E_93
        exact oj_X12_takes_126 hd R_92 l_53 f0 (fun b => hQ (Ext.tr E_95 b)) h
      · have h := it_n hp_85 h
        refine go_aload_n (n := 0) (by decide +kernel) l_53 f0 ?_
        obtain ⟨x_117, m_118, hc_116, h⟩ := bd_s h
        refine go_callV (x := 524) (mi := 246) (n := 0) (ci := 13) (as := []) (rest := []) (by decide +kernel) (by decide +kernel) rfl rfl (q_sum8 _ (Nat.le_of_ble_eq_true rfl)) R_76 f0 (fx_k (c := 13) R_76 (by decide +kernel)) (om_X12_isCancelled (Nat.le_trans (by decide) hd) R_76 f0 hc_116) (fun _ S_121 q_124 => ?_) (fun _ _ qq => kr_x qq)
        refine kr_v q_124 fun R_122 E_123 => ?_
        have E_125 := Ext.tr E_78 E_123
        refine go_goto (o := 11) (t := 126) (by decide +kernel) (by decide +kernel) ?_
        exact oj_X12_takes_126 hd R_122 l_53 f0 (fun b => hQ (Ext.tr E_125 b)) h
    · have h := it_n hp_82 h
      refine go_aload_n (n := 0) (by decide +kernel) l_53 f0 ?_
      refine go_getf (x := 287) (ci := 13) (kf := 109) (fin := 1) (t := 2) (by decide +kernel) (by decide +kernel) (by decide +kernel) R_76 f0 (fx_k (c := 13) R_76 (by decide +kernel)) fun v_126 f_127 => ?_
      have f_128 := q_is_eq (b := 157) f_127 (fx_v R_76 (by decide +kernel)).symm
      refine go_sipush (n := 2048) (z := 2048) (by decide +kernel) (by decide) fun v_129 f_130 => ?_
      refine go_iload_n (n := 3) (by decide +kernel) l_56 f_27 ?_
      refine go_imul (by decide +kernel) f_130 f_27 fun v_131 f_132 => ?_
      refine go_aload_n (n := 0) (by decide +kernel) l_53 f0 ?_
      refine go_getf (x := 281) (ci := 13) (kf := 107) (fin := 1) (t := 2) (by decide +kernel) (by decide +kernel) (by decide +kernel) R_76 f0 (fx_k (c := 13) R_76 (by decide +kernel)) fun v_133 f_134 => ?_
      have f_135 := q_is_eq (b := 155) f_134 (fx_v R_76 (by decide +kernel)).symm
      refine go_iload_n (n := 3) (by decide +kernel) l_56 f_27 ?_
      obtain ⟨g_138, h⟩ := gd_s h
      obtain ⟨x_140, e_141, h⟩ := lx_s h
      refine go_iald (kd := 100) (by decide +kernel) rfl R_76 f_135 f_27 (fx_k (c := 100) R_76 (by decide +kernel)) (fx_x (a := 155) (ln := 4) R_76 (by decide +kernel) g_138) fun v_136 f_137 => ?_
      have f_139 := q_is_eq f_137 e_141
      refine go_iadd (by decide +kernel) f_132 f_139 fun v_142 f_143 => ?_
      refine go_iload (n := 4) (by decide +kernel) l_51 f_45 ?_
      obtain ⟨g_144, h⟩ := gd_s h
      obtain ⟨m_145, e_146, h⟩ := up_s h
      refine go_iast (kd := 100) (by decide +kernel) rfl R_76 f_128 f_143 f_45 (fx_k (c := 100) R_76 (by decide +kernel)) (fx_x (a := 157) (ln := 8192) R_76 (by decide +kernel) g_144) e_146 (fx_a R_76.2 (fx_k (c := 100) R_76 (by decide +kernel)) (And.left (fx_x (a := 157) (ln := 8192) R_76 (by decide +kernel) g_144)) (by decide +kernel)) fun S_147 R_148 E_149 => ?_
      have E_150 := Ext.tr E_78 E_149
      refine go_aload_n (n := 0) (by decide +kernel) l_53 f0 ?_
      refine go_getf (x := 281) (ci := 13) (kf := 107) (fin := 1) (t := 2) (by decide +kernel) (by decide +kernel) (by decide +kernel) R_148 f0 (fx_k (c := 13) R_148 (by decide +kernel)) fun v_151 f_152 => ?_
      have f_153 := q_is_eq (b := 155) f_152 (fx_v R_148 (by decide +kernel)).symm
      refine go_iload_n (n := 3) (by decide +kernel) l_56 f_27 ?_
      refine go_dup2 (by decide +kernel) f_27 (Or.inl rfl) f_153 (Or.inr rfl) ?_
      obtain ⟨x_157, e_158, h⟩ := lx_s h
      refine go_iald (kd := 100) (by decide +kernel) rfl R_148 f_153 f_27 (fx_k (c := 100) R_148 (by decide +kernel)) (fx_x (a := 155) (ln := 4) R_148 (by decide +kernel) g_138) fun v_154 f_155 => ?_
      have f_156 := q_is_eq f_155 e_158
      refine go_iconst (n := 1) (z := 1) (by decide +kernel) (by decide) fun v_159 f_160 => ?_
      refine go_iadd (by decide +kernel) f_156 f_160 fun v_161 f_162 => ?_
      obtain ⟨m_163, e_164, h⟩ := up_s h
      refine go_iast (kd := 100) (by decide +kernel) rfl R_148 f_153 f_27 f_162 (fx_k (c := 100) R_148 (by decide +kernel)) (fx_x (a := 155) (ln := 4) R_148 (by decide +kernel) g_138) e_164 (fx_a R_148.2 (fx_k (c := 100) R_148 (by decide +kernel)) (And.left (fx_x (a := 155) (ln := 4) R_148 (by decide +kernel) g_138)) (by decide +kernel)) fun S_165 R_166 E_167 => ?_
      have E_168 := Ext.tr E_150 E_167
      refine go_goto (o := 24) (t := 126) (by decide +kernel) (by decide +kernel) ?_
      exact oj_X12_takes_126 hd R_166 l_53 f0 (fun b => hQ (Ext.tr E_168 b)) h
  · have h := it_n hp_79 h
    refine go_aload_n (n := 0) (by decide +kernel) l_53 f0 ?_
    refine go_getf (x := 241) (ci := 13) (kf := 90) (fin := 1) (t := 2) (by decide +kernel) (by decide +kernel) (by decide +kernel) R_76 f0 (fx_k (c := 13) R_76 (by decide +kernel)) fun v_169 f_170 => ?_
    have f_171 := q_is_eq (b := 142) f_170 (fx_v R_76 (by decide +kernel)).symm
    refine go_iconst (n := 0) (z := 0) (by decide +kernel) (by decide) fun v_172 f_173 => ?_
    refine go_iload_n (n := 3) (by decide +kernel) l_56 f_27 ?_
    obtain ⟨m_174, e_175, h⟩ := up_s h
    refine go_iast (kd := 100) (by decide +kernel) rfl R_76 f_171 f_173 f_27 (fx_k (c := 100) R_76 (by decide +kernel)) (fx_x (a := 142) (ln := 6) R_76 (by decide +kernel) (by decide)) e_175 (fx_a R_76.2 (fx_k (c := 100) R_76 (by decide +kernel)) (And.left (fx_x (a := 142) (ln := 6) R_76 (by decide +kernel) (by decide))) (by decide +kernel)) fun S_176 R_177 E_178 => ?_
    have E_179 := Ext.tr E_78 E_178
    refine go_aload_n (n := 0) (by decide +kernel) l_53 f0 ?_
    refine go_iconst (n := 0) (z := 0) (by decide +kernel) (by decide) fun v_180 f_181 => ?_
    refine go_iconst (n := (-1)) (z := (-1)) (by decide +kernel) (by decide) fun v_182 f_183 => ?_
    obtain ⟨x_185, m_186, hc_184, h⟩ := bd_s h
    refine go_callV (x := 455) (mi := 223) (n := 2) (ci := 13) (as := [v_180, v_182]) (rest := []) (by decide +kernel) (by decide +kernel) rfl rfl (q_sum8 _ (Nat.le_of_ble_eq_true rfl)) R_177 f0 (fx_k (c := 13) R_177 (by decide +kernel)) (om_X12_begins (Nat.le_trans (by decide) hd) R_177 f0 f_181 f_183 hc_184) (fun _ S_189 q_192 => ?_) (fun _ _ qq => kr_x qq)
    refine kr_v q_192 fun R_190 E_191 => ?_
    have E_193 := Ext.tr E_179 E_191
    refine go_goto (o := 61) (t := 126) (by decide +kernel) (by decide +kernel) ?_
    exact oj_X12_takes_126 hd R_190 l_53 f0 (fun b => hQ (Ext.tr E_193 b)) h
noncomputable def fj_X12_goesBy_87 (c : MM → Option (Int × MM)) (y1 : Int) (m : MM) : Option (Int × MM) := lx (m 68 126) fun x_63 =>
up m 68 126 (w32 (x_63 + 1)) fun m_69 =>
c m_69
set_option maxHeartbeats 4000000 in
theorem oj_X12_goesBy_87 {xs : List Int32} {d : Nat} {S : QS} {L : QL} {Q : QO → QS → Prop} {m : MM} {y1 : Int} {v0 : Value} {v1 : Value}  {rz : Int} {rm : MM} {c : MM → Option (Int × MM)} 
  (hd : 3 ≤ d) (R : Rp S m) (l0 : q_lo L 0 = some v0) (f0 : q_is 2 v0 68) (l1 : q_lo L 1 = some v1) (f1 : q_is 0 v1 y1)
  (hc : ∀ mq : MM, Ext m mq → ∀ {Sq : QS} {Lq : QL} {u0 : Value} {u1 : Value}, c mq = some (rz, rm) → Rp Sq mq → q_lo Lq 0 = some u0 → q_is 2 u0 68 → q_lo Lq 1 = some u1 → q_is 0 u1 y1 → Go xs d qM_X12_goesBy 0 Lq [] Sq Q)
  (hQ : Ext m rm → ∀ o S1, Rp S1 rm → q_out 9 o rz → Q o S1)
  (h : fj_X12_goesBy_87 c y1 m = some (rz, rm)) : Go xs d qM_X12_goesBy 87 L [] S Q := by
  unfold fj_X12_goesBy_87 at h
  refine go_aload_n (n := 0) (by decide +kernel) l0 f0 ?_
  refine go_dup (by decide +kernel) f0 (Or.inr rfl) ?_
  obtain ⟨x_63, e_64, h⟩ := lx_s h
  refine go_getf (x := 533) (ci := 13) (kf := 126) (fin := 0) (t := 0) (by decide +kernel) (by decide +kernel) (by decide +kernel) R f0 (fx_k (c := 13) R (by decide +kernel)) fun v_60 f_61 => ?_
  have f_62 := q_is_eq f_61 e_64
  refine go_iconst (n := 1) (z := 1) (by decide +kernel) (by decide) fun v_65 f_66 => ?_
  refine go_iadd (by decide +kernel) f_62 f_66 fun v_67 f_68 => ?_
  obtain ⟨m_69, e_70, h⟩ := up_s h
  refine go_putf (x := 533) (ci := 13) (kf := 126) (fin := 0) (zt := 0) (by decide +kernel) (by decide +kernel) (by decide) (by decide +kernel) (by decide) (Or.inl rfl) R f0 f_68 (fun hq => absurd hq (by decide)) (fx_k (c := 13) R (by decide +kernel)) e_70 (fx_f (j := 126) R.2 (fx_k (c := 13) R (by decide +kernel)) (by decide +kernel)) fun S_71 R_72 E_73 => ?_
  have E_74 := E_73
  refine go_goto (o := (-97)) (t := 0) (by decide +kernel) (by decide +kernel) ?_
  exact hc m_69 E_74 h R_72 l0 f0 l1 f1
noncomputable def fj_X12_goesBy_51 (c : MM → Option (Int × MM)) (y1 : Int) (m : MM) : Option (Int × MM) := lx (m 68 88) fun x_41 =>
lx (m 68 126) fun x_46 =>
bp (fm_X12_kindAt x_41 x_46 m) fun x_49 =>
if x_49 = 17 then
bd (fm_X12_nextCommand m) fun x_76 m_77 =>
lx (m_77 68 126) fun x_88 =>
if x_76 < x_88 then
bd (fm_X12_nextCommand m_77) fun x_92 m_93 =>
bd (fm_X12_differs x_92 m_93) fun x_102 m_103 =>
fj_X12_goesBy_87 c y1 m_103
else
fj_X12_goesBy_87 c y1 m_77
else
fj_X12_goesBy_87 c y1 m
set_option maxHeartbeats 4000000 in
theorem oj_X12_goesBy_51 {xs : List Int32} {d : Nat} {S : QS} {L : QL} {Q : QO → QS → Prop} {m : MM} {y1 : Int} {v0 : Value} {v1 : Value}  {rz : Int} {rm : MM} {c : MM → Option (Int × MM)} 
  (hd : 3 ≤ d) (R : Rp S m) (l0 : q_lo L 0 = some v0) (f0 : q_is 2 v0 68) (l1 : q_lo L 1 = some v1) (f1 : q_is 0 v1 y1)
  (hc : ∀ mq : MM, Ext m mq → ∀ {Sq : QS} {Lq : QL} {u0 : Value} {u1 : Value}, c mq = some (rz, rm) → Rp Sq mq → q_lo Lq 0 = some u0 → q_is 2 u0 68 → q_lo Lq 1 = some u1 → q_is 0 u1 y1 → Go xs d qM_X12_goesBy 0 Lq [] Sq Q)
  (hQ : Ext m rm → ∀ o S1, Rp S1 rm → q_out 9 o rz → Q o S1)
  (h : fj_X12_goesBy_51 c y1 m = some (rz, rm)) : Go xs d qM_X12_goesBy 51 L [] S Q := by
  unfold fj_X12_goesBy_51 at h
  refine go_aload_n (n := 0) (by decide +kernel) l0 f0 ?_
  refine go_aload_n (n := 0) (by decide +kernel) l0 f0 ?_
  obtain ⟨x_41, e_42, h⟩ := lx_s h
  refine go_getf (x := 387) (ci := 13) (kf := 88) (fin := 0) (t := 0) (by decide +kernel) (by decide +kernel) (by decide +kernel) R f0 (fx_k (c := 13) R (by decide +kernel)) fun v_38 f_39 => ?_
  have f_40 := q_is_eq f_39 e_42
  refine go_aload_n (n := 0) (by decide +kernel) l0 f0 ?_
  obtain ⟨x_46, e_47, h⟩ := lx_s h
  refine go_getf (x := 533) (ci := 13) (kf := 126) (fin := 0) (t := 0) (by decide +kernel) (by decide +kernel) (by decide +kernel) R f0 (fx_k (c := 13) R (by decide +kernel)) fun v_43 f_44 => ?_
  have f_45 := q_is_eq f_44 e_47
  obtain ⟨x_49, hc_48, h⟩ := bp_s h
  refine go_callV (x := 341) (mi := 204) (n := 2) (ci := 13) (as := [v_38, v_43]) (rest := []) (by decide +kernel) (by decide +kernel) rfl rfl (q_sum8 _ (Nat.le_of_ble_eq_true rfl)) R f0 (fx_k (c := 13) R (by decide +kernel)) (om_X12_kindAt (Nat.le_trans (by decide) hd) R f0 f_40 f_45 hc_48) (fun _ S_53 q_56 => ?_) (fun _ _ qq => kr_x qq)
  refine kr_z (by decide) q_56 fun v_51 f_52 R_54 E_55 => ?_
  refine go_bipush (n := 17) (z := 17) (by decide +kernel) (by decide) fun v_57 f_58 => ?_
  refine go_icmp (c := .ne) (o := 22) (t := 87) (P := ¬ (x_49 = 17)) (by decide +kernel) (by decide +kernel) f_52 f_58 (Iff.rfl) (fun hp_59 => ?_) (fun hp_59 => ?_)
  · have h := it_f hp_59 h
    exact oj_X12_goesBy_87 hd R_54 l0 f0 l1 f1 hc hQ h
  · have h := it_n hp_59 h
    refine go_aload_n (n := 0) (by decide +kernel) l0 f0 ?_
    obtain ⟨x_76, m_77, hc_75, h⟩ := bd_s h
    refine go_callV (x := 393) (mi := 219) (n := 0) (ci := 13) (as := []) (rest := []) (by decide +kernel) (by decide +kernel) rfl rfl (q_sum8 _ (Nat.le_of_ble_eq_true rfl)) R_54 f0 (fx_k (c := 13) R_54 (by decide +kernel)) (om_X12_nextCommand (Nat.le_trans (by decide) hd) R_54 f0 hc_75) (fun _ S_80 q_83 => ?_) (fun _ _ qq => kr_x qq)
    refine kr_z (by decide) q_83 fun v_78 f_79 R_81 E_82 => ?_
    have E_84 := E_82
    refine go_aload_n (n := 0) (by decide +kernel) l0 f0 ?_
    obtain ⟨x_88, e_89, h⟩ := lx_s h
    refine go_getf (x := 533) (ci := 13) (kf := 126) (fin := 0) (t := 0) (by decide +kernel) (by decide +kernel) (by decide +kernel) R_81 f0 (fx_k (c := 13) R_81 (by decide +kernel)) fun v_85 f_86 => ?_
    have f_87 := q_is_eq f_86 e_89
    refine go_icmp (c := .ge) (o := 11) (t := 87) (P := ¬ (x_76 < x_88)) (by decide +kernel) (by decide +kernel) f_79 f_87 (Int.not_lt.symm) (fun hp_90 => ?_) (fun hp_90 => ?_)
    · have h := it_f hp_90 h
      exact oj_X12_goesBy_87 hd R_81 l0 f0 l1 f1 (fun mq b => hc mq (Ext.tr E_84 b)) (fun b => hQ (Ext.tr E_84 b)) h
    · have h := it_n hp_90 h
      refine go_aload_n (n := 0) (by decide +kernel) l0 f0 ?_
      refine go_aload_n (n := 0) (by decide +kernel) l0 f0 ?_
      obtain ⟨x_92, m_93, hc_91, h⟩ := bd_s h
      refine go_callV (x := 393) (mi := 219) (n := 0) (ci := 13) (as := []) (rest := [v0]) (by decide +kernel) (by decide +kernel) rfl rfl (q_sum8 _ (Nat.le_of_ble_eq_true rfl)) R_81 f0 (fx_k (c := 13) R_81 (by decide +kernel)) (om_X12_nextCommand (Nat.le_trans (by decide) hd) R_81 f0 hc_91) (fun _ S_96 q_99 => ?_) (fun _ _ qq => kr_x qq)
      refine kr_z (by decide) q_99 fun v_94 f_95 R_97 E_98 => ?_
      have E_100 := Ext.tr E_84 E_98
      obtain ⟨x_102, m_103, hc_101, h⟩ := bd_s h
      refine go_callV (x := 400) (mi := 218) (n := 1) (ci := 13) (as := [v_94]) (rest := []) (by decide +kernel) (by decide +kernel) rfl rfl (q_sum8 _ (Nat.le_of_ble_eq_true rfl)) R_97 f0 (fx_k (c := 13) R_97 (by decide +kernel)) (om_X12_differs (Nat.le_trans (by decide) hd) R_97 f0 f_95 hc_101) (fun _ S_106 q_109 => ?_) (fun _ _ qq => kr_x qq)
      refine kr_v q_109 fun R_107 E_108 => ?_
      have E_110 := Ext.tr E_100 E_108
      exact oj_X12_goesBy_87 hd R_107 l0 f0 l1 f1 (fun mq b => hc mq (Ext.tr E_110 b)) (fun b => hQ (Ext.tr E_110 b)) h
noncomputable def fl_X12_goesBy_0 (y1 : Int) : Nat → MM → Option (Int × MM)
  | 0, _ => none
  | n + 1, m => lx (m 68 126) fun x_4 =>
lx (m 68 124) fun x_9 =>
if x_4 < x_9 then
lx (m 68 114) fun x_15 =>
if x_15 = 0 then
lx (m 68 88) fun x_21 =>
bp (fm_X12_kindAt x_21 x_4 m) fun x_27 =>
if x_27 = 17 then
bp (fm_X12_xAt x_21 x_4 m) fun x_118 =>
if y1 < x_118 then
some (0, m)
else
fj_X12_goesBy_51 (fl_X12_goesBy_0 y1 n) y1 m
else
fj_X12_goesBy_51 (fl_X12_goesBy_0 y1 n) y1 m
else
some (0, m)
else
some (0, m)
set_option maxHeartbeats 4000000 in
theorem ol_X12_goesBy_0 {xs : List Int32} {d : Nat} {Q : QO → QS → Prop} {mb : MM} {y1 : Int} {rz : Int} {rm : MM}
  (hd : 3 ≤ d)
  (hQ : Ext mb rm → ∀ o S1, Rp S1 rm → q_out 9 o rz → Q o S1) :
  ∀ (n : Nat) {m : MM} {S : QS} {L : QL} {v0 : Value} {v1 : Value} , Ext mb m → fl_X12_goesBy_0 y1 n m = some (rz, rm) → Rp S m → q_lo L 0 = some v0 → q_is 2 v0 68 → q_lo L 1 = some v1 → q_is 0 v1 y1 → Go xs d qM_X12_goesBy 0 L [] S Q := by
  intro n
  induction n with
  | zero => intro m S L v0 v1; intro E h R l0 f0 l1 f1; cases h
  | succ n ih0 =>
    intro m S L v0 v1; intro E h R l0 f0 l1 f1
    have ih : ∀ mq : MM, Ext mb mq → ∀ {Sq : QS} {Lq : QL} {u0 : Value} {u1 : Value}, fl_X12_goesBy_0 y1 n mq = some (rz, rm) → Rp Sq mq → q_lo Lq 0 = some u0 → q_is 2 u0 68 → q_lo Lq 1 = some u1 → q_is 0 u1 y1 → Go xs d qM_X12_goesBy 0 Lq [] Sq Q := fun mq b => by intros; exact ih0 b ‹_› ‹_› ‹_› ‹_› ‹_› ‹_›
    unfold fl_X12_goesBy_0 at h
    refine go_aload_n (n := 0) (by decide +kernel) l0 f0 ?_
    obtain ⟨x_4, e_5, h⟩ := lx_s h
    refine go_getf (x := 533) (ci := 13) (kf := 126) (fin := 0) (t := 0) (by decide +kernel) (by decide +kernel) (by decide +kernel) R f0 (fx_k (c := 13) R (by decide +kernel)) fun v_1 f_2 => ?_
    have f_3 := q_is_eq f_2 e_5
    refine go_aload_n (n := 0) (by decide +kernel) l0 f0 ?_
    obtain ⟨x_9, e_10, h⟩ := lx_s h
    refine go_getf (x := 384) (ci := 13) (kf := 124) (fin := 0) (t := 0) (by decide +kernel) (by decide +kernel) (by decide +kernel) R f0 (fx_k (c := 13) R (by decide +kernel)) fun v_6 f_7 => ?_
    have f_8 := q_is_eq f_7 e_10
    refine go_icmp (c := .ge) (o := 92) (t := 100) (P := ¬ (x_4 < x_9)) (by decide +kernel) (by decide +kernel) f_3 f_8 (Int.not_lt.symm) (fun hp_11 => ?_) (fun hp_11 => ?_)
    · have h := it_f hp_11 h
      cases h
      exact go_vret (by decide +kernel) rfl (hQ E _ _ R q_out_n)
    · have h := it_n hp_11 h
      refine go_aload_n (n := 0) (by decide +kernel) l0 f0 ?_
      obtain ⟨x_15, e_16, h⟩ := lx_s h
      refine go_getf (x := 374) (ci := 13) (kf := 114) (fin := 0) (t := 0) (by decide +kernel) (by decide +kernel) (by decide +kernel) R f0 (fx_k (c := 13) R (by decide +kernel)) fun v_12 f_13 => ?_
      have f_14 := q_is_eq f_13 e_16
      refine go_if (c := .ne) (o := 85) (t := 100) (P := ¬ (x_15 = 0)) (by decide +kernel) (by decide +kernel) f_14 (Iff.rfl) (fun hp_17 => ?_) (fun hp_17 => ?_)
      · have h := it_f hp_17 h
        cases h
        exact go_vret (by decide +kernel) rfl (hQ E _ _ R q_out_n)
      · have h := it_n hp_17 h
        refine go_aload_n (n := 0) (by decide +kernel) l0 f0 ?_
        refine go_aload_n (n := 0) (by decide +kernel) l0 f0 ?_
        obtain ⟨x_21, e_22, h⟩ := lx_s h
        refine go_getf (x := 387) (ci := 13) (kf := 88) (fin := 0) (t := 0) (by decide +kernel) (by decide +kernel) (by decide +kernel) R f0 (fx_k (c := 13) R (by decide +kernel)) fun v_18 f_19 => ?_
        have f_20 := q_is_eq f_19 e_22
        refine go_aload_n (n := 0) (by decide +kernel) l0 f0 ?_
        refine go_getf (x := 533) (ci := 13) (kf := 126) (fin := 0) (t := 0) (by decide +kernel) (by decide +kernel) (by decide +kernel) R f0 (fx_k (c := 13) R (by decide +kernel)) fun v_23 f_24 => ?_
        have f_25 := q_is_eq f_24 e_5
        obtain ⟨x_27, hc_26, h⟩ := bp_s h
        refine go_callV (x := 341) (mi := 204) (n := 2) (ci := 13) (as := [v_18, v_23]) (rest := []) (by decide +kernel) (by decide +kernel) rfl rfl (q_sum8 _ (Nat.le_of_ble_eq_true rfl)) R f0 (fx_k (c := 13) R (by decide +kernel)) (om_X12_kindAt (Nat.le_trans (by decide) hd) R f0 f_20 f_25 hc_26) (fun _ S_31 q_34 => ?_) (fun _ _ qq => kr_x qq)
        refine kr_z (by decide) q_34 fun v_29 f_30 R_32 E_33 => ?_
        refine go_bipush (n := 17) (z := 17) (by decide +kernel) (by decide) fun v_35 f_36 => ?_
        refine go_icmp (c := .ne) (o := 19) (t := 51) (P := ¬ (x_27 = 17)) (by decide +kernel) (by decide +kernel) f_30 f_36 (Iff.rfl) (fun hp_37 => ?_) (fun hp_37 => ?_)
        · have h := it_f hp_37 h
          exact oj_X12_goesBy_51 hd R_32 l0 f0 l1 f1 (fun mq b => ih mq (Ext.tr E b)) (fun b => hQ (Ext.tr E b)) h
        · have h := it_n hp_37 h
          refine go_aload_n (n := 0) (by decide +kernel) l0 f0 ?_
          refine go_aload_n (n := 0) (by decide +kernel) l0 f0 ?_
          refine go_getf (x := 387) (ci := 13) (kf := 88) (fin := 0) (t := 0) (by decide +kernel) (by decide +kernel) (by decide +kernel) R_32 f0 (fx_k (c := 13) R_32 (by decide +kernel)) fun v_111 f_112 => ?_
          have f_113 := q_is_eq f_112 e_22
          refine go_aload_n (n := 0) (by decide +kernel) l0 f0 ?_
          refine go_getf (x := 533) (ci := 13) (kf := 126) (fin := 0) (t := 0) (by decide +kernel) (by decide +kernel) (by decide +kernel) R_32 f0 (fx_k (c := 13) R_32 (by decide +kernel)) fun v_114 f_115 => ?_
          have f_116 := q_is_eq f_115 e_5
          obtain ⟨x_118, hc_117, h⟩ := bp_s h
          refine go_callV (x := 344) (mi := 206) (n := 2) (ci := 13) (as := [v_111, v_114]) (rest := []) (by decide +kernel) (by decide +kernel) rfl rfl (q_sum8 _ (Nat.le_of_ble_eq_true rfl)) R_32 f0 (fx_k (c := 13) R_32 (by decide +kernel)) (om_X12_xAt (Nat.le_trans (by decide) hd) R_32 f0 f_113 f_116 hc_117) (fun _ S_122 q_125 => ?_) (fun _ _ qq => kr_x qq)
          refine kr_z (by decide) q_125 fun v_120 f_121 R_123 E_124 => ?_
          refine go_iload_n (n := 1) (by decide +kernel) l1 f1 ?_
          refine go_icmp (c := .gt) (o := 52) (t := 100) (P := y1 < x_118) (by decide +kernel) (by decide +kernel) f_121 f1 (Iff.rfl) (fun hp_126 => ?_) (fun hp_126 => ?_)
          · have h := it_t hp_126 h
            cases h
            exact go_vret (by decide +kernel) rfl (hQ E _ _ R_123 q_out_n)
          · have h := it_f hp_126 h
            exact oj_X12_goesBy_51 hd R_123 l0 f0 l1 f1 (fun mq b => ih mq (Ext.tr E b)) (fun b => hQ (Ext.tr E b)) h
noncomputable def fm_X12_goesBy (p1 : Int) (m0 : MM) : Option (Int × MM) := fl_X12_goesBy_0 p1  BIG m0
set_option maxHeartbeats 4000000 in
theorem om_X12_goesBy {xs : List Int32} {d : Nat} {S : QS} {m0 : MM} {p1 : Int} {v0 : Value} {v1 : Value} {rz : Int} {rm : MM}
  (hd : 4 ≤ d) (R : Rp S m0) (f0 : q_is 2 v0 68) (f1 : q_is 0 v1 p1)
  (h : fm_X12_goesBy p1 m0 = some (rz, rm)) : Mt xs d 248 [v0, v1] S (Cr 9 m0 rm rz) := by
  obtain ⟨d, rfl⟩ : ∃ e, d = e + 1 := ⟨d - 1, by omega⟩
  have hd : 3 ≤ d := Nat.le_of_succ_le_succ hd
  refine Mt.of (M := qM_X12_goesBy) rfl (by rw [sl_1 (q_is_cat f0 (Or.inr rfl)), sl_1 (q_is_cat f1 (Or.inl rfl)), sl_0]; decide) ?_
  rw [la_1 (q_is_cat f0 (Or.inr rfl)), la_1 (q_is_cat f1 (Or.inl rfl)), la_0]
  obtain ⟨L, hL⟩ : ∃ L : QL, L = [(0, v0), (0 + 1, v1)] := ⟨_, rfl⟩
  rw [← hL]
  have l0 : q_lo L 0 = some v0 := by rw [hL]; rfl
  have l1 : q_lo L 1 = some v1 := by rw [hL]; rfl
  have hQ : Ext m0 rm → ∀ o S1, Rp S1 rm → q_out 9 o rz → (Cr 9 m0 rm rz) o S1 := fun a o S1 b e => ⟨b, a, e⟩
  unfold fm_X12_goesBy at h
  refine ol_X12_goesBy_0 hd   hQ BIG (Ext.rf _) h R l0 f0 l1 f1
noncomputable def fl_X12_tellsRun_30 (y1 y3 y5 : Int) (k51 : MM → Option (Int × MM)) : Nat → Int → MM → Option (Int × MM)
  | 0, _, _ => none
  | n + 1, y6, m => if y6 < 6 then
gd (0 ≤ y6 ∧ y6 < 6) <| up m 142 y6 0 fun m_51 =>
lx (w32 (y6 + 1)) fun x_62 =>
fl_X12_tellsRun_30 y1 y3 y5 k51 n x_62 m_51
else
k51 m
set_option maxHeartbeats 4000000 in
theorem ol_X12_tellsRun_30 {xs : List Int32} {d : Nat} {Q : QO → QS → Prop} {mb : MM} {y1 y3 y5 : Int} {k51 : MM → Option (Int × MM)} {rz : Int} {rm : MM}
  (hd : 13 ≤ d)
  (hk51 : ∀ mq : MM, Ext mb mq → ∀ {Sq : QS} {Lq : QL} {u0 : Value} {u1 : Value} {u3 : Value} {u5 : Value}, k51 mq = some (rz, rm) → Rp Sq mq → q_lo Lq 0 = some u0 → q_is 2 u0 68 → q_lo Lq 1 = some u1 → q_is 0 u1 y1 → q_lo Lq 3 = some u3 → q_is 0 u3 y3 → q_lo Lq 5 = some u5 → q_is 0 u5 y5 → Go xs d qM_X12_tellsRun 51 Lq [] Sq Q)
  (hQ : Ext mb rm → ∀ o S1, Rp S1 rm → q_out 9 o rz → Q o S1) :
  ∀ (n : Nat) {m : MM} {S : QS} {L : QL} {y6 : Int} {v0 : Value} {v1 : Value} {v3 : Value} {v5 : Value} {v6 : Value} , Ext mb m → fl_X12_tellsRun_30 y1 y3 y5 k51 n y6 m = some (rz, rm) → Rp S m → q_lo L 0 = some v0 → q_is 2 v0 68 → q_lo L 1 = some v1 → q_is 0 v1 y1 → q_lo L 3 = some v3 → q_is 0 v3 y3 → q_lo L 5 = some v5 → q_is 0 v5 y5 → q_lo L 6 = some v6 → q_is 0 v6 y6 → Go xs d qM_X12_tellsRun 30 L [] S Q := by
  intro n
  induction n with
  | zero => intro m S L y6 v0 v1 v3 v5 v6; intro E h R l0 f0 l1 f1 l3 f3 l5 f5 l6 f6; cases h
  | succ n ih0 =>
    intro m S L y6 v0 v1 v3 v5 v6; intro E h R l0 f0 l1 f1 l3 f3 l5 f5 l6 f6
    have ih : ∀ mq : MM, Ext mb mq → ∀ {z6 : Int} {Sq : QS} {Lq : QL} {u0 : Value} {u1 : Value} {u3 : Value} {u5 : Value} {u6 : Value}, fl_X12_tellsRun_30 y1 y3 y5 k51 n z6 mq = some (rz, rm) → Rp Sq mq → q_lo Lq 0 = some u0 → q_is 2 u0 68 → q_lo Lq 1 = some u1 → q_is 0 u1 y1 → q_lo Lq 3 = some u3 → q_is 0 u3 y3 → q_lo Lq 5 = some u5 → q_is 0 u5 y5 → q_lo Lq 6 = some u6 → q_is 0 u6 z6 → Go xs d qM_X12_tellsRun 30 Lq [] Sq Q := fun mq b => by intros; exact ih0 b ‹_› ‹_› ‹_› ‹_› ‹_› ‹_› ‹_› ‹_› ‹_› ‹_› ‹_› ‹_›
    unfold fl_X12_tellsRun_30 at h
    refine go_iload (n := 6) (by decide +kernel) l6 f6 ?_
    refine go_bipush (n := 6) (z := 6) (by decide +kernel) (by decide) fun v_42 f_43 => ?_
    refine go_icmp (c := .ge) (o := 17) (t := 51) (P := ¬ (y6 < 6)) (by decide +kernel) (by decide +kernel) f6 f_43 (Int.not_lt.symm) (fun hp_44 => ?_) (fun hp_44 => ?_)
    · have h := it_f hp_44 h
      exact hk51 m E h R l0 f0 l1 f1 l3 f3 l5 f5
    · have h := it_n hp_44 h
      refine go_aload_n (n := 0) (by decide +kernel) l0 f0 ?_
      refine go_getf (x := 241) (ci := 13) (kf := 90) (fin := 1) (t := 2) (by decide +kernel) (by decide +kernel) (by decide +kernel) R f0 (fx_k (c := 13) R (by decide +kernel)) fun v_45 f_46 => ?_
      have f_47 := q_is_eq (b := 142) f_46 (fx_v R (by decide +kernel)).symm
      refine go_iload (n := 6) (by decide +kernel) l6 f6 ?_
      refine go_iconst (n := 0) (z := 0) (by decide +kernel) (by decide) fun v_48 f_49 => ?_
      obtain ⟨g_50, h⟩ := gd_s h
      obtain ⟨m_51, e_52, h⟩ := up_s h
      refine go_iast (kd := 100) (by decide +kernel) rfl R f_47 f6 f_49 (fx_k (c := 100) R (by decide +kernel)) (fx_x (a := 142) (ln := 6) R (by decide +kernel) g_50) e_52 (fx_a R.2 (fx_k (c := 100) R (by decide +kernel)) (And.left (fx_x (a := 142) (ln := 6) R (by decide +kernel) g_50)) (by decide +kernel)) fun S_53 R_54 E_55 => ?_
      have E_56 := Ext.tr E E_55
      refine go_iinc (n := 6) (c := 1) (c' := 1) (by decide +kernel) (by decide +kernel) l6 f6 (by decide) fun L_57 v_58 f_59 l_60 kp_61 => ?_
      obtain ⟨x_62, e_63, h⟩ := lx_s h
      have f_64 := q_is_eq f_59 e_63
      have l_65 := kp_61 0 _ l0 (by decide) (Or.inl (by decide))
      have l_66 := kp_61 1 _ l1 (by decide) (Or.inl (by decide))
      have l_67 := kp_61 3 _ l3 (by decide) (Or.inl (by decide))
      have l_68 := kp_61 5 _ l5 (by decide) (Or.inr (q_is_cat f5 (Or.inl rfl)))
      refine go_goto (o := (-18)) (t := 30) (by decide +kernel) (by decide +kernel) ?_
      exact ih m_51 E_56 h R_54 l_65 f0 l_66 f1 l_67 f3 l_68 f5 l_60 f_64
noncomputable def fl_X12_tellsRun_54 (y1 y3 y5 : Int) (k82 : MM → Option (Int × MM)) : Nat → Int → MM → Option (Int × MM)
  | 0, _, _ => none
  | n + 1, y6, m => if y6 < 4 then
gd (0 ≤ y6 ∧ y6 < 4) <| up m 155 y6 0 fun m_105 =>
up m_105 156 y6 0 fun m_116 =>
lx (w32 (y6 + 1)) fun x_127 =>
fl_X12_tellsRun_54 y1 y3 y5 k82 n x_127 m_116
else
k82 m
set_option maxHeartbeats 4000000 in
theorem ol_X12_tellsRun_54 {xs : List Int32} {d : Nat} {Q : QO → QS → Prop} {mb : MM} {y1 y3 y5 : Int} {k82 : MM → Option (Int × MM)} {rz : Int} {rm : MM}
  (hd : 13 ≤ d)
  (hk82 : ∀ mq : MM, Ext mb mq → ∀ {Sq : QS} {Lq : QL} {u0 : Value} {u1 : Value} {u3 : Value} {u5 : Value}, k82 mq = some (rz, rm) → Rp Sq mq → q_lo Lq 0 = some u0 → q_is 2 u0 68 → q_lo Lq 1 = some u1 → q_is 0 u1 y1 → q_lo Lq 3 = some u3 → q_is 0 u3 y3 → q_lo Lq 5 = some u5 → q_is 0 u5 y5 → Go xs d qM_X12_tellsRun 82 Lq [] Sq Q)
  (hQ : Ext mb rm → ∀ o S1, Rp S1 rm → q_out 9 o rz → Q o S1) :
  ∀ (n : Nat) {m : MM} {S : QS} {L : QL} {y6 : Int} {v0 : Value} {v1 : Value} {v3 : Value} {v5 : Value} {v6 : Value} , Ext mb m → fl_X12_tellsRun_54 y1 y3 y5 k82 n y6 m = some (rz, rm) → Rp S m → q_lo L 0 = some v0 → q_is 2 v0 68 → q_lo L 1 = some v1 → q_is 0 v1 y1 → q_lo L 3 = some v3 → q_is 0 v3 y3 → q_lo L 5 = some v5 → q_is 0 v5 y5 → q_lo L 6 = some v6 → q_is 0 v6 y6 → Go xs d qM_X12_tellsRun 54 L [] S Q := by
  intro n
  induction n with
  | zero => intro m S L y6 v0 v1 v3 v5 v6; intro E h R l0 f0 l1 f1 l3 f3 l5 f5 l6 f6; cases h
  | succ n ih0 =>
    intro m S L y6 v0 v1 v3 v5 v6; intro E h R l0 f0 l1 f1 l3 f3 l5 f5 l6 f6
    have ih : ∀ mq : MM, Ext mb mq → ∀ {z6 : Int} {Sq : QS} {Lq : QL} {u0 : Value} {u1 : Value} {u3 : Value} {u5 : Value} {u6 : Value}, fl_X12_tellsRun_54 y1 y3 y5 k82 n z6 mq = some (rz, rm) → Rp Sq mq → q_lo Lq 0 = some u0 → q_is 2 u0 68 → q_lo Lq 1 = some u1 → q_is 0 u1 y1 → q_lo Lq 3 = some u3 → q_is 0 u3 y3 → q_lo Lq 5 = some u5 → q_is 0 u5 y5 → q_lo Lq 6 = some u6 → q_is 0 u6 z6 → Go xs d qM_X12_tellsRun 54 Lq [] Sq Q := fun mq b => by intros; exact ih0 b ‹_› ‹_› ‹_› ‹_› ‹_› ‹_› ‹_› ‹_› ‹_› ‹_› ‹_› ‹_›
    unfold fl_X12_tellsRun_54 at h
    refine go_iload (n := 6) (by decide +kernel) l6 f6 ?_
    refine go_iconst (n := 4) (z := 4) (by decide +kernel) (by decide) fun v_96 f_97 => ?_
    refine go_icmp (c := .ge) (o := 25) (t := 82) (P := ¬ (y6 < 4)) (by decide +kernel) (by decide +kernel) f6 f_97 (Int.not_lt.symm) (fun hp_98 => ?_) (fun hp_98 => ?_)
    · have h := it_f hp_98 h
      exact hk82 m E h R l0 f0 l1 f1 l3 f3 l5 f5
    · have h := it_n hp_98 h
      refine go_aload_n (n := 0) (by decide +kernel) l0 f0 ?_
      refine go_getf (x := 281) (ci := 13) (kf := 107) (fin := 1) (t := 2) (by decide +kernel) (by decide +kernel) (by decide +kernel) R f0 (fx_k (c := 13) R (by decide +kernel)) fun v_99 f_100 => ?_
      have f_101 := q_is_eq (b := 155) f_100 (fx_v R (by decide +kernel)).symm
      refine go_iload (n := 6) (by decide +kernel) l6 f6 ?_
      refine go_iconst (n := 0) (z := 0) (by decide +kernel) (by decide) fun v_102 f_103 => ?_
      obtain ⟨g_104, h⟩ := gd_s h
      obtain ⟨m_105, e_106, h⟩ := up_s h
      refine go_iast (kd := 100) (by decide +kernel) rfl R f_101 f6 f_103 (fx_k (c := 100) R (by decide +kernel)) (fx_x (a := 155) (ln := 4) R (by decide +kernel) g_104) e_106 (fx_a R.2 (fx_k (c := 100) R (by decide +kernel)) (And.left (fx_x (a := 155) (ln := 4) R (by decide +kernel) g_104)) (by decide +kernel)) fun S_107 R_108 E_109 => ?_
      have E_110 := Ext.tr E E_109
      refine go_aload_n (n := 0) (by decide +kernel) l0 f0 ?_
      refine go_getf (x := 284) (ci := 13) (kf := 108) (fin := 1) (t := 2) (by decide +kernel) (by decide +kernel) (by decide +kernel) R_108 f0 (fx_k (c := 13) R_108 (by decide +kernel)) fun v_111 f_112 => ?_
      have f_113 := q_is_eq (b := 156) f_112 (fx_v R_108 (by decide +kernel)).symm
      refine go_iload (n := 6) (by decide +kernel) l6 f6 ?_
      refine go_iconst (n := 0) (z := 0) (by decide +kernel) (by decide) fun v_114 f_115 => ?_
      obtain ⟨m_116, e_117, h⟩ := up_s h
      refine go_iast (kd := 100) (by decide +kernel) rfl R_108 f_113 f6 f_115 (fx_k (c := 100) R_108 (by decide +kernel)) (fx_x (a := 156) (ln := 4) R_108 (by decide +kernel) g_104) e_117 (fx_a R_108.2 (fx_k (c := 100) R_108 (by decide +kernel)) (And.left (fx_x (a := 156) (ln := 4) R_108 (by decide +kernel) g_104)) (by decide +kernel)) fun S_118 R_119 E_120 => ?_
      have E_121 := Ext.tr E_110 E_120
      refine go_iinc (n := 6) (c := 1) (c' := 1) (by decide +kernel) (by decide +kernel) l6 f6 (by decide) fun L_122 v_123 f_124 l_125 kp_126 => ?_
      obtain ⟨x_127, e_128, h⟩ := lx_s h
      have f_129 := q_is_eq f_124 e_128
      have l_130 := kp_126 0 _ l0 (by decide) (Or.inl (by decide))
      have l_131 := kp_126 1 _ l1 (by decide) (Or.inl (by decide))
      have l_132 := kp_126 3 _ l3 (by decide) (Or.inl (by decide))
      have l_133 := kp_126 5 _ l5 (by decide) (Or.inr (q_is_cat f5 (Or.inl rfl)))
      refine go_goto (o := (-25)) (t := 54) (by decide +kernel) (by decide +kernel) ?_
      exact ih m_116 E_121 h R_119 l_130 f0 l_131 f1 l_132 f3 l_133 f5 l_125 f_129
noncomputable def fj_X12_tellsRun_222 (c : Int → MM → Option (Int × MM)) (y1 y3 y6 : Int) (m : MM) : Option (Int × MM) := lx (m 68 114) fun x_329 =>
if x_329 = 0 then
lx (m 68 117) fun x_346 =>
bd (fm_X12_goesBy x_346 m) fun x_349 m_350 =>
lx (w32 (y6 + 1)) fun x_363 =>
c x_363 m_350
else
lx (w32 (y6 + 1)) fun x_337 =>
c x_337 m
set_option maxHeartbeats 4000000 in
theorem oj_X12_tellsRun_222 {xs : List Int32} {d : Nat} {S : QS} {L : QL} {Q : QO → QS → Prop} {m : MM} {y1 y3 y6 : Int} {v0 : Value} {v1 : Value} {v3 : Value} {v6 : Value}  {rz : Int} {rm : MM} {c : Int → MM → Option (Int × MM)} 
  (hd : 13 ≤ d) (R : Rp S m) (l0 : q_lo L 0 = some v0) (f0 : q_is 2 v0 68) (l1 : q_lo L 1 = some v1) (f1 : q_is 0 v1 y1) (l3 : q_lo L 3 = some v3) (f3 : q_is 0 v3 y3) (l6 : q_lo L 6 = some v6) (f6 : q_is 0 v6 y6)
  (hc : ∀ mq : MM, Ext m mq → ∀ {z6 : Int} {Sq : QS} {Lq : QL} {u0 : Value} {u1 : Value} {u3 : Value} {u6 : Value}, c z6 mq = some (rz, rm) → Rp Sq mq → q_lo Lq 0 = some u0 → q_is 2 u0 68 → q_lo Lq 1 = some u1 → q_is 0 u1 y1 → q_lo Lq 3 = some u3 → q_is 0 u3 y3 → q_lo Lq 6 = some u6 → q_is 0 u6 z6 → Go xs d qM_X12_tellsRun 151 Lq [] Sq Q)
  (hQ : Ext m rm → ∀ o S1, Rp S1 rm → q_out 9 o rz → Q o S1)
  (h : fj_X12_tellsRun_222 c y1 y3 y6 m = some (rz, rm)) : Go xs d qM_X12_tellsRun 222 L [] S Q := by
  unfold fj_X12_tellsRun_222 at h
  refine go_aload_n (n := 0) (by decide +kernel) l0 f0 ?_
  obtain ⟨x_329, e_330, h⟩ := lx_s h
  refine go_getf (x := 374) (ci := 13) (kf := 114) (fin := 0) (t := 0) (by decide +kernel) (by decide +kernel) (by decide +kernel) R f0 (fx_k (c := 13) R (by decide +kernel)) fun v_326 f_327 => ?_
  have f_328 := q_is_eq f_327 e_330
  refine go_if (c := .ne) (o := 11) (t := 237) (P := ¬ (x_329 = 0)) (by decide +kernel) (by decide +kernel) f_328 (Iff.rfl) (fun hp_331 => ?_) (fun hp_331 => ?_)
  · have h := it_f hp_331 h
    refine go_iinc (n := 6) (c := 1) (c' := 1) (by decide +kernel) (by decide +kernel) l6 f6 (by decide) fun L_332 v_333 f_334 l_335 kp_336 => ?_
    obtain ⟨x_337, e_338, h⟩ := lx_s h
    have f_339 := q_is_eq f_334 e_338
    have l_340 := kp_336 0 _ l0 (by decide) (Or.inl (by decide))
    have l_341 := kp_336 1 _ l1 (by decide) (Or.inl (by decide))
    have l_342 := kp_336 3 _ l3 (by decide) (Or.inl (by decide))
    refine go_goto (o := (-89)) (t := 151) (by decide +kernel) (by decide +kernel) ?_
    exact hc m (Ext.rf _) h R l_340 f0 l_341 f1 l_342 f3 l_335 f_339
  · have h := it_n hp_331 h
    refine go_aload_n (n := 0) (by decide +kernel) l0 f0 ?_
    refine go_aload_n (n := 0) (by decide +kernel) l0 f0 ?_
    obtain ⟨x_346, e_347, h⟩ := lx_s h
    refine go_getf (x := 404) (ci := 13) (kf := 117) (fin := 0) (t := 0) (by decide +kernel) (by decide +kernel) (by decide +kernel) R f0 (fx_k (c := 13) R (by decide +kernel)) fun v_343 f_344 => ?_
    have f_345 := q_is_eq f_344 e_347
    obtain ⟨x_349, m_350, hc_348, h⟩ := bd_s h
    refine go_callV (x := 542) (mi := 248) (n := 1) (ci := 13) (as := [v_343]) (rest := []) (by decide +kernel) (by decide +kernel) rfl rfl (q_sum8 _ (Nat.le_of_ble_eq_true rfl)) R f0 (fx_k (c := 13) R (by decide +kernel)) (om_X12_goesBy (Nat.le_trans (by decide) hd) R f0 f_345 hc_348) (fun _ S_353 q_356 => ?_) (fun _ _ qq => kr_x qq)
    refine kr_v q_356 fun R_354 E_355 => ?_
    have E_357 := E_355
    refine go_iinc (n := 6) (c := 1) (c' := 1) (by decide +kernel) (by decide +kernel) l6 f6 (by decide) fun L_358 v_359 f_360 l_361 kp_362 => ?_
    obtain ⟨x_363, e_364, h⟩ := lx_s h
    have f_365 := q_is_eq f_360 e_364
    have l_366 := kp_362 0 _ l0 (by decide) (Or.inl (by decide))
    have l_367 := kp_362 1 _ l1 (by decide) (Or.inl (by decide))
    have l_368 := kp_362 3 _ l3 (by decide) (Or.inl (by decide))
    refine go_goto (o := (-89)) (t := 151) (by decide +kernel) (by decide +kernel) ?_
    exact hc m_350 E_357 h R_354 l_366 f0 l_367 f1 l_368 f3 l_361 f_365
noncomputable def fl_X12_tellsRun_151 (y1 y3 : Int) : Nat → Int → MM → Option (Int × MM)
  | 0, _, _ => none
  | n + 1, y6, m => gd (0 ≤ y1 ∧ y1 < 30) <| lx (m 86 y1) fun x_269 =>
if y6 < x_269 then
lx (m 68 117) fun x_275 =>
if x_275 < y3 then
lx (m 68 114) fun x_281 =>
if x_281 = 0 then
bp (fm_X12_kindAt y1 y6 m) fun x_285 =>
if 7 < x_285 then
lx (w32 (y6 + 1)) fun x_301 =>
fl_X12_tellsRun_151 y1 y3 n x_301 m
else
up m 68 117 (w32 (x_275 + 1)) fun m_314 =>
lx (m_314 68 112) fun x_323 =>
if x_323 = 0 then
lx (m_314 68 123) fun x_372 =>
up m_314 68 123 (w32 (x_372 + 1)) fun m_378 =>
bd (fm_X12_takes y6 m_378) fun x_385 m_386 =>
fj_X12_tellsRun_222 (fl_X12_tellsRun_151 y1 y3 n) y1 y3 y6 m_386
else
fj_X12_tellsRun_222 (fl_X12_tellsRun_151 y1 y3 n) y1 y3 y6 m_314
else
some (0, m)
else
some (0, m)
else
some (0, m)
set_option maxHeartbeats 4000000 in
theorem ol_X12_tellsRun_151 {xs : List Int32} {d : Nat} {Q : QO → QS → Prop} {mb : MM} {y1 y3 : Int} {rz : Int} {rm : MM}
  (hd : 13 ≤ d)
  (hQ : Ext mb rm → ∀ o S1, Rp S1 rm → q_out 9 o rz → Q o S1) :
  ∀ (n : Nat) {m : MM} {S : QS} {L : QL} {y6 : Int} {v0 : Value} {v1 : Value} {v3 : Value} {v6 : Value} , Ext mb m → fl_X12_tellsRun_151 y1 y3 n y6 m = some (rz, rm) → Rp S m → q_lo L 0 = some v0 → q_is 2 v0 68 → q_lo L 1 = some v1 → q_is 0 v1 y1 → q_lo L 3 = some v3 → q_is 0 v3 y3 → q_lo L 6 = some v6 → q_is 0 v6 y6 → Go xs d qM_X12_tellsRun 151 L [] S Q := by
  intro n
  induction n with
  | zero => intro m S L y6 v0 v1 v3 v6; intro E h R l0 f0 l1 f1 l3 f3 l6 f6; cases h
  | succ n ih0 =>
    intro m S L y6 v0 v1 v3 v6; intro E h R l0 f0 l1 f1 l3 f3 l6 f6
    have ih : ∀ mq : MM, Ext mb mq → ∀ {z6 : Int} {Sq : QS} {Lq : QL} {u0 : Value} {u1 : Value} {u3 : Value} {u6 : Value}, fl_X12_tellsRun_151 y1 y3 n z6 mq = some (rz, rm) → Rp Sq mq → q_lo Lq 0 = some u0 → q_is 2 u0 68 → q_lo Lq 1 = some u1 → q_is 0 u1 y1 → q_lo Lq 3 = some u3 → q_is 0 u3 y3 → q_lo Lq 6 = some u6 → q_is 0 u6 z6 → Go xs d qM_X12_tellsRun 151 Lq [] Sq Q := fun mq b => by intros; exact ih0 b ‹_› ‹_› ‹_› ‹_› ‹_› ‹_› ‹_› ‹_› ‹_› ‹_›
    unfold fl_X12_tellsRun_151 at h
    refine go_iload (n := 6) (by decide +kernel) l6 f6 ?_
    refine go_aload_n (n := 0) (by decide +kernel) l0 f0 ?_
    refine go_getf (x := 61) (ci := 13) (kf := 19) (fin := 1) (t := 2) (by decide +kernel) (by decide +kernel) (by decide +kernel) R f0 (fx_k (c := 13) R (by decide +kernel)) fun v_262 f_263 => ?_
    have f_264 := q_is_eq (b := 86) f_263 (fx_v R (by decide +kernel)).symm
    refine go_iload_n (n := 1) (by decide +kernel) l1 f1 ?_
    obtain ⟨g_267, h⟩ := gd_s h
    obtain ⟨x_269, e_270, h⟩ := lx_s h
    refine go_iald (kd := 100) (by decide +kernel) rfl R f_264 f1 (fx_k (c := 100) R (by decide +kernel)) (fx_x (a := 86) (ln := 30) R (by decide +kernel) g_267) fun v_265 f_266 => ?_
    have f_268 := q_is_eq f_266 e_270
    refine go_icmp (c := .ge) (o := 84) (t := 243) (P := ¬ (y6 < x_269)) (by decide +kernel) (by decide +kernel) f6 f_268 (Int.not_lt.symm) (fun hp_271 => ?_) (fun hp_271 => ?_)
    · have h := it_f hp_271 h
      cases h
      exact go_vret (by decide +kernel) rfl (hQ E _ _ R q_out_n)
    · have h := it_n hp_271 h
      refine go_aload_n (n := 0) (by decide +kernel) l0 f0 ?_
      obtain ⟨x_275, e_276, h⟩ := lx_s h
      refine go_getf (x := 404) (ci := 13) (kf := 117) (fin := 0) (t := 0) (by decide +kernel) (by decide +kernel) (by decide +kernel) R f0 (fx_k (c := 13) R (by decide +kernel)) fun v_272 f_273 => ?_
      have f_274 := q_is_eq f_273 e_276
      refine go_iload_n (n := 3) (by decide +kernel) l3 f3 ?_
      refine go_icmp (c := .ge) (o := 76) (t := 243) (P := ¬ (x_275 < y3)) (by decide +kernel) (by decide +kernel) f_274 f3 (Int.not_lt.symm) (fun hp_277 => ?_) (fun hp_277 => ?_)
      · have h := it_f hp_277 h
        cases h
        exact go_vret (by decide +kernel) rfl (hQ E _ _ R q_out_n)
      · have h := it_n hp_277 h
        refine go_aload_n (n := 0) (by decide +kernel) l0 f0 ?_
        obtain ⟨x_281, e_282, h⟩ := lx_s h
        refine go_getf (x := 374) (ci := 13) (kf := 114) (fin := 0) (t := 0) (by decide +kernel) (by decide +kernel) (by decide +kernel) R f0 (fx_k (c := 13) R (by decide +kernel)) fun v_278 f_279 => ?_
        have f_280 := q_is_eq f_279 e_282
        refine go_if (c := .ne) (o := 69) (t := 243) (P := ¬ (x_281 = 0)) (by decide +kernel) (by decide +kernel) f_280 (Iff.rfl) (fun hp_283 => ?_) (fun hp_283 => ?_)
        · have h := it_f hp_283 h
          cases h
          exact go_vret (by decide +kernel) rfl (hQ E _ _ R q_out_n)
        · have h := it_n hp_283 h
          refine go_aload_n (n := 0) (by decide +kernel) l0 f0 ?_
          refine go_iload_n (n := 1) (by decide +kernel) l1 f1 ?_
          refine go_iload (n := 6) (by decide +kernel) l6 f6 ?_
          obtain ⟨x_285, hc_284, h⟩ := bp_s h
          refine go_callV (x := 341) (mi := 204) (n := 2) (ci := 13) (as := [v1, v6]) (rest := []) (by decide +kernel) (by decide +kernel) rfl rfl (q_sum8 _ (Nat.le_of_ble_eq_true rfl)) R f0 (fx_k (c := 13) R (by decide +kernel)) (om_X12_kindAt (Nat.le_trans (by decide) hd) R f0 f1 f6 hc_284) (fun _ S_289 q_292 => ?_) (fun _ _ qq => kr_x qq)
          refine kr_z (by decide) q_292 fun v_287 f_288 R_290 E_291 => ?_
          refine go_bipush (n := 7) (z := 7) (by decide +kernel) (by decide) fun v_293 f_294 => ?_
          refine go_icmp (c := .gt) (o := 51) (t := 237) (P := 7 < x_285) (by decide +kernel) (by decide +kernel) f_288 f_294 (Iff.rfl) (fun hp_295 => ?_) (fun hp_295 => ?_)
          · have h := it_t hp_295 h
            refine go_iinc (n := 6) (c := 1) (c' := 1) (by decide +kernel) (by decide +kernel) l6 f6 (by decide) fun L_296 v_297 f_298 l_299 kp_300 => ?_
            obtain ⟨x_301, e_302, h⟩ := lx_s h
            have f_303 := q_is_eq f_298 e_302
            have l_304 := kp_300 0 _ l0 (by decide) (Or.inl (by decide))
            have l_305 := kp_300 1 _ l1 (by decide) (Or.inl (by decide))
            have l_306 := kp_300 3 _ l3 (by decide) (Or.inl (by decide))
            refine go_goto (o := (-89)) (t := 151) (by decide +kernel) (by decide +kernel) ?_
            exact ih m E h R_290 l_304 f0 l_305 f1 l_306 f3 l_299 f_303
          · have h := it_f hp_295 h
            refine go_aload_n (n := 0) (by decide +kernel) l0 f0 ?_
            refine go_dup (by decide +kernel) f0 (Or.inr rfl) ?_
            refine go_getf (x := 404) (ci := 13) (kf := 117) (fin := 0) (t := 0) (by decide +kernel) (by decide +kernel) (by decide +kernel) R_290 f0 (fx_k (c := 13) R_290 (by decide +kernel)) fun v_307 f_308 => ?_
            have f_309 := q_is_eq f_308 e_276
            refine go_iconst (n := 1) (z := 1) (by decide +kernel) (by decide) fun v_310 f_311 => ?_
            refine go_iadd (by decide +kernel) f_309 f_311 fun v_312 f_313 => ?_
            obtain ⟨m_314, e_315, h⟩ := up_s h
            refine go_putf (x := 404) (ci := 13) (kf := 117) (fin := 0) (zt := 0) (by decide +kernel) (by decide +kernel) (by decide) (by decide +kernel) (by decide) (Or.inl rfl) R_290 f0 f_313 (fun hq => absurd hq (by decide)) (fx_k (c := 13) R_290 (by decide +kernel)) e_315 (fx_f (j := 117) R_290.2 (fx_k (c := 13) R_290 (by decide +kernel)) (by decide +kernel)) fun S_316 R_317 E_318 => ?_
            have E_319 := Ext.tr E E_318
            refine go_aload_n (n := 0) (by decide +kernel) l0 f0 ?_
            obtain ⟨x_323, e_324, h⟩ := lx_s h
            refine go_getf (x := 371) (ci := 13) (kf := 112) (fin := 0) (t := 0) (by decide +kernel) (by decide +kernel) (by decide +kernel) R_317 f0 (fx_k (c := 13) R_317 (by decide +kernel)) fun v_320 f_321 => ?_
            have f_322 := q_is_eq f_321 e_324
            refine go_if (c := .ne) (o := 19) (t := 222) (P := ¬ (x_323 = 0)) (by decide +kernel) (by decide +kernel) f_322 (Iff.rfl) (fun hp_325 => ?_) (fun hp_325 => ?_)
            · have h := it_f hp_325 h
              exact oj_X12_tellsRun_222 hd R_317 l0 f0 l1 f1 l3 f3 l6 f6 (fun mq b => ih mq (Ext.tr E_319 b)) (fun b => hQ (Ext.tr E_319 b)) h
            · have h := it_n hp_325 h
              refine go_aload_n (n := 0) (by decide +kernel) l0 f0 ?_
              refine go_dup (by decide +kernel) f0 (Or.inr rfl) ?_
              obtain ⟨x_372, e_373, h⟩ := lx_s h
              refine go_getf (x := 536) (ci := 13) (kf := 123) (fin := 0) (t := 0) (by decide +kernel) (by decide +kernel) (by decide +kernel) R_317 f0 (fx_k (c := 13) R_317 (by decide +kernel)) fun v_369 f_370 => ?_
              have f_371 := q_is_eq f_370 e_373
              refine go_iconst (n := 1) (z := 1) (by decide +kernel) (by decide) fun v_374 f_375 => ?_
              refine go_iadd (by decide +kernel) f_371 f_375 fun v_376 f_377 => ?_
              obtain ⟨m_378, e_379, h⟩ := up_s h
              refine go_putf (x := 536) (ci := 13) (kf := 123) (fin := 0) (zt := 0) (by decide +kernel) (by decide +kernel) (by decide) (by decide +kernel) (by decide) (Or.inl rfl) R_317 f0 f_377 (fun hq => absurd hq (by decide)) (fx_k (c := 13) R_317 (by decide +kernel)) e_379 (fx_f (j := 123) R_317.2 (fx_k (c := 13) R_317 (by decide +kernel)) (by decide +kernel)) fun S_380 R_381 E_382 => ?_
              have E_383 := Ext.tr E_319 E_382
              refine go_aload_n (n := 0) (by decide +kernel) l0 f0 ?_
              refine go_iload (n := 6) (by decide +kernel) l6 f6 ?_
              obtain ⟨x_385, m_386, hc_384, h⟩ := bd_s h
              refine go_callV (x := 539) (mi := 247) (n := 1) (ci := 13) (as := [v6]) (rest := []) (by decide +kernel) (by decide +kernel) rfl rfl (q_sum8 _ (Nat.le_of_ble_eq_true rfl)) R_381 f0 (fx_k (c := 13) R_381 (by decide +kernel)) (om_X12_takes (Nat.le_trans (by decide) hd) R_381 f0 f6 hc_384) (fun _ S_389 q_392 => ?_) (fun _ _ qq => kr_x qq)
              refine kr_v q_392 fun R_390 E_391 => ?_
              have E_393 := Ext.tr E_383 E_391
              exact oj_X12_tellsRun_222 hd R_390 l0 f0 l1 f1 l3 f3 l6 f6 (fun mq b => ih mq (Ext.tr E_393 b)) (fun b => hQ (Ext.tr E_393 b)) h
noncomputable def fm_X12_tellsRun (p1 p2 p3 p4 p5 : Int) (m0 : MM) : Option (Int × MM) := up m0 68 88 p1 fun m_1 =>
up m_1 68 124 p4 fun m_7 =>
up m_7 68 125 p4 fun m_13 =>
up m_13 68 126 0 fun m_21 =>
up m_21 68 89 p2 fun m_27 =>
fl_X12_tellsRun_30 p1 p3 p5 (fun m_84 =>
fl_X12_tellsRun_54 p1 p3 p5 (fun m_149 =>
up m_149 68 91 0 fun m_154 =>
up m_154 68 92 0 fun m_162 =>
up m_162 68 103 0 fun m_170 =>
up m_170 68 105 0 fun m_178 =>
up m_178 68 110 0 fun m_186 =>
up m_186 68 111 0 fun m_194 =>
up m_194 68 112 0 fun m_202 =>
up m_202 68 114 0 fun m_210 =>
up m_210 68 116 0 fun m_218 =>
up m_218 68 117 0 fun m_226 =>
up m_226 68 120 0 fun m_234 =>
up m_234 68 123 0 fun m_242 =>
up m_242 68 119 p5 fun m_248 =>
fl_X12_tellsRun_151 p1 p3  BIG 0 m_248) BIG 0 m_84) BIG 0 m_27
set_option maxHeartbeats 4000000 in
theorem om_X12_tellsRun {xs : List Int32} {d : Nat} {S : QS} {m0 : MM} {p1 p2 p3 p4 p5 : Int} {v0 : Value} {v1 : Value} {v2 : Value} {v3 : Value} {v4 : Value} {v5 : Value} {rz : Int} {rm : MM}
  (hd : 14 ≤ d) (R : Rp S m0) (f0 : q_is 2 v0 68) (f1 : q_is 0 v1 p1) (f2 : q_is 0 v2 p2) (f3 : q_is 0 v3 p3) (f4 : q_is 0 v4 p4) (f5 : q_is 0 v5 p5)
  (h : fm_X12_tellsRun p1 p2 p3 p4 p5 m0 = some (rz, rm)) : Mt xs d 249 [v0, v1, v2, v3, v4, v5] S (Cr 9 m0 rm rz) := by
  obtain ⟨d, rfl⟩ : ∃ e, d = e + 1 := ⟨d - 1, by omega⟩
  have hd : 13 ≤ d := Nat.le_of_succ_le_succ hd
  refine Mt.of (M := qM_X12_tellsRun) rfl (by rw [sl_1 (q_is_cat f0 (Or.inr rfl)), sl_1 (q_is_cat f1 (Or.inl rfl)), sl_1 (q_is_cat f2 (Or.inl rfl)), sl_1 (q_is_cat f3 (Or.inl rfl)), sl_1 (q_is_cat f4 (Or.inl rfl)), sl_1 (q_is_cat f5 (Or.inl rfl)), sl_0]; decide) ?_
  rw [la_1 (q_is_cat f0 (Or.inr rfl)), la_1 (q_is_cat f1 (Or.inl rfl)), la_1 (q_is_cat f2 (Or.inl rfl)), la_1 (q_is_cat f3 (Or.inl rfl)), la_1 (q_is_cat f4 (Or.inl rfl)), la_1 (q_is_cat f5 (Or.inl rfl)), la_0]
  obtain ⟨L, hL⟩ : ∃ L : QL, L = [(0, v0), (0 + 1, v1), (0 + 1 + 1, v2), (0 + 1 + 1 + 1, v3), (0 + 1 + 1 + 1 + 1, v4), (0 + 1 + 1 + 1 + 1 + 1, v5)] := ⟨_, rfl⟩
  rw [← hL]
  have l0 : q_lo L 0 = some v0 := by rw [hL]; rfl
  have l1 : q_lo L 1 = some v1 := by rw [hL]; rfl
  have l2 : q_lo L 2 = some v2 := by rw [hL]; rfl
  have l3 : q_lo L 3 = some v3 := by rw [hL]; rfl
  have l4 : q_lo L 4 = some v4 := by rw [hL]; rfl
  have l5 : q_lo L 5 = some v5 := by rw [hL]; rfl
  have hQ : Ext m0 rm → ∀ o S1, Rp S1 rm → q_out 9 o rz → (Cr 9 m0 rm rz) o S1 := fun a o S1 b e => ⟨b, a, e⟩
  unfold fm_X12_tellsRun at h
  refine go_aload_n (n := 0) (by decide +kernel) l0 f0 ?_
  refine go_iload_n (n := 1) (by decide +kernel) l1 f1 ?_
  obtain ⟨m_1, e_2, h⟩ := up_s h
  refine go_putf (x := 387) (ci := 13) (kf := 88) (fin := 0) (zt := 0) (by decide +kernel) (by decide +kernel) (by decide) (by decide +kernel) (by decide) (Or.inl rfl) R f0 f1 (fun hq => absurd hq (by decide)) (fx_k (c := 13) R (by decide +kernel)) e_2 (fx_f (j := 88) R.2 (fx_k (c := 13) R (by decide +kernel)) (by decide +kernel)) fun S_3 R_4 E_5 => ?_
  have E_6 := E_5
  refine go_aload_n (n := 0) (by decide +kernel) l0 f0 ?_
  refine go_iload (n := 4) (by decide +kernel) l4 f4 ?_
  obtain ⟨m_7, e_8, h⟩ := up_s h
  refine go_putf (x := 384) (ci := 13) (kf := 124) (fin := 0) (zt := 0) (by decide +kernel) (by decide +kernel) (by decide) (by decide +kernel) (by decide) (Or.inl rfl) R_4 f0 f4 (fun hq => absurd hq (by decide)) (fx_k (c := 13) R_4 (by decide +kernel)) e_8 (fx_f (j := 124) R_4.2 (fx_k (c := 13) R_4 (by decide +kernel)) (by decide +kernel)) fun S_9 R_10 E_11 => ?_
  have E_12 := Ext.tr E_6 E_11
  refine go_aload_n (n := 0) (by decide +kernel) l0 f0 ?_
  refine go_iload (n := 4) (by decide +kernel) l4 f4 ?_
  obtain ⟨m_13, e_14, h⟩ := up_s h
  refine go_putf (x := 390) (ci := 13) (kf := 125) (fin := 0) (zt := 0) (by decide +kernel) (by decide +kernel) (by decide) (by decide +kernel) (by decide) (Or.inl rfl) R_10 f0 f4 (fun hq => absurd hq (by decide)) (fx_k (c := 13) R_10 (by decide +kernel)) e_14 (fx_f (j := 125) R_10.2 (fx_k (c := 13) R_10 (by decide +kernel)) (by decide +kernel)) fun S_15 R_16 E_17 => ?_
  have E_18 := Ext.tr E_12 E_17
  refine go_aload_n (n := 0) (by decide +kernel) l0 f0 ?_
  refine go_iconst (n := 0) (z := 0) (by decide +kernel) (by decide) fun v_19 f_20 => ?_
  obtain ⟨m_21, e_22, h⟩ := up_s h
  refine go_putf (x := 533) (ci := 13) (kf := 126) (fin := 0) (zt := 0) (by decide +kernel) (by decide +kernel) (by decide) (by decide +kernel) (by decide) (Or.inl rfl) R_16 f0 f_20 (fun hq => absurd hq (by decide)) (fx_k (c := 13) R_16 (by decide +kernel)) e_22 (fx_f (j := 126) R_16.2 (fx_k (c := 13) R_16 (by decide +kernel)) (by decide +kernel)) fun S_23 R_24 E_25 => ?_
  have E_26 := Ext.tr E_18 E_25
  refine go_aload_n (n := 0) (by decide +kernel) l0 f0 ?_
  refine go_iload_n (n := 2) (by decide +kernel) l2 f2 ?_
  obtain ⟨m_27, e_28, h⟩ := up_s h
  refine go_putf (x := 471) (ci := 13) (kf := 89) (fin := 0) (zt := 0) (by decide +kernel) (by decide +kernel) (by decide) (by decide +kernel) (by decide) (Or.inl rfl) R_24 f0 f2 (fun hq => absurd hq (by decide)) (fx_k (c := 13) R_24 (by decide +kernel)) e_28 (fx_f (j := 89) R_24.2 (fx_k (c := 13) R_24 (by decide +kernel)) (by decide +kernel)) fun S_29 R_30 E_31 => ?_
  have E_32 := Ext.tr E_26 E_31
  refine go_iconst (n := 0) (z := 0) (by decide +kernel) (by decide) fun v_33 f_34 => ?_
  refine go_istore (n := 6) (by decide +kernel) (by decide +kernel) f_34 fun L_35 l_36 kp_37 => ?_
  have l_38 := kp_37 0 _ l0 (by decide) (Or.inl (by decide))
  have l_39 := kp_37 1 _ l1 (by decide) (Or.inl (by decide))
  have l_40 := kp_37 3 _ l3 (by decide) (Or.inl (by decide))
  have l_41 := kp_37 5 _ l5 (by decide) (Or.inr (q_is_cat f5 (Or.inl rfl)))
  refine ol_X12_tellsRun_30 hd  ?_ (fun b => hQ (Ext.tr E_32 b)) BIG (Ext.rf _) h R_30 l_38 f0 l_39 f1 l_40 f3 l_41 f5 l_36 f_34
  intro m_84 E_85
  intro S_81 L_82 v_69 v_70 v_71 v_72
  intro h R_83 l_73 f_77 l_74 f_78 l_75 f_79 l_76 f_80
  have E_86 := Ext.tr E_32 E_85
  refine go_iconst (n := 0) (z := 0) (by decide +kernel) (by decide) fun v_87 f_88 => ?_
  refine go_istore (n := 6) (by decide +kernel) (by decide +kernel) f_88 fun L_89 l_90 kp_91 => ?_
  have l_92 := kp_91 0 _ l_73 (by decide) (Or.inl (by decide))
  have l_93 := kp_91 1 _ l_74 (by decide) (Or.inl (by decide))
  have l_94 := kp_91 3 _ l_75 (by decide) (Or.inl (by decide))
  have l_95 := kp_91 5 _ l_76 (by decide) (Or.inr (q_is_cat f_80 (Or.inl rfl)))
  refine ol_X12_tellsRun_54 hd  ?_ (fun b => hQ (Ext.tr E_86 b)) BIG (Ext.rf _) h R_83 l_92 f_77 l_93 f_78 l_94 f_79 l_95 f_80 l_90 f_88
  intro m_149 E_150
  intro S_146 L_147 v_134 v_135 v_136 v_137
  intro h R_148 l_138 f_142 l_139 f_143 l_140 f_144 l_141 f_145
  have E_151 := Ext.tr E_86 E_150
  refine go_aload_n (n := 0) (by decide +kernel) l_138 f_142 ?_
  refine go_iconst (n := 0) (z := 0) (by decide +kernel) (by decide) fun v_152 f_153 => ?_
  obtain ⟨m_154, e_155, h⟩ := up_s h
  refine go_putf (x := 368) (ci := 13) (kf := 91) (fin := 0) (zt := 0) (by decide +kernel) (by decide +kernel) (by decide) (by decide +kernel) (by decide) (Or.inl rfl) R_148 f_142 f_153 (fun hq => absurd hq (by decide)) (fx_k (c := 13) R_148 (by decide +kernel)) e_155 (fx_f (j := 91) R_148.2 (fx_k (c := 13) R_148 (by decide +kernel)) (by decide +kernel)) fun S_156 R_157 E_158 => ?_
  have E_159 := Ext.tr E_151 E_158
  refine go_aload_n (n := 0) (by decide +kernel) l_138 f_142 ?_
  refine go_iconst (n := 0) (z := 0) (by decide +kernel) (by decide) fun v_160 f_161 => ?_
  obtain ⟨m_162, e_163, h⟩ := up_s h
  refine go_putf (x := 422) (ci := 13) (kf := 92) (fin := 0) (zt := 0) (by decide +kernel) (by decide +kernel) (by decide) (by decide +kernel) (by decide) (Or.inl rfl) R_157 f_142 f_161 (fun hq => absurd hq (by decide)) (fx_k (c := 13) R_157 (by decide +kernel)) e_163 (fx_f (j := 92) R_157.2 (fx_k (c := 13) R_157 (by decide +kernel)) (by decide +kernel)) fun S_164 R_165 E_166 => ?_
  have E_167 := Ext.tr E_159 E_166
  refine go_aload_n (n := 0) (by decide +kernel) l_138 f_142 ?_
  refine go_iconst (n := 0) (z := 0) (by decide +kernel) (by decide) fun v_168 f_169 => ?_
  obtain ⟨m_170, e_171, h⟩ := up_s h
  refine go_putf (x := 483) (ci := 13) (kf := 103) (fin := 0) (zt := 0) (by decide +kernel) (by decide +kernel) (by decide) (by decide +kernel) (by decide) (Or.inl rfl) R_165 f_142 f_169 (fun hq => absurd hq (by decide)) (fx_k (c := 13) R_165 (by decide +kernel)) e_171 (fx_f (j := 103) R_165.2 (fx_k (c := 13) R_165 (by decide +kernel)) (by decide +kernel)) fun S_172 R_173 E_174 => ?_
  have E_175 := Ext.tr E_167 E_174
  refine go_aload_n (n := 0) (by decide +kernel) l_138 f_142 ?_
  refine go_iconst (n := 0) (z := 0) (by decide +kernel) (by decide) fun v_176 f_177 => ?_
  obtain ⟨m_178, e_179, h⟩ := up_s h
  refine go_putf (x := 458) (ci := 13) (kf := 105) (fin := 0) (zt := 0) (by decide +kernel) (by decide +kernel) (by decide) (by decide +kernel) (by decide) (Or.inl rfl) R_173 f_142 f_177 (fun hq => absurd hq (by decide)) (fx_k (c := 13) R_173 (by decide +kernel)) e_179 (fx_f (j := 105) R_173.2 (fx_k (c := 13) R_173 (by decide +kernel)) (by decide +kernel)) fun S_180 R_181 E_182 => ?_
  have E_183 := Ext.tr E_175 E_182
  refine go_aload_n (n := 0) (by decide +kernel) l_138 f_142 ?_
  refine go_iconst (n := 0) (z := 0) (by decide +kernel) (by decide) fun v_184 f_185 => ?_
  obtain ⟨m_186, e_187, h⟩ := up_s h
  refine go_putf (x := 465) (ci := 13) (kf := 110) (fin := 0) (zt := 0) (by decide +kernel) (by decide +kernel) (by decide) (by decide +kernel) (by decide) (Or.inl rfl) R_181 f_142 f_185 (fun hq => absurd hq (by decide)) (fx_k (c := 13) R_181 (by decide +kernel)) e_187 (fx_f (j := 110) R_181.2 (fx_k (c := 13) R_181 (by decide +kernel)) (by decide +kernel)) fun S_188 R_189 E_190 => ?_
  have E_191 := Ext.tr E_183 E_190
  refine go_aload_n (n := 0) (by decide +kernel) l_138 f_142 ?_
  refine go_iconst (n := 0) (z := 0) (by decide +kernel) (by decide) fun v_192 f_193 => ?_
  obtain ⟨m_194, e_195, h⟩ := up_s h
  refine go_putf (x := 518) (ci := 13) (kf := 111) (fin := 0) (zt := 1) (by decide +kernel) (by decide +kernel) (by decide) (by decide +kernel) (by decide) (Or.inl rfl) R_189 f_142 f_193 (fun _ => by decide) (fx_k (c := 13) R_189 (by decide +kernel)) e_195 (fx_f (j := 111) R_189.2 (fx_k (c := 13) R_189 (by decide +kernel)) (by decide +kernel)) fun S_196 R_197 E_198 => ?_
  have E_199 := Ext.tr E_191 E_198
  refine go_aload_n (n := 0) (by decide +kernel) l_138 f_142 ?_
  refine go_iconst (n := 0) (z := 0) (by decide +kernel) (by decide) fun v_200 f_201 => ?_
  obtain ⟨m_202, e_203, h⟩ := up_s h
  refine go_putf (x := 371) (ci := 13) (kf := 112) (fin := 0) (zt := 0) (by decide +kernel) (by decide +kernel) (by decide) (by decide +kernel) (by decide) (Or.inl rfl) R_197 f_142 f_201 (fun hq => absurd hq (by decide)) (fx_k (c := 13) R_197 (by decide +kernel)) e_203 (fx_f (j := 112) R_197.2 (fx_k (c := 13) R_197 (by decide +kernel)) (by decide +kernel)) fun S_204 R_205 E_206 => ?_
  have E_207 := Ext.tr E_199 E_206
  refine go_aload_n (n := 0) (by decide +kernel) l_138 f_142 ?_
  refine go_iconst (n := 0) (z := 0) (by decide +kernel) (by decide) fun v_208 f_209 => ?_
  obtain ⟨m_210, e_211, h⟩ := up_s h
  refine go_putf (x := 374) (ci := 13) (kf := 114) (fin := 0) (zt := 1) (by decide +kernel) (by decide +kernel) (by decide) (by decide +kernel) (by decide) (Or.inl rfl) R_205 f_142 f_209 (fun _ => by decide) (fx_k (c := 13) R_205 (by decide +kernel)) e_211 (fx_f (j := 114) R_205.2 (fx_k (c := 13) R_205 (by decide +kernel)) (by decide +kernel)) fun S_212 R_213 E_214 => ?_
  have E_215 := Ext.tr E_207 E_214
  refine go_aload_n (n := 0) (by decide +kernel) l_138 f_142 ?_
  refine go_iconst (n := 0) (z := 0) (by decide +kernel) (by decide) fun v_216 f_217 => ?_
  obtain ⟨m_218, e_219, h⟩ := up_s h
  refine go_putf (x := 381) (ci := 13) (kf := 116) (fin := 0) (zt := 0) (by decide +kernel) (by decide +kernel) (by decide) (by decide +kernel) (by decide) (Or.inl rfl) R_213 f_142 f_217 (fun hq => absurd hq (by decide)) (fx_k (c := 13) R_213 (by decide +kernel)) e_219 (fx_f (j := 116) R_213.2 (fx_k (c := 13) R_213 (by decide +kernel)) (by decide +kernel)) fun S_220 R_221 E_222 => ?_
  have E_223 := Ext.tr E_215 E_222
  refine go_aload_n (n := 0) (by decide +kernel) l_138 f_142 ?_
  refine go_iconst (n := 0) (z := 0) (by decide +kernel) (by decide) fun v_224 f_225 => ?_
  obtain ⟨m_226, e_227, h⟩ := up_s h
  refine go_putf (x := 404) (ci := 13) (kf := 117) (fin := 0) (zt := 0) (by decide +kernel) (by decide +kernel) (by decide) (by decide +kernel) (by decide) (Or.inl rfl) R_221 f_142 f_225 (fun hq => absurd hq (by decide)) (fx_k (c := 13) R_221 (by decide +kernel)) e_227 (fx_f (j := 117) R_221.2 (fx_k (c := 13) R_221 (by decide +kernel)) (by decide +kernel)) fun S_228 R_229 E_230 => ?_
  have E_231 := Ext.tr E_223 E_230
  refine go_aload_n (n := 0) (by decide +kernel) l_138 f_142 ?_
  refine go_iconst (n := 0) (z := 0) (by decide +kernel) (by decide) fun v_232 f_233 => ?_
  obtain ⟨m_234, e_235, h⟩ := up_s h
  refine go_putf (x := 416) (ci := 13) (kf := 120) (fin := 0) (zt := 0) (by decide +kernel) (by decide +kernel) (by decide) (by decide +kernel) (by decide) (Or.inl rfl) R_229 f_142 f_233 (fun hq => absurd hq (by decide)) (fx_k (c := 13) R_229 (by decide +kernel)) e_235 (fx_f (j := 120) R_229.2 (fx_k (c := 13) R_229 (by decide +kernel)) (by decide +kernel)) fun S_236 R_237 E_238 => ?_
  have E_239 := Ext.tr E_231 E_238
  refine go_aload_n (n := 0) (by decide +kernel) l_138 f_142 ?_
  refine go_iconst (n := 0) (z := 0) (by decide +kernel) (by decide) fun v_240 f_241 => ?_
  obtain ⟨m_242, e_243, h⟩ := up_s h
  refine go_putf (x := 536) (ci := 13) (kf := 123) (fin := 0) (zt := 0) (by decide +kernel) (by decide +kernel) (by decide) (by decide +kernel) (by decide) (Or.inl rfl) R_237 f_142 f_241 (fun hq => absurd hq (by decide)) (fx_k (c := 13) R_237 (by decide +kernel)) e_243 (fx_f (j := 123) R_237.2 (fx_k (c := 13) R_237 (by decide +kernel)) (by decide +kernel)) fun S_244 R_245 E_246 => ?_
  have E_247 := Ext.tr E_239 E_246
  refine go_aload_n (n := 0) (by decide +kernel) l_138 f_142 ?_
  refine go_iload (n := 5) (by decide +kernel) l_141 f_145 ?_
  obtain ⟨m_248, e_249, h⟩ := up_s h
  refine go_putf (x := 407) (ci := 13) (kf := 119) (fin := 0) (zt := 0) (by decide +kernel) (by decide +kernel) (by decide) (by decide +kernel) (by decide) (Or.inl rfl) R_245 f_142 f_145 (fun hq => absurd hq (by decide)) (fx_k (c := 13) R_245 (by decide +kernel)) e_249 (fx_f (j := 119) R_245.2 (fx_k (c := 13) R_245 (by decide +kernel)) (by decide +kernel)) fun S_250 R_251 E_252 => ?_
  have E_253 := Ext.tr E_247 E_252
  refine go_iconst (n := 0) (z := 0) (by decide +kernel) (by decide) fun v_254 f_255 => ?_
  refine go_istore (n := 6) (by decide +kernel) (by decide +kernel) f_255 fun L_256 l_257 kp_258 => ?_
  have l_259 := kp_258 0 _ l_138 (by decide) (Or.inl (by decide))
  have l_260 := kp_258 1 _ l_139 (by decide) (Or.inl (by decide))
  have l_261 := kp_258 3 _ l_140 (by decide) (Or.inl (by decide))
  refine ol_X12_tellsRun_151 hd   (fun b => hQ (Ext.tr E_253 b)) BIG (Ext.rf _) h R_251 l_259 f_142 l_260 f_143 l_261 f_144 l_257 f_255
end DF33
