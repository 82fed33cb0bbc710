/-! Methods as functions (written by wip/whole/dec.py), 33: X12_takes, X12_goesBy, X12_tellsRun. -/
section DF33
noncomputable def fj_X12_takes_126 (m : MM) : Option (Int × MM) := bp (fm_X12_goes m) fun x_100 =>
if x_100 = 0 then
some (0, m)
else
bd (fm_X12_goOn m) fun x_110 m_111 =>
some (0, m_111)
set_option maxHeartbeats 4000000 in
theorem oj_X12_takes_126 {xs : List Int32} {d : Nat} {S : QS} {L : QL} {Q : QO → QS → Prop} {m : MM} {v0 : Value}  {rz : Int} {rm : MM}
  (hd : 12 ≤ d) (R : Rp S m) (l0 : q_lo L 0 = some v0) (f0 : q_is 2 v0 68)
  (hQ : Ext m rm → ∀ o S1, Rp S1 rm → q_out 9 o rz → Q o S1)
  (h : fj_X12_takes_126 m = some (rz, rm)) : Go xs d qM_X12_takes 126 L [] S Q := by
  unfold fj_X12_takes_126 at h
  refine go_aload_n (n := 0) (by decide +kernel) l0 f0 ?_
  obtain ⟨x_100, hc_99, h⟩ := bp_s h
  refine go_callV (x := 439) (mi := 216) (n := 0) (ci := 13) (as := []) (rest := []) (by decide +kernel) (by decide +kernel) rfl rfl (q_sum8 _ (Nat.le_of_ble_eq_true rfl)) R f0 (fx_k (c := 13) R (by decide +kernel)) (om_X12_goes (Nat.le_trans (by decide) hd) R f0 hc_99) (fun _ S_104 q_107 => ?_) (fun _ _ qq => kr_x qq)
  refine kr_z (by decide) q_107 fun v_102 f_103 R_105 E_106 => ?_
  refine go_if (c := .eq) (o := 7) (t := 137) (P := x_100 = 0) (by decide +kernel) (by decide +kernel) f_103 (Iff.rfl) (fun hp_108 => ?_) (fun hp_108 => ?_)
  · have h := it_t hp_108 h
    cases h
    exact go_vret (by decide +kernel) rfl (hQ (Ext.rf _) _ _ R_105 q_out_n)
  · have h := it_f hp_108 h
    refine go_aload_n (n := 0) (by decide +kernel) l0 f0 ?_
    obtain ⟨x_110, m_111, hc_109, h⟩ := bd_s h
    refine go_callV (x := 530) (mi := 242) (n := 0) (ci := 13) (as := []) (rest := []) (by decide +kernel) (by decide +kernel) rfl rfl (q_sum8 _ (Nat.le_of_ble_eq_true rfl)) R_105 f0 (fx_k (c := 13) R_105 (by decide +kernel)) (om_X12_goOn (Nat.le_trans (by decide) hd) R_105 f0 hc_109) (fun _ S_114 q_117 => ?_) (fun _ _ qq => kr_x qq)
    refine kr_v q_117 fun R_115 E_116 => ?_
    have E_120 := E_116
    cases h
    exact go_vret (by decide +kernel) rfl (hQ E_120 _ _ R_115 q_out_n)
noncomputable def fm_X12_takes (p1 : Int) (m0 : MM) : Option (Int × MM) := lx (m0 68 88) fun x_4 =>
bp (fm_X12_kindAt x_4 p1 m0) fun x_7 =>
bp (fm_X12_xAt x_4 p1 m0) fun x_24 =>
bp (fm_X12_yAt x_4 p1 m0) fun x_42 =>
bp (fm_X12_whenAt x_4 p1 m0) fun x_61 =>
up m0 68 118 (Int.tmod x_61 1000) fun m_73 =>
if x_7 = 0 then
up m_73 142 0 x_24 fun m_183 =>
bd (fm_X12_begins 0 (-1) m_183) fun x_195 m_196 =>
fj_X12_takes_126 m_196
else
if x_7 = 4 then
gd (0 ≤ x_24 ∧ x_24 < 4) <| lx (m_73 155 x_24) fun x_147 =>
gd (0 ≤ w32 ((w32 (2048 * x_24)) + x_147) ∧ w32 ((w32 (2048 * x_24)) + x_147) < 8192) <| up m_73 157 (w32 ((w32 (2048 * x_24)) + x_147)) x_42 fun m_152 =>
lx (m_152 155 x_24) fun x_165 =>
up m_152 155 x_24 (w32 (x_165 + 1)) fun m_171 =>
fj_X12_takes_126 m_171
else
if x_7 = 7 then
bd (fm_X12_isCancelled m_73) fun x_122 m_123 =>
fj_X12_takes_126 m_123
else
bd (fm_X12_comesBack x_7 x_24 x_42 m_73) fun x_88 m_89 =>
fj_X12_takes_126 m_89
set_option maxHeartbeats 4000000 in
theorem om_X12_takes {xs : List Int32} {d : Nat} {S : QS} {m0 : MM} {p1 : Int} {v0 : Value} {v1 : Value} {rz : Int} {rm : MM}
  (hd : 13 ≤ d) (R : Rp S m0) (f0 : q_is 2 v0 68) (f1 : q_is 0 v1 p1)
  (h : fm_X12_takes p1 m0 = some (rz, rm)) : Mt xs d 247 [v0, v1] S (Cr 9 m0 rm rz) := by
  obtain ⟨d, rfl⟩ : ∃ e, d = e + 1 := ⟨d - 1, by omega⟩
  have hd : 12 ≤ d := Nat.le_of_succ_le_succ hd
  refine Mt.of (M := qM_X12_takes) rfl (by rw [sl_1 (q_is_cat f0 (Or.inr rfl)), sl_1 (q_is_cat f1 (Or.inl rfl)), sl_0]; decide) ?_
  rw [la_1 (q_is_cat f0 (Or.inr rfl)), la_1 (q_is_cat f1 (Or.inl rfl)), la_0]
  obtain ⟨L, hL⟩ : ∃ L : QL, L = [(0, v0), (0 + 1, v1)] := ⟨_, rfl⟩
  rw [← hL]
  have l0 : q_lo L 0 = some v0 := by rw [hL]; rfl
  have l1 : q_lo L 1 = some v1 := by rw [hL]; rfl
  have hQ : Ext m0 rm → ∀ o S1, Rp S1 rm → q_out 9 o rz → (Cr 9 m0 rm rz) o S1 := fun a o S1 b e => ⟨b, a, e⟩
  unfold fm_X12_takes at h
  refine go_aload_n (n := 0) (by decide +kernel) l0 f0 ?_
  refine go_aload_n (n := 0) (by decide +kernel) l0 f0 ?_
  obtain ⟨x_4, e_5, h⟩ := lx_s h
  refine go_getf (x := 387) (ci := 13) (kf := 88) (fin := 0) (t := 0) (by decide +kernel) (by decide +kernel) (by decide +kernel) R f0 (fx_k (c := 13) R (by decide +kernel)) fun v_1 f_2 => ?_
  have f_3 := q_is_eq f_2 e_5
  refine go_iload_n (n := 1) (by decide +kernel) l1 f1 ?_
  obtain ⟨x_7, hc_6, h⟩ := bp_s h
  refine go_callV (x := 341) (mi := 204) (n := 2) (ci := 13) (as := [v_1, v1]) (rest := []) (by decide +kernel) (by decide +kernel) rfl rfl (q_sum8 _ (Nat.le_of_ble_eq_true rfl)) R f0 (fx_k (c := 13) R (by decide +kernel)) (om_X12_kindAt (Nat.le_trans (by decide) hd) R f0 f_3 f1 hc_6) (fun _ S_11 q_14 => ?_) (fun _ _ qq => kr_x qq)
  refine kr_z (by decide) q_14 fun v_9 f_10 R_12 E_13 => ?_
  refine go_istore_n (n := 2) (by decide +kernel) (by decide +kernel) f_10 fun L_15 l_16 kp_17 => ?_
  have l_18 := kp_17 0 _ l0 (by decide) (Or.inl (by decide))
  have l_19 := kp_17 1 _ l1 (by decide) (Or.inr (q_is_cat f1 (Or.inl rfl)))
  refine go_aload_n (n := 0) (by decide +kernel) l_18 f0 ?_
  refine go_aload_n (n := 0) (by decide +kernel) l_18 f0 ?_
  refine go_getf (x := 387) (ci := 13) (kf := 88) (fin := 0) (t := 0) (by decide +kernel) (by decide +kernel) (by decide +kernel) R_12 f0 (fx_k (c := 13) R_12 (by decide +kernel)) fun v_20 f_21 => ?_
  have f_22 := q_is_eq f_21 e_5
  refine go_iload_n (n := 1) (by decide +kernel) l_19 f1 ?_
  obtain ⟨x_24, hc_23, h⟩ := bp_s h
  refine go_callV (x := 344) (mi := 206) (n := 2) (ci := 13) (as := [v_20, v1]) (rest := []) (by decide +kernel) (by decide +kernel) rfl rfl (q_sum8 _ (Nat.le_of_ble_eq_true rfl)) R_12 f0 (fx_k (c := 13) R_12 (by decide +kernel)) (om_X12_xAt (Nat.le_trans (by decide) hd) R_12 f0 f_22 f1 hc_23) (fun _ S_28 q_31 => ?_) (fun _ _ qq => kr_x qq)
  refine kr_z (by decide) q_31 fun v_26 f_27 R_29 E_30 => ?_
  refine go_istore_n (n := 3) (by decide +kernel) (by decide +kernel) f_27 fun L_32 l_33 kp_34 => ?_
  have l_35 := kp_34 0 _ l_18 (by decide) (Or.inl (by decide))
  have l_36 := kp_34 1 _ l_19 (by decide) (Or.inl (by decide))
  have l_37 := kp_34 2 _ l_16 (by decide) (Or.inr (q_is_cat f_10 (Or.inl rfl)))
  refine go_aload_n (n := 0) (by decide +kernel) l_35 f0 ?_
  refine go_aload_n (n := 0) (by decide +kernel) l_35 f0 ?_
  refine go_getf (x := 387) (ci := 13) (kf := 88) (fin := 0) (t := 0) (by decide +kernel) (by decide +kernel) (by decide +kernel) R_29 f0 (fx_k (c := 13) R_29 (by decide +kernel)) fun v_38 f_39 => ?_
  have f_40 := q_is_eq f_39 e_5
  refine go_iload_n (n := 1) (by decide +kernel) l_36 f1 ?_
  obtain ⟨x_42, hc_41, h⟩ := bp_s h
  refine go_callV (x := 397) (mi := 205) (n := 2) (ci := 13) (as := [v_38, v1]) (rest := []) (by decide +kernel) (by decide +kernel) rfl rfl (q_sum8 _ (Nat.le_of_ble_eq_true rfl)) R_29 f0 (fx_k (c := 13) R_29 (by decide +kernel)) (om_X12_yAt (Nat.le_trans (by decide) hd) R_29 f0 f_40 f1 hc_41) (fun _ S_46 q_49 => ?_) (fun _ _ qq => kr_x qq)
  refine kr_z (by decide) q_49 fun v_44 f_45 R_47 E_48 => ?_
  refine go_istore (n := 4) (by decide +kernel) (by decide +kernel) f_45 fun L_50 l_51 kp_52 => ?_
  have l_53 := kp_52 0 _ l_35 (by decide) (Or.inl (by decide))
  have l_54 := kp_52 1 _ l_36 (by decide) (Or.inl (by decide))
  have l_55 := kp_52 2 _ l_37 (by decide) (Or.inl (by decide))
  have l_56 := kp_52 3 _ l_33 (by decide) (Or.inr (q_is_cat f_27 (Or.inl rfl)))
  refine go_aload_n (n := 0) (by decide +kernel) l_53 f0 ?_
  refine go_aload_n (n := 0) (by decide +kernel) l_53 f0 ?_
  refine go_aload_n (n := 0) (by decide +kernel) l_53 f0 ?_
  refine go_getf (x := 387) (ci := 13) (kf := 88) (fin := 0) (t := 0) (by decide +kernel) (by decide +kernel) (by decide +kernel) R_47 f0 (fx_k (c := 13) R_47 (by decide +kernel)) fun v_57 f_58 => ?_
  have f_59 := q_is_eq f_58 e_5
  refine go_iload_n (n := 1) (by decide +kernel) l_54 f1 ?_
  obtain ⟨x_61, hc_60, h⟩ := bp_s h
  refine go_callV (x := 521) (mi := 207) (n := 2) (ci := 13) (as := [v_57, v1]) (rest := [v0]) (by decide +kernel) (by decide +kernel) rfl rfl (q_sum8 _ (Nat.le_of_ble_eq_true rfl)) R_47 f0 (fx_k (c := 13) R_47 (by decide +kernel)) (om_X12_whenAt (Nat.le_trans (by decide) hd) R_47 f0 f_59 f1 hc_60) (fun _ S_65 q_68 => ?_) (fun _ _ qq => kr_x qq)
  refine kr_z (by decide) q_68 fun v_63 f_64 R_66 E_67 => ?_
  refine go_sipush (n := 1000) (z := 1000) (by decide +kernel) (by decide) fun v_69 f_70 => ?_
  refine go_irem (by decide +kernel) f_64 f_70 (by decide) fun v_71 f_72 => ?_
  obtain ⟨m_73, e_74, h⟩ := up_s h
  refine go_putf (x := 494) (ci := 13) (kf := 118) (fin := 0) (zt := 0) (by decide +kernel) (by decide +kernel) (by decide) (by decide +kernel) (by decide) (Or.inl rfl) R_66 f0 f_72 (fun hq => absurd hq (by decide)) (fx_k (c := 13) R_66 (by decide +kernel)) e_74 (fx_f (j := 118) R_66.2 (fx_k (c := 13) R_66 (by decide +kernel)) (by decide +kernel)) fun S_75 R_76 E_77 => ?_
  have E_79 := E_77
  refine go_iload_n (n := 2) (by decide +kernel) l_55 f_10 ?_
  refine go_if (c := .ne) (o := 19) (t := 68) (P := ¬ (x_7 = 0)) (by decide +kernel) (by decide +kernel) f_10 (Iff.rfl) (fun hp_80 => ?_) (fun hp_80 => ?_)
  · have h := it_f hp_80 h
    refine go_iload_n (n := 2) (by decide +kernel) l_55 f_10 ?_
    refine go_iconst (n := 4) (z := 4) (by decide +kernel) (by decide) fun v_81 f_82 => ?_
    refine go_icmp (c := .ne) (o := 35) (t := 105) (P := ¬ (x_7 = 4)) (by decide +kernel) (by decide +kernel) f_10 f_82 (Iff.rfl) (fun hp_83 => ?_) (fun hp_83 => ?_)
    · have h := it_f hp_83 h
      refine go_iload_n (n := 2) (by decide +kernel) l_55 f_10 ?_
      refine go_bipush (n := 7) (z := 7) (by decide +kernel) (by decide) fun v_84 f_85 => ?_
      refine go_icmp (c := .ne) (o := 10) (t := 118) (P := ¬ (x_7 = 7)) (by decide +kernel) (by decide +kernel) f_10 f_85 (Iff.rfl) (fun hp_86 => ?_) (fun hp_86 => ?_)
      · have h := it_f hp_86 h
        refine go_aload_n (n := 0) (by decide +kernel) l_53 f0 ?_
        refine go_iload_n (n := 2) (by decide +kernel) l_55 f_10 ?_
        refine go_iload_n (n := 3) (by decide +kernel) l_56 f_27 ?_
        refine go_iload (n := 4) (by decide +kernel) l_51 f_45 ?_
        obtain ⟨x_88, m_89, hc_87, h⟩ := bd_s h
        refine go_callV (x := 527) (mi := 245) (n := 3) (ci := 13) (as := [v_9, v_26, v_44]) (rest := []) (by decide +kernel) (by decide +kernel) rfl rfl (q_sum8 _ (Nat.le_of_ble_eq_true rfl)) R_76 f0 (fx_k (c := 13) R_76 (by decide +kernel)) (om_X12_comesBack (Nat.le_trans (by decide) hd) R_76 f0 f_10 f_27 f_45 hc_87) (fun _ S_92 q_95 => ?_) (fun _ _ qq => kr_x qq)
        refine kr_v q_95 fun R_93 E_94 => ?_
        have E_98 := Ext.tr E_79 E_94
        exact oj_X12_takes_126 hd R_93 l_53 f0 (fun b => hQ (Ext.tr E_98 b)) h
      · have h := it_n hp_86 h
        refine go_aload_n (n := 0) (by decide +kernel) l_53 f0 ?_
        obtain ⟨x_122, m_123, hc_121, h⟩ := bd_s h
        refine go_callV (x := 524) (mi := 246) (n := 0) (ci := 13) (as := []) (rest := []) (by decide +kernel) (by decide +kernel) rfl rfl (q_sum8 _ (Nat.le_of_ble_eq_true rfl)) R_76 f0 (fx_k (c := 13) R_76 (by decide +kernel)) (om_X12_isCancelled (Nat.le_trans (by decide) hd) R_76 f0 hc_121) (fun _ S_126 q_129 => ?_) (fun _ _ qq => kr_x qq)
        refine kr_v q_129 fun R_127 E_128 => ?_
        have E_132 := Ext.tr E_79 E_128
        refine go_goto (o := 11) (t := 126) (by decide +kernel) (by decide +kernel) ?_
        exact oj_X12_takes_126 hd R_127 l_53 f0 (fun b => hQ (Ext.tr E_132 b)) h
    · have h := it_n hp_83 h
      refine go_aload_n (n := 0) (by decide +kernel) l_53 f0 ?_
      refine go_getf (x := 287) (ci := 13) (kf := 109) (fin := 1) (t := 2) (by decide +kernel) (by decide +kernel) (by decide +kernel) R_76 f0 (fx_k (c := 13) R_76 (by decide +kernel)) fun v_133 f_134 => ?_
      have f_135 := q_is_eq (b := 157) f_134 (fx_v R_76 (by decide +kernel)).symm
      refine go_sipush (n := 2048) (z := 2048) (by decide +kernel) (by decide) fun v_136 f_137 => ?_
      refine go_iload_n (n := 3) (by decide +kernel) l_56 f_27 ?_
      refine go_imul (by decide +kernel) f_137 f_27 fun v_138 f_139 => ?_
      refine go_aload_n (n := 0) (by decide +kernel) l_53 f0 ?_
      refine go_getf (x := 281) (ci := 13) (kf := 107) (fin := 1) (t := 2) (by decide +kernel) (by decide +kernel) (by decide +kernel) R_76 f0 (fx_k (c := 13) R_76 (by decide +kernel)) fun v_140 f_141 => ?_
      have f_142 := q_is_eq (b := 155) f_141 (fx_v R_76 (by decide +kernel)).symm
      refine go_iload_n (n := 3) (by decide +kernel) l_56 f_27 ?_
      obtain ⟨g_145, h⟩ := gd_s h
      obtain ⟨x_147, e_148, h⟩ := lx_s h
      refine go_iald (kd := 100) (by decide +kernel) rfl R_76 f_142 f_27 (fx_k (c := 100) R_76 (by decide +kernel)) (fx_x (a := 155) (ln := 4) R_76 (by decide +kernel) g_145) fun v_143 f_144 => ?_
      have f_146 := q_is_eq f_144 e_148
      refine go_iadd (by decide +kernel) f_139 f_146 fun v_149 f_150 => ?_
      refine go_iload (n := 4) (by decide +kernel) l_51 f_45 ?_
      obtain ⟨g_151, h⟩ := gd_s h
      obtain ⟨m_152, e_153, h⟩ := up_s h
      refine go_iast (kd := 100) (by decide +kernel) rfl R_76 f_135 f_150 f_45 (fx_k (c := 100) R_76 (by decide +kernel)) (fx_x (a := 157) (ln := 8192) R_76 (by decide +kernel) g_151) e_153 (fx_a R_76.2 (fx_k (c := 100) R_76 (by decide +kernel)) (And.left (fx_x (a := 157) (ln := 8192) R_76 (by decide +kernel) g_151)) (by decide +kernel)) fun S_154 R_155 E_156 => ?_
      have E_158 := Ext.tr E_79 E_156
      refine go_aload_n (n := 0) (by decide +kernel) l_53 f0 ?_
      refine go_getf (x := 281) (ci := 13) (kf := 107) (fin := 1) (t := 2) (by decide +kernel) (by decide +kernel) (by decide +kernel) R_155 f0 (fx_k (c := 13) R_155 (by decide +kernel)) fun v_159 f_160 => ?_
      have f_161 := q_is_eq (b := 155) f_160 (fx_v R_155 (by decide +kernel)).symm
      refine go_iload_n (n := 3) (by decide +kernel) l_56 f_27 ?_
      refine go_dup2 (by decide +kernel) f_27 (Or.inl rfl) f_161 (Or.inr rfl) ?_
      obtain ⟨x_165, e_166, h⟩ := lx_s h
      refine go_iald (kd := 100) (by decide +kernel) rfl R_155 f_161 f_27 (fx_k (c := 100) R_155 (by decide +kernel)) (fx_x (a := 155) (ln := 4) R_155 (by decide +kernel) g_145) fun v_162 f_163 => ?_
      have f_164 := q_is_eq f_163 e_166
      refine go_iconst (n := 1) (z := 1) (by decide +kernel) (by decide) fun v_167 f_168 => ?_
      refine go_iadd (by decide +kernel) f_164 f_168 fun v_169 f_170 => ?_
      obtain ⟨m_171, e_172, h⟩ := up_s h
      refine go_iast (kd := 100) (by decide +kernel) rfl R_155 f_161 f_27 f_170 (fx_k (c := 100) R_155 (by decide +kernel)) (fx_x (a := 155) (ln := 4) R_155 (by decide +kernel) g_145) e_172 (fx_a R_155.2 (fx_k (c := 100) R_155 (by decide +kernel)) (And.left (fx_x (a := 155) (ln := 4) R_155 (by decide +kernel) g_145)) (by decide +kernel)) fun S_173 R_174 E_175 => ?_
      have E_177 := Ext.tr E_158 E_175
      refine go_goto (o := 24) (t := 126) (by decide +kernel) (by decide +kernel) ?_
      exact oj_X12_takes_126 hd R_174 l_53 f0 (fun b => hQ (Ext.tr E_177 b)) h
  · have h := it_n hp_80 h
    refine go_aload_n (n := 0) (by decide +kernel) l_53 f0 ?_
    refine go_getf (x := 241) (ci := 13) (kf := 90) (fin := 1) (t := 2) (by decide +kernel) (by decide +kernel) (by decide +kernel) R_76 f0 (fx_k (c := 13) R_76 (by decide +kernel)) fun v_178 f_179 => ?_
    have f_180 := q_is_eq (b := 142) f_179 (fx_v R_76 (by decide +kernel)).symm
    refine go_iconst (n := 0) (z := 0) (by decide +kernel) (by decide) fun v_181 f_182 => ?_
    refine go_iload_n (n := 3) (by decide +kernel) l_56 f_27 ?_
    obtain ⟨m_183, e_184, h⟩ := up_s h
    refine go_iast (kd := 100) (by decide +kernel) rfl R_76 f_180 f_182 f_27 (fx_k (c := 100) R_76 (by decide +kernel)) (fx_x (a := 142) (ln := 6) R_76 (by decide +kernel) (by decide)) e_184 (fx_a R_76.2 (fx_k (c := 100) R_76 (by decide +kernel)) (And.left (fx_x (a := 142) (ln := 6) R_76 (by decide +kernel) (by decide))) (by decide +kernel)) fun S_185 R_186 E_187 => ?_
    have E_189 := Ext.tr E_79 E_187
    refine go_aload_n (n := 0) (by decide +kernel) l_53 f0 ?_
    refine go_iconst (n := 0) (z := 0) (by decide +kernel) (by decide) fun v_190 f_191 => ?_
    refine go_iconst (n := (-1)) (z := (-1)) (by decide +kernel) (by decide) fun v_192 f_193 => ?_
    obtain ⟨x_195, m_196, hc_194, h⟩ := bd_s h
    refine go_callV (x := 455) (mi := 223) (n := 2) (ci := 13) (as := [v_190, v_192]) (rest := []) (by decide +kernel) (by decide +kernel) rfl rfl (q_sum8 _ (Nat.le_of_ble_eq_true rfl)) R_186 f0 (fx_k (c := 13) R_186 (by decide +kernel)) (om_X12_begins (Nat.le_trans (by decide) hd) R_186 f0 f_191 f_193 hc_194) (fun _ S_199 q_202 => ?_) (fun _ _ qq => kr_x qq)
    refine kr_v q_202 fun R_200 E_201 => ?_
    have E_205 := Ext.tr E_189 E_201
    refine go_goto (o := 61) (t := 126) (by decide +kernel) (by decide +kernel) ?_
    exact oj_X12_takes_126 hd R_200 l_53 f0 (fun b => hQ (Ext.tr E_205 b)) h
noncomputable def fj_X12_goesBy_87 (c : MM → Option (Int × MM)) (y1 : Int) (m : MM) : Option (Int × MM) := lx (m 68 126) fun x_63 =>
up m 68 126 (w32 (x_63 + 1)) fun m_69 =>
c m_69
set_option maxHeartbeats 4000000 in
theorem oj_X12_goesBy_87 {xs : List Int32} {d : Nat} {S : QS} {L : QL} {Q : QO → QS → Prop} {m : MM} {y1 : Int} {v0 : Value} {v1 : Value}  {rz : Int} {rm : MM} {c : MM → Option (Int × MM)} 
  (hd : 3 ≤ d) (R : Rp S m) (l0 : q_lo L 0 = some v0) (f0 : q_is 2 v0 68) (l1 : q_lo L 1 = some v1) (f1 : q_is 0 v1 y1)
  (hc : ∀ mq : MM, Ext m mq → ∀ {Sq : QS} {Lq : QL} {u0 : Value} {u1 : Value}, c mq = some (rz, rm) → Rp Sq mq → q_lo Lq 0 = some u0 → q_is 2 u0 68 → q_lo Lq 1 = some u1 → q_is 0 u1 y1 → Go xs d qM_X12_goesBy 0 Lq [] Sq Q)
  (hQ : Ext m rm → ∀ o S1, Rp S1 rm → q_out 9 o rz → Q o S1)
  (h : fj_X12_goesBy_87 c y1 m = some (rz, rm)) : Go xs d qM_X12_goesBy 87 L [] S Q := by
  unfold fj_X12_goesBy_87 at h
  refine go_aload_n (n := 0) (by decide +kernel) l0 f0 ?_
  refine go_dup (by decide +kernel) f0 (Or.inr rfl) ?_
  obtain ⟨x_63, e_64, h⟩ := lx_s h
  refine go_getf (x := 533) (ci := 13) (kf := 126) (fin := 0) (t := 0) (by decide +kernel) (by decide +kernel) (by decide +kernel) R f0 (fx_k (c := 13) R (by decide +kernel)) fun v_60 f_61 => ?_
  have f_62 := q_is_eq f_61 e_64
  refine go_iconst (n := 1) (z := 1) (by decide +kernel) (by decide) fun v_65 f_66 => ?_
  refine go_iadd (by decide +kernel) f_62 f_66 fun v_67 f_68 => ?_
  obtain ⟨m_69, e_70, h⟩ := up_s h
  refine go_putf (x := 533) (ci := 13) (kf := 126) (fin := 0) (zt := 0) (by decide +kernel) (by decide +kernel) (by decide) (by decide +kernel) (by decide) (Or.inl rfl) R f0 f_68 (fun hq => absurd hq (by decide)) (fx_k (c := 13) R (by decide +kernel)) e_70 (fx_f (j := 126) R.2 (fx_k (c := 13) R (by decide +kernel)) (by decide +kernel)) fun S_71 R_72 E_73 => ?_
  have E_75 := E_73
  refine go_goto (o := (-97)) (t := 0) (by decide +kernel) (by decide +kernel) ?_
  exact hc m_69 E_75 h R_72 l0 f0 l1 f1
noncomputable def fj_X12_goesBy_51 (c : MM → Option (Int × MM)) (y1 : Int) (m : MM) : Option (Int × MM) := lx (m 68 88) fun x_41 =>
lx (m 68 126) fun x_46 =>
bp (fm_X12_kindAt x_41 x_46 m) fun x_49 =>
if x_49 = 17 then
bd (fm_X12_nextCommand m) fun x_77 m_78 =>
lx (m_78 68 126) fun x_91 =>
if x_77 < x_91 then
bd (fm_X12_nextCommand m_78) fun x_95 m_96 =>
bd (fm_X12_differs x_95 m_96) fun x_107 m_108 =>
fj_X12_goesBy_87 c y1 m_108
else
fj_X12_goesBy_87 c y1 m_78
else
fj_X12_goesBy_87 c y1 m
set_option maxHeartbeats 4000000 in
theorem oj_X12_goesBy_51 {xs : List Int32} {d : Nat} {S : QS} {L : QL} {Q : QO → QS → Prop} {m : MM} {y1 : Int} {v0 : Value} {v1 : Value}  {rz : Int} {rm : MM} {c : MM → Option (Int × MM)} 
  (hd : 3 ≤ d) (R : Rp S m) (l0 : q_lo L 0 = some v0) (f0 : q_is 2 v0 68) (l1 : q_lo L 1 = some v1) (f1 : q_is 0 v1 y1)
  (hc : ∀ mq : MM, Ext m mq → ∀ {Sq : QS} {Lq : QL} {u0 : Value} {u1 : Value}, c mq = some (rz, rm) → Rp Sq mq → q_lo Lq 0 = some u0 → q_is 2 u0 68 → q_lo Lq 1 = some u1 → q_is 0 u1 y1 → Go xs d qM_X12_goesBy 0 Lq [] Sq Q)
  (hQ : Ext m rm → ∀ o S1, Rp S1 rm → q_out 9 o rz → Q o S1)
  (h : fj_X12_goesBy_51 c y1 m = some (rz, rm)) : Go xs d qM_X12_goesBy 51 L [] S Q := by
  unfold fj_X12_goesBy_51 at h
  refine go_aload_n (n := 0) (by decide +kernel) l0 f0 ?_
  refine go_aload_n (n := 0) (by decide +kernel) l0 f0 ?_
  obtain ⟨x_41, e_42, h⟩ := lx_s h
  refine go_getf (x := 387) (ci := 13) (kf := 88) (fin := 0) (t := 0) (by decide +kernel) (by decide +kernel) (by decide +kernel) R f0 (fx_k (c := 13) R (by decide +kernel)) fun v_38 f_39 => ?_
  have f_40 := q_is_eq f_39 e_42
  refine go_aload_n (n := 0) (by decide +kernel) l0 f0 ?_
  obtain ⟨x_46, e_47, h⟩ := lx_s h
  refine go_getf (x := 533) (ci := 13) (kf := 126) (fin := 0) (t := 0) (by decide +kernel) (by decide +kernel) (by decide +kernel) R f0 (fx_k (c := 13) R (by decide +kernel)) fun v_43 f_44 => ?_
  have f_45 := q_is_eq f_44 e_47
  obtain ⟨x_49, hc_48, h⟩ := bp_s h
  refine go_callV (x := 341) (mi := 204) (n := 2) (ci := 13) (as := [v_38, v_43]) (rest := []) (by decide +kernel) (by decide +kernel) rfl rfl (q_sum8 _ (Nat.le_of_ble_eq_true rfl)) R f0 (fx_k (c := 13) R (by decide +kernel)) (om_X12_kindAt (Nat.le_trans (by decide) hd) R f0 f_40 f_45 hc_48) (fun _ S_53 q_56 => ?_) (fun _ _ qq => kr_x qq)
  refine kr_z (by decide) q_56 fun v_51 f_52 R_54 E_55 => ?_
  refine go_bipush (n := 17) (z := 17) (by decide +kernel) (by decide) fun v_57 f_58 => ?_
  refine go_icmp (c := .ne) (o := 22) (t := 87) (P := ¬ (x_49 = 17)) (by decide +kernel) (by decide +kernel) f_52 f_58 (Iff.rfl) (fun hp_59 => ?_) (fun hp_59 => ?_)
  · have h := it_f hp_59 h
    exact oj_X12_goesBy_87 hd R_54 l0 f0 l1 f1 hc hQ h
  · have h := it_n hp_59 h
    refine go_aload_n (n := 0) (by decide +kernel) l0 f0 ?_
    obtain ⟨x_77, m_78, hc_76, h⟩ := bd_s h
    refine go_callV (x := 393) (mi := 219) (n := 0) (ci := 13) (as := []) (rest := []) (by decide +kernel) (by decide +kernel) rfl rfl (q_sum8 _ (Nat.le_of_ble_eq_true rfl)) R_54 f0 (fx_k (c := 13) R_54 (by decide +kernel)) (om_X12_nextCommand (Nat.le_trans (by decide) hd) R_54 f0 hc_76) (fun _ S_81 q_84 => ?_) (fun _ _ qq => kr_x qq)
    refine kr_z (by decide) q_84 fun v_79 f_80 R_82 E_83 => ?_
    have E_87 := E_83
    refine go_aload_n (n := 0) (by decide +kernel) l0 f0 ?_
    obtain ⟨x_91, e_92, h⟩ := lx_s h
    refine go_getf (x := 533) (ci := 13) (kf := 126) (fin := 0) (t := 0) (by decide +kernel) (by decide +kernel) (by decide +kernel) R_82 f0 (fx_k (c := 13) R_82 (by decide +kernel)) fun v_88 f_89 => ?_
    have f_90 := q_is_eq f_89 e_92
    refine go_icmp (c := .ge) (o := 11) (t := 87) (P := ¬ (x_77 < x_91)) (by decide +kernel) (by decide +kernel) f_80 f_90 (Int.not_lt.symm) (fun hp_93 => ?_) (fun hp_93 => ?_)
    · have h := it_f hp_93 h
      exact oj_X12_goesBy_87 hd R_82 l0 f0 l1 f1 (fun mq b => hc mq (Ext.tr E_87 b)) (fun b => hQ (Ext.tr E_87 b)) h
    · have h := it_n hp_93 h
      refine go_aload_n (n := 0) (by decide +kernel) l0 f0 ?_
      refine go_aload_n (n := 0) (by decide +kernel) l0 f0 ?_
      obtain ⟨x_95, m_96, hc_94, h⟩ := bd_s h
      refine go_callV (x := 393) (mi := 219) (n := 0) (ci := 13) (as := []) (rest := [v0]) (by decide +kernel) (by decide +kernel) rfl rfl (q_sum8 _ (Nat.le_of_ble_eq_true rfl)) R_82 f0 (fx_k (c := 13) R_82 (by decide +kernel)) (om_X12_nextCommand (Nat.le_trans (by decide) hd) R_82 f0 hc_94) (fun _ S_99 q_102 => ?_) (fun _ _ qq => kr_x qq)
      refine kr_z (by decide) q_102 fun v_97 f_98 R_100 E_101 => ?_
      have E_105 := Ext.tr E_87 E_101
      obtain ⟨x_107, m_108, hc_106, h⟩ := bd_s h
      refine go_callV (x := 400) (mi := 218) (n := 1) (ci := 13) (as := [v_97]) (rest := []) (by decide +kernel) (by decide +kernel) rfl rfl (q_sum8 _ (Nat.le_of_ble_eq_true rfl)) R_100 f0 (fx_k (c := 13) R_100 (by decide +kernel)) (om_X12_differs (Nat.le_trans (by decide) hd) R_100 f0 f_98 hc_106) (fun _ S_111 q_114 => ?_) (fun _ _ qq => kr_x qq)
      refine kr_v q_114 fun R_112 E_113 => ?_
      have E_117 := Ext.tr E_105 E_113
      exact oj_X12_goesBy_87 hd R_112 l0 f0 l1 f1 (fun mq b => hc mq (Ext.tr E_117 b)) (fun b => hQ (Ext.tr E_117 b)) h
noncomputable def fl_X12_goesBy_0 (y1 : Int) : Nat → MM → Option (Int × MM)
  | 0, _ => none
  | n + 1, m => lx (m 68 126) fun x_4 =>
lx (m 68 124) fun x_9 =>
if x_4 < x_9 then
lx (m 68 114) fun x_15 =>
if x_15 = 0 then
lx (m 68 88) fun x_21 =>
bp (fm_X12_kindAt x_21 x_4 m) fun x_27 =>
if x_27 = 17 then
bp (fm_X12_xAt x_21 x_4 m) fun x_125 =>
if y1 < x_125 then
some (0, m)
else
fj_X12_goesBy_51 (fl_X12_goesBy_0 y1 n) y1 m
else
fj_X12_goesBy_51 (fl_X12_goesBy_0 y1 n) y1 m
else
some (0, m)
else
some (0, m)
set_option maxHeartbeats 4000000 in
theorem ol_X12_goesBy_0 {xs : List Int32} {d : Nat} {Q : QO → QS → Prop} {mb : MM} {y1 : Int} {rz : Int} {rm : MM}
  (hd : 3 ≤ d)
  (hQ : Ext mb rm → ∀ o S1, Rp S1 rm → q_out 9 o rz → Q o S1) :
  ∀ (n : Nat) {m : MM} {S : QS} {L : QL} {v0 : Value} {v1 : Value} , Ext mb m → fl_X12_goesBy_0 y1 n m = some (rz, rm) → Rp S m → q_lo L 0 = some v0 → q_is 2 v0 68 → q_lo L 1 = some v1 → q_is 0 v1 y1 → Go xs d qM_X12_goesBy 0 L [] S Q := by
  intro n
  induction n with
  | zero => intro m S L v0 v1; intro E h R l0 f0 l1 f1; cases h
  | succ n ih0 =>
    intro m S L v0 v1; intro E h R l0 f0 l1 f1
    have ih : ∀ mq : MM, Ext mb mq → ∀ {Sq : QS} {Lq : QL} {u0 : Value} {u1 : Value}, fl_X12_goesBy_0 y1 n mq = some (rz, rm) → Rp Sq mq → q_lo Lq 0 = some u0 → q_is 2 u0 68 → q_lo Lq 1 = some u1 → q_is 0 u1 y1 → Go xs d qM_X12_goesBy 0 Lq [] Sq Q := fun mq b => by intros; exact ih0 b ‹_› ‹_› ‹_› ‹_› ‹_› ‹_›
    unfold fl_X12_goesBy_0 at h
    refine go_aload_n (n := 0) (by decide +kernel) l0 f0 ?_
    obtain ⟨x_4, e_5, h⟩ := lx_s h
    refine go_getf (x := 533) (ci := 13) (kf := 126) (fin := 0) (t := 0) (by decide +kernel) (by decide +kernel) (by decide +kernel) R f0 (fx_k (c := 13) R (by decide +kernel)) fun v_1 f_2 => ?_
    have f_3 := q_is_eq f_2 e_5
    refine go_aload_n (n := 0) (by decide +kernel) l0 f0 ?_
    obtain ⟨x_9, e_10, h⟩ := lx_s h
    refine go_getf (x := 384) (ci := 13) (kf := 124) (fin := 0) (t := 0) (by decide +kernel) (by decide +kernel) (by decide +kernel) R f0 (fx_k (c := 13) R (by decide +kernel)) fun v_6 f_7 => ?_
    have f_8 := q_is_eq f_7 e_10
    refine go_icmp (c := .ge) (o := 92) (t := 100) (P := ¬ (x_4 < x_9)) (by decide +kernel) (by decide +kernel) f_3 f_8 (Int.not_lt.symm) (fun hp_11 => ?_) (fun hp_11 => ?_)
    · have h := it_f hp_11 h
      cases h
      exact go_vret (by decide +kernel) rfl (hQ E _ _ R q_out_n)
    · have h := it_n hp_11 h
      refine go_aload_n (n := 0) (by decide +kernel) l0 f0 ?_
      obtain ⟨x_15, e_16, h⟩ := lx_s h
      refine go_getf (x := 374) (ci := 13) (kf := 114) (fin := 0) (t := 0) (by decide +kernel) (by decide +kernel) (by decide +kernel) R f0 (fx_k (c := 13) R (by decide +kernel)) fun v_12 f_13 => ?_
      have f_14 := q_is_eq f_13 e_16
      refine go_if (c := .ne) (o := 85) (t := 100) (P := ¬ (x_15 = 0)) (by decide +kernel) (by decide +kernel) f_14 (Iff.rfl) (fun hp_17 => ?_) (fun hp_17 => ?_)
      · have h := it_f hp_17 h
        cases h
        exact go_vret (by decide +kernel) rfl (hQ E _ _ R q_out_n)
      · have h := it_n hp_17 h
        refine go_aload_n (n := 0) (by decide +kernel) l0 f0 ?_
        refine go_aload_n (n := 0) (by decide +kernel) l0 f0 ?_
        obtain ⟨x_21, e_22, h⟩ := lx_s h
        refine go_getf (x := 387) (ci := 13) (kf := 88) (fin := 0) (t := 0) (by decide +kernel) (by decide +kernel) (by decide +kernel) R f0 (fx_k (c := 13) R (by decide +kernel)) fun v_18 f_19 => ?_
        have f_20 := q_is_eq f_19 e_22
        refine go_aload_n (n := 0) (by decide +kernel) l0 f0 ?_
        refine go_getf (x := 533) (ci := 13) (kf := 126) (fin := 0) (t := 0) (by decide +kernel) (by decide +kernel) (by decide +kernel) R f0 (fx_k (c := 13) R (by decide +kernel)) fun v_23 f_24 => ?_
        have f_25 := q_is_eq f_24 e_5
        obtain ⟨x_27, hc_26, h⟩ := bp_s h
        refine go_callV (x := 341) (mi := 204) (n := 2) (ci := 13) (as := [v_18, v_23]) (rest := []) (by decide +kernel) (by decide +kernel) rfl rfl (q_sum8 _ (Nat.le_of_ble_eq_true rfl)) R f0 (fx_k (c := 13) R (by decide +kernel)) (om_X12_kindAt (Nat.le_trans (by decide) hd) R f0 f_20 f_25 hc_26) (fun _ S_31 q_34 => ?_) (fun _ _ qq => kr_x qq)
        refine kr_z (by decide) q_34 fun v_29 f_30 R_32 E_33 => ?_
        refine go_bipush (n := 17) (z := 17) (by decide +kernel) (by decide) fun v_35 f_36 => ?_
        refine go_icmp (c := .ne) (o := 19) (t := 51) (P := ¬ (x_27 = 17)) (by decide +kernel) (by decide +kernel) f_30 f_36 (Iff.rfl) (fun hp_37 => ?_) (fun hp_37 => ?_)
        · have h := it_f hp_37 h
          exact oj_X12_goesBy_51 hd R_32 l0 f0 l1 f1 (fun mq b => ih mq (Ext.tr E b)) (fun b => hQ (Ext.tr E b)) h
        · have h := it_n hp_37 h
          refine go_aload_n (n := 0) (by decide +kernel) l0 f0 ?_
          refine go_aload_n (n := 0) (by decide +kernel) l0 f0 ?_
          refine go_getf (x := 387) (ci := 13) (kf := 88) (fin := 0) (t := 0) (by decide +kernel) (by decide +kernel) (by decide +kernel) R_32 f0 (fx_k (c := 13) R_32 (by decide +kernel)) fun v_118 f_119 => ?_
          have f_120 := q_is_eq f_119 e_22
          refine go_aload_n (n := 0) (by decide +kernel) l0 f0 ?_
          refine go_getf (x := 533) (ci := 13) (kf := 126) (fin := 0) (t := 0) (by decide +kernel) (by decide +kernel) (by decide +kernel) R_32 f0 (fx_k (c := 13) R_32 (by decide +kernel)) fun v_121 f_122 => ?_
          have f_123 := q_is_eq f_122 e_5
          obtain ⟨x_125, hc_124, h⟩ := bp_s h
          refine go_callV (x := 344) (mi := 206) (n := 2) (ci := 13) (as := [v_118, v_121]) (rest := []) (by decide +kernel) (by decide +kernel) rfl rfl (q_sum8 _ (Nat.le_of_ble_eq_true rfl)) R_32 f0 (fx_k (c := 13) R_32 (by decide +kernel)) (om_X12_xAt (Nat.le_trans (by decide) hd) R_32 f0 f_120 f_123 hc_124) (fun _ S_129 q_132 => ?_) (fun _ _ qq => kr_x qq)
          refine kr_z (by decide) q_132 fun v_127 f_128 R_130 E_131 => ?_
          refine go_iload_n (n := 1) (by decide +kernel) l1 f1 ?_
          refine go_icmp (c := .gt) (o := 52) (t := 100) (P := y1 < x_125) (by decide +kernel) (by decide +kernel) f_128 f1 (Iff.rfl) (fun hp_133 => ?_) (fun hp_133 => ?_)
          · have h := it_t hp_133 h
            cases h
            exact go_vret (by decide +kernel) rfl (hQ E _ _ R_130 q_out_n)
          · have h := it_f hp_133 h
            exact oj_X12_goesBy_51 hd R_130 l0 f0 l1 f1 (fun mq b => ih mq (Ext.tr E b)) (fun b => hQ (Ext.tr E b)) h
noncomputable def fm_X12_goesBy (p1 : Int) (m0 : MM) : Option (Int × MM) := fl_X12_goesBy_0 p1  BIG m0
set_option maxHeartbeats 4000000 in
theorem om_X12_goesBy {xs : List Int32} {d : Nat} {S : QS} {m0 : MM} {p1 : Int} {v0 : Value} {v1 : Value} {rz : Int} {rm : MM}
  (hd : 4 ≤ d) (R : Rp S m0) (f0 : q_is 2 v0 68) (f1 : q_is 0 v1 p1)
  (h : fm_X12_goesBy p1 m0 = some (rz, rm)) : Mt xs d 248 [v0, v1] S (Cr 9 m0 rm rz) := by
  obtain ⟨d, rfl⟩ : ∃ e, d = e + 1 := ⟨d - 1, by omega⟩
  have hd : 3 ≤ d := Nat.le_of_succ_le_succ hd
  refine Mt.of (M := qM_X12_goesBy) rfl (by rw [sl_1 (q_is_cat f0 (Or.inr rfl)), sl_1 (q_is_cat f1 (Or.inl rfl)), sl_0]; decide) ?_
  rw [la_1 (q_is_cat f0 (Or.inr rfl)), la_1 (q_is_cat f1 (Or.inl rfl)), la_0]
  obtain ⟨L, hL⟩ : ∃ L : QL, L = [(0, v0), (0 + 1, v1)] := ⟨_, rfl⟩
  rw [← hL]
  have l0 : q_lo L 0 = some v0 := by rw [hL]; rfl
  have l1 : q_lo L 1 = some v1 := by rw [hL]; rfl
  have hQ : Ext m0 rm → ∀ o S1, Rp S1 rm → q_out 9 o rz → (Cr 9 m0 rm rz) o S1 := fun a o S1 b e => ⟨b, a, e⟩
  unfold fm_X12_goesBy at h
  refine ol_X12_goesBy_0 hd   hQ BIG (Ext.rf _) h R l0 f0 l1 f1
noncomputable def fl_X12_tellsRun_30 (y1 y3 y5 : Int) (k51 : MM → Option (Int × MM)) : Nat → Int → MM → Option (Int × MM)
  | 0, _, _ => none
  | n + 1, y6, m => if y6 < 6 then
gd (0 ≤ y6 ∧ y6 < 6) <| up m 142 y6 0 fun m_56 =>
lx (w32 (y6 + 1)) fun x_68 =>
fl_X12_tellsRun_30 y1 y3 y5 k51 n x_68 m_56
else
k51 m
set_option maxHeartbeats 4000000 in
theorem ol_X12_tellsRun_30 {xs : List Int32} {d : Nat} {Q : QO → QS → Prop} {mb : MM} {y1 y3 y5 : Int} {k51 : MM → Option (Int × MM)} {rz : Int} {rm : MM}
  (hd : 13 ≤ d)
  (hk51 : ∀ mq : MM, Ext mb mq → ∀ {Sq : QS} {Lq : QL} {u0 : Value} {u1 : Value} {u3 : Value} {u5 : Value}, k51 mq = some (rz, rm) → Rp Sq mq → q_lo Lq 0 = some u0 → q_is 2 u0 68 → q_lo Lq 1 = some u1 → q_is 0 u1 y1 → q_lo Lq 3 = some u3 → q_is 0 u3 y3 → q_lo Lq 5 = some u5 → q_is 0 u5 y5 → Go xs d qM_X12_tellsRun 51 Lq [] Sq Q)
  (hQ : Ext mb rm → ∀ o S1, Rp S1 rm → q_out 9 o rz → Q o S1) :
  ∀ (n : Nat) {m : MM} {S : QS} {L : QL} {y6 : Int} {v0 : Value} {v1 : Value} {v3 : Value} {v5 : Value} {v6 : Value} , Ext mb m → fl_X12_tellsRun_30 y1 y3 y5 k51 n y6 m = some (rz, rm) → Rp S m → q_lo L 0 = some v0 → q_is 2 v0 68 → q_lo L 1 = some v1 → q_is 0 v1 y1 → q_lo L 3 = some v3 → q_is 0 v3 y3 → q_lo L 5 = some v5 → q_is 0 v5 y5 → q_lo L 6 = some v6 → q_is 0 v6 y6 → Go xs d qM_X12_tellsRun 30 L [] S Q := by
  intro n
  induction n with
  | zero => intro m S L y6 v0 v1 v3 v5 v6; intro E h R l0 f0 l1 f1 l3 f3 l5 f5 l6 f6; cases h
  | succ n ih0 =>
    intro m S L y6 v0 v1 v3 v5 v6; intro E h R l0 f0 l1 f1 l3 f3 l5 f5 l6 f6
    have ih : ∀ mq : MM, Ext mb mq → ∀ {z6 : Int} {Sq : QS} {Lq : QL} {u0 : Value} {u1 : Value} {u3 : Value} {u5 : Value} {u6 : Value}, fl_X12_tellsRun_30 y1 y3 y5 k51 n z6 mq = some (rz, rm) → Rp Sq mq → q_lo Lq 0 = some u0 → q_is 2 u0 68 → q_lo Lq 1 = some u1 → q_is 0 u1 y1 → q_lo Lq 3 = some u3 → q_is 0 u3 y3 → q_lo Lq 5 = some u5 → q_is 0 u5 y5 → q_lo Lq 6 = some u6 → q_is 0 u6 z6 → Go xs d qM_X12_tellsRun 30 Lq [] Sq Q := fun mq b => by intros; exact ih0 b ‹_› ‹_› ‹_› ‹_› ‹_› ‹_› ‹_› ‹_› ‹_› ‹_› ‹_› ‹_›
    unfold fl_X12_tellsRun_30 at h
    refine go_iload (n := 6) (by decide +kernel) l6 f6 ?_
    refine go_bipush (n := 6) (z := 6) (by decide +kernel) (by decide) fun v_47 f_48 => ?_
    refine go_icmp (c := .ge) (o := 17) (t := 51) (P := ¬ (y6 < 6)) (by decide +kernel) (by decide +kernel) f6 f_48 (Int.not_lt.symm) (fun hp_49 => ?_) (fun hp_49 => ?_)
    · have h := it_f hp_49 h
      exact hk51 m E h R l0 f0 l1 f1 l3 f3 l5 f5
    · have h := it_n hp_49 h
      refine go_aload_n (n := 0) (by decide +kernel) l0 f0 ?_
      refine go_getf (x := 241) (ci := 13) (kf := 90) (fin := 1) (t := 2) (by decide +kernel) (by decide +kernel) (by decide +kernel) R f0 (fx_k (c := 13) R (by decide +kernel)) fun v_50 f_51 => ?_
      have f_52 := q_is_eq (b := 142) f_51 (fx_v R (by decide +kernel)).symm
      refine go_iload (n := 6) (by decide +kernel) l6 f6 ?_
      refine go_iconst (n := 0) (z := 0) (by decide +kernel) (by decide) fun v_53 f_54 => ?_
      obtain ⟨g_55, h⟩ := gd_s h
      obtain ⟨m_56, e_57, h⟩ := up_s h
      refine go_iast (kd := 100) (by decide +kernel) rfl R f_52 f6 f_54 (fx_k (c := 100) R (by decide +kernel)) (fx_x (a := 142) (ln := 6) R (by decide +kernel) g_55) e_57 (fx_a R.2 (fx_k (c := 100) R (by decide +kernel)) (And.left (fx_x (a := 142) (ln := 6) R (by decide +kernel) g_55)) (by decide +kernel)) fun S_58 R_59 E_60 => ?_
      have E_62 := Ext.tr E E_60
      refine go_iinc (n := 6) (c := 1) (c' := 1) (by decide +kernel) (by decide +kernel) l6 f6 (by decide) fun L_63 v_64 f_65 l_66 kp_67 => ?_
      obtain ⟨x_68, e_69, h⟩ := lx_s h
      have f_70 := q_is_eq f_65 e_69
      have l_71 := kp_67 0 _ l0 (by decide) (Or.inl (by decide))
      have l_72 := kp_67 1 _ l1 (by decide) (Or.inl (by decide))
      have l_73 := kp_67 3 _ l3 (by decide) (Or.inl (by decide))
      have l_74 := kp_67 5 _ l5 (by decide) (Or.inr (q_is_cat f5 (Or.inl rfl)))
      refine go_goto (o := (-18)) (t := 30) (by decide +kernel) (by decide +kernel) ?_
      exact ih m_56 E_62 h R_59 l_71 f0 l_72 f1 l_73 f3 l_74 f5 l_66 f_70
noncomputable def fl_X12_tellsRun_54 (y1 y3 y5 : Int) (k82 : MM → Option (Int × MM)) : Nat → Int → MM → Option (Int × MM)
  | 0, _, _ => none
  | n + 1, y6, m => if y6 < 4 then
gd (0 ≤ y6 ∧ y6 < 4) <| up m 155 y6 0 fun m_113 =>
up m_113 156 y6 0 fun m_125 =>
lx (w32 (y6 + 1)) fun x_137 =>
fl_X12_tellsRun_54 y1 y3 y5 k82 n x_137 m_125
else
k82 m
set_option maxHeartbeats 4000000 in
theorem ol_X12_tellsRun_54 {xs : List Int32} {d : Nat} {Q : QO → QS → Prop} {mb : MM} {y1 y3 y5 : Int} {k82 : MM → Option (Int × MM)} {rz : Int} {rm : MM}
  (hd : 13 ≤ d)
  (hk82 : ∀ mq : MM, Ext mb mq → ∀ {Sq : QS} {Lq : QL} {u0 : Value} {u1 : Value} {u3 : Value} {u5 : Value}, k82 mq = some (rz, rm) → Rp Sq mq → q_lo Lq 0 = some u0 → q_is 2 u0 68 → q_lo Lq 1 = some u1 → q_is 0 u1 y1 → q_lo Lq 3 = some u3 → q_is 0 u3 y3 → q_lo Lq 5 = some u5 → q_is 0 u5 y5 → Go xs d qM_X12_tellsRun 82 Lq [] Sq Q)
  (hQ : Ext mb rm → ∀ o S1, Rp S1 rm → q_out 9 o rz → Q o S1) :
  ∀ (n : Nat) {m : MM} {S : QS} {L : QL} {y6 : Int} {v0 : Value} {v1 : Value} {v3 : Value} {v5 : Value} {v6 : Value} , Ext mb m → fl_X12_tellsRun_54 y1 y3 y5 k82 n y6 m = some (rz, rm) → Rp S m → q_lo L 0 = some v0 → q_is 2 v0 68 → q_lo L 1 = some v1 → q_is 0 v1 y1 → q_lo L 3 = some v3 → q_is 0 v3 y3 → q_lo L 5 = some v5 → q_is 0 v5 y5 → q_lo L 6 = some v6 → q_is 0 v6 y6 → Go xs d qM_X12_tellsRun 54 L [] S Q := by
  intro n
  induction n with
  | zero => intro m S L y6 v0 v1 v3 v5 v6; intro E h R l0 f0 l1 f1 l3 f3 l5 f5 l6 f6; cases h
  | succ n ih0 =>
    intro m S L y6 v0 v1 v3 v5 v6; intro E h R l0 f0 l1 f1 l3 f3 l5 f5 l6 f6
    have ih : ∀ mq : MM, Ext mb mq → ∀ {z6 : Int} {Sq : QS} {Lq : QL} {u0 : Value} {u1 : Value} {u3 : Value} {u5 : Value} {u6 : Value}, fl_X12_tellsRun_54 y1 y3 y5 k82 n z6 mq = some (rz, rm) → Rp Sq mq → q_lo Lq 0 = some u0 → q_is 2 u0 68 → q_lo Lq 1 = some u1 → q_is 0 u1 y1 → q_lo Lq 3 = some u3 → q_is 0 u3 y3 → q_lo Lq 5 = some u5 → q_is 0 u5 y5 → q_lo Lq 6 = some u6 → q_is 0 u6 z6 → Go xs d qM_X12_tellsRun 54 Lq [] Sq Q := fun mq b => by intros; exact ih0 b ‹_› ‹_› ‹_› ‹_› ‹_› ‹_› ‹_› ‹_› ‹_› ‹_› ‹_› ‹_›
    unfold fl_X12_tellsRun_54 at h
    refine go_iload (n := 6) (by decide +kernel) l6 f6 ?_
    refine go_iconst (n := 4) (z := 4) (by decide +kernel) (by decide) fun v_104 f_105 => ?_
    refine go_icmp (c := .ge) (o := 25) (t := 82) (P := ¬ (y6 < 4)) (by decide +kernel) (by decide +kernel) f6 f_105 (Int.not_lt.symm) (fun hp_106 => ?_) (fun hp_106 => ?_)
    · have h := it_f hp_106 h
      exact hk82 m E h R l0 f0 l1 f1 l3 f3 l5 f5
    · have h := it_n hp_106 h
      refine go_aload_n (n := 0) (by decide +kernel) l0 f0 ?_
      refine go_getf (x := 281) (ci := 13) (kf := 107) (fin := 1) (t := 2) (by decide +kernel) (by decide +kernel) (by decide +kernel) R f0 (fx_k (c := 13) R (by decide +kernel)) fun v_107 f_108 => ?_
      have f_109 := q_is_eq (b := 155) f_108 (fx_v R (by decide +kernel)).symm
      refine go_iload (n := 6) (by decide +kernel) l6 f6 ?_
      refine go_iconst (n := 0) (z := 0) (by decide +kernel) (by decide) fun v_110 f_111 => ?_
      obtain ⟨g_112, h⟩ := gd_s h
      obtain ⟨m_113, e_114, h⟩ := up_s h
      refine go_iast (kd := 100) (by decide +kernel) rfl R f_109 f6 f_111 (fx_k (c := 100) R (by decide +kernel)) (fx_x (a := 155) (ln := 4) R (by decide +kernel) g_112) e_114 (fx_a R.2 (fx_k (c := 100) R (by decide +kernel)) (And.left (fx_x (a := 155) (ln := 4) R (by decide +kernel) g_112)) (by decide +kernel)) fun S_115 R_116 E_117 => ?_
      have E_119 := Ext.tr E E_117
      refine go_aload_n (n := 0) (by decide +kernel) l0 f0 ?_
      refine go_getf (x := 284) (ci := 13) (kf := 108) (fin := 1) (t := 2) (by decide +kernel) (by decide +kernel) (by decide +kernel) R_116 f0 (fx_k (c := 13) R_116 (by decide +kernel)) fun v_120 f_121 => ?_
      have f_122 := q_is_eq (b := 156) f_121 (fx_v R_116 (by decide +kernel)).symm
      refine go_iload (n := 6) (by decide +kernel) l6 f6 ?_
      refine go_iconst (n := 0) (z := 0) (by decide +kernel) (by decide) fun v_123 f_124 => ?_
      obtain ⟨m_125, e_126, h⟩ := up_s h
      refine go_iast (kd := 100) (by decide +kernel) rfl R_116 f_122 f6 f_124 (fx_k (c := 100) R_116 (by decide +kernel)) (fx_x (a := 156) (ln := 4) R_116 (by decide +kernel) g_112) e_126 (fx_a R_116.2 (fx_k (c := 100) R_116 (by decide +kernel)) (And.left (fx_x (a := 156) (ln := 4) R_116 (by decide +kernel) g_112)) (by decide +kernel)) fun S_127 R_128 E_129 => ?_
      have E_131 := Ext.tr E_119 E_129
      refine go_iinc (n := 6) (c := 1) (c' := 1) (by decide +kernel) (by decide +kernel) l6 f6 (by decide) fun L_132 v_133 f_134 l_135 kp_136 => ?_
      obtain ⟨x_137, e_138, h⟩ := lx_s h
      have f_139 := q_is_eq f_134 e_138
      have l_140 := kp_136 0 _ l0 (by decide) (Or.inl (by decide))
      have l_141 := kp_136 1 _ l1 (by decide) (Or.inl (by decide))
      have l_142 := kp_136 3 _ l3 (by decide) (Or.inl (by decide))
      have l_143 := kp_136 5 _ l5 (by decide) (Or.inr (q_is_cat f5 (Or.inl rfl)))
      refine go_goto (o := (-25)) (t := 54) (by decide +kernel) (by decide +kernel) ?_
      exact ih m_125 E_131 h R_128 l_140 f0 l_141 f1 l_142 f3 l_143 f5 l_135 f_139
noncomputable def fj_X12_tellsRun_222 (c : Int → MM → Option (Int × MM)) (y1 y3 y6 : Int) (m : MM) : Option (Int × MM) := lx (m 68 114) fun x_355 =>
if x_355 = 0 then
lx (m 68 117) fun x_372 =>
bd (fm_X12_goesBy x_372 m) fun x_375 m_376 =>
lx (w32 (y6 + 1)) fun x_391 =>
c x_391 m_376
else
lx (w32 (y6 + 1)) fun x_363 =>
c x_363 m
set_option maxHeartbeats 4000000 in
theorem oj_X12_tellsRun_222 {xs : List Int32} {d : Nat} {S : QS} {L : QL} {Q : QO → QS → Prop} {m : MM} {y1 y3 y6 : Int} {v0 : Value} {v1 : Value} {v3 : Value} {v6 : Value}  {rz : Int} {rm : MM} {c : Int → MM → Option (Int × MM)} 
  (hd : 13 ≤ d) (R : Rp S m) (l0 : q_lo L 0 = some v0) (f0 : q_is 2 v0 68) (l1 : q_lo L 1 = some v1) (f1 : q_is 0 v1 y1) (l3 : q_lo L 3 = some v3) (f3 : q_is 0 v3 y3) (l6 : q_lo L 6 = some v6) (f6 : q_is 0 v6 y6)
  (hc : ∀ mq : MM, Ext m mq → ∀ {z6 : Int} {Sq : QS} {Lq : QL} {u0 : Value} {u1 : Value} {u3 : Value} {u6 : Value}, c z6 mq = some (rz, rm) → Rp Sq mq → q_lo Lq 0 = some u0 → q_is 2 u0 68 → q_lo Lq 1 = some u1 → q_is 0 u1 y1 → q_lo Lq 3 = some u3 → q_is 0 u3 y3 → q_lo Lq 6 = some u6 → q_is 0 u6 z6 → Go xs d qM_X12_tellsRun 151 Lq [] Sq Q)
  (hQ : Ext m rm → ∀ o S1, Rp S1 rm → q_out 9 o rz → Q o S1)
  (h : fj_X12_tellsRun_222 c y1 y3 y6 m = some (rz, rm)) : Go xs d qM_X12_tellsRun 222 L [] S Q := by
  unfold fj_X12_tellsRun_222 at h
  refine go_aload_n (n := 0) (by decide +kernel) l0 f0 ?_
  obtain ⟨x_355, e_356, h⟩ := lx_s h
  refine go_getf (x := 374) (ci := 13) (kf := 114) (fin := 0) (t := 0) (by decide +kernel) (by decide +kernel) (by decide +kernel) R f0 (fx_k (c := 13) R (by decide +kernel)) fun v_352 f_353 => ?_
  have f_354 := q_is_eq f_353 e_356
  refine go_if (c := .ne) (o := 11) (t := 237) (P := ¬ (x_355 = 0)) (by decide +kernel) (by decide +kernel) f_354 (Iff.rfl) (fun hp_357 => ?_) (fun hp_357 => ?_)
  · have h := it_f hp_357 h
    refine go_iinc (n := 6) (c := 1) (c' := 1) (by decide +kernel) (by decide +kernel) l6 f6 (by decide) fun L_358 v_359 f_360 l_361 kp_362 => ?_
    obtain ⟨x_363, e_364, h⟩ := lx_s h
    have f_365 := q_is_eq f_360 e_364
    have l_366 := kp_362 0 _ l0 (by decide) (Or.inl (by decide))
    have l_367 := kp_362 1 _ l1 (by decide) (Or.inl (by decide))
    have l_368 := kp_362 3 _ l3 (by decide) (Or.inl (by decide))
    refine go_goto (o := (-89)) (t := 151) (by decide +kernel) (by decide +kernel) ?_
    exact hc m (Ext.rf _) h R l_366 f0 l_367 f1 l_368 f3 l_361 f_365
  · have h := it_n hp_357 h
    refine go_aload_n (n := 0) (by decide +kernel) l0 f0 ?_
    refine go_aload_n (n := 0) (by decide +kernel) l0 f0 ?_
    obtain ⟨x_372, e_373, h⟩ := lx_s h
    refine go_getf (x := 404) (ci := 13) (kf := 117) (fin := 0) (t := 0) (by decide +kernel) (by decide +kernel) (by decide +kernel) R f0 (fx_k (c := 13) R (by decide +kernel)) fun v_369 f_370 => ?_
    have f_371 := q_is_eq f_370 e_373
    obtain ⟨x_375, m_376, hc_374, h⟩ := bd_s h
    refine go_callV (x := 542) (mi := 248) (n := 1) (ci := 13) (as := [v_369]) (rest := []) (by decide +kernel) (by decide +kernel) rfl rfl (q_sum8 _ (Nat.le_of_ble_eq_true rfl)) R f0 (fx_k (c := 13) R (by decide +kernel)) (om_X12_goesBy (Nat.le_trans (by decide) hd) R f0 f_371 hc_374) (fun _ S_379 q_382 => ?_) (fun _ _ qq => kr_x qq)
    refine kr_v q_382 fun R_380 E_381 => ?_
    have E_385 := E_381
    refine go_iinc (n := 6) (c := 1) (c' := 1) (by decide +kernel) (by decide +kernel) l6 f6 (by decide) fun L_386 v_387 f_388 l_389 kp_390 => ?_
    obtain ⟨x_391, e_392, h⟩ := lx_s h
    have f_393 := q_is_eq f_388 e_392
    have l_394 := kp_390 0 _ l0 (by decide) (Or.inl (by decide))
    have l_395 := kp_390 1 _ l1 (by decide) (Or.inl (by decide))
    have l_396 := kp_390 3 _ l3 (by decide) (Or.inl (by decide))
    refine go_goto (o := (-89)) (t := 151) (by decide +kernel) (by decide +kernel) ?_
    exact hc m_376 E_385 h R_380 l_394 f0 l_395 f1 l_396 f3 l_389 f_393
noncomputable def fl_X12_tellsRun_151 (y1 y3 : Int) : Nat → Int → MM → Option (Int × MM)
  | 0, _, _ => none
  | n + 1, y6, m => gd (0 ≤ y1 ∧ y1 < 30) <| lx (m 86 y1) fun x_294 =>
if y6 < x_294 then
lx (m 68 117) fun x_300 =>
if x_300 < y3 then
lx (m 68 114) fun x_306 =>
if x_306 = 0 then
bp (fm_X12_kindAt y1 y6 m) fun x_310 =>
if 7 < x_310 then
lx (w32 (y6 + 1)) fun x_326 =>
fl_X12_tellsRun_151 y1 y3 n x_326 m
else
up m 68 117 (w32 (x_300 + 1)) fun m_339 =>
lx (m_339 68 112) fun x_349 =>
if x_349 = 0 then
lx (m_339 68 123) fun x_400 =>
up m_339 68 123 (w32 (x_400 + 1)) fun m_406 =>
bd (fm_X12_takes y6 m_406) fun x_414 m_415 =>
fj_X12_tellsRun_222 (fl_X12_tellsRun_151 y1 y3 n) y1 y3 y6 m_415
else
fj_X12_tellsRun_222 (fl_X12_tellsRun_151 y1 y3 n) y1 y3 y6 m_339
else
some (0, m)
else
some (0, m)
else
some (0, m)
set_option maxHeartbeats 4000000 in
theorem ol_X12_tellsRun_151 {xs : List Int32} {d : Nat} {Q : QO → QS → Prop} {mb : MM} {y1 y3 : Int} {rz : Int} {rm : MM}
  (hd : 13 ≤ d)
  (hQ : Ext mb rm → ∀ o S1, Rp S1 rm → q_out 9 o rz → Q o S1) :
  ∀ (n : Nat) {m : MM} {S : QS} {L : QL} {y6 : Int} {v0 : Value} {v1 : Value} {v3 : Value} {v6 : Value} , Ext mb m → fl_X12_tellsRun_151 y1 y3 n y6 m = some (rz, rm) → Rp S m → q_lo L 0 = some v0 → q_is 2 v0 68 → q_lo L 1 = some v1 → q_is 0 v1 y1 → q_lo L 3 = some v3 → q_is 0 v3 y3 → q_lo L 6 = some v6 → q_is 0 v6 y6 → Go xs d qM_X12_tellsRun 151 L [] S Q := by
  intro n
  induction n with
  | zero => intro m S L y6 v0 v1 v3 v6; intro E h R l0 f0 l1 f1 l3 f3 l6 f6; cases h
  | succ n ih0 =>
    intro m S L y6 v0 v1 v3 v6; intro E h R l0 f0 l1 f1 l3 f3 l6 f6
    have ih : ∀ mq : MM, Ext mb mq → ∀ {z6 : Int} {Sq : QS} {Lq : QL} {u0 : Value} {u1 : Value} {u3 : Value} {u6 : Value}, fl_X12_tellsRun_151 y1 y3 n z6 mq = some (rz, rm) → Rp Sq mq → q_lo Lq 0 = some u0 → q_is 2 u0 68 → q_lo Lq 1 = some u1 → q_is 0 u1 y1 → q_lo Lq 3 = some u3 → q_is 0 u3 y3 → q_lo Lq 6 = some u6 → q_is 0 u6 z6 → Go xs d qM_X12_tellsRun 151 Lq [] Sq Q := fun mq b => by intros; exact ih0 b ‹_› ‹_› ‹_› ‹_› ‹_› ‹_› ‹_› ‹_› ‹_› ‹_›
    unfold fl_X12_tellsRun_151 at h
    refine go_iload (n := 6) (by decide +kernel) l6 f6 ?_
    refine go_aload_n (n := 0) (by decide +kernel) l0 f0 ?_
    refine go_getf (x := 61) (ci := 13) (kf := 19) (fin := 1) (t := 2) (by decide +kernel) (by decide +kernel) (by decide +kernel) R f0 (fx_k (c := 13) R (by decide +kernel)) fun v_287 f_288 => ?_
    have f_289 := q_is_eq (b := 86) f_288 (fx_v R (by decide +kernel)).symm
    refine go_iload_n (n := 1) (by decide +kernel) l1 f1 ?_
    obtain ⟨g_292, h⟩ := gd_s h
    obtain ⟨x_294, e_295, h⟩ := lx_s h
    refine go_iald (kd := 100) (by decide +kernel) rfl R f_289 f1 (fx_k (c := 100) R (by decide +kernel)) (fx_x (a := 86) (ln := 30) R (by decide +kernel) g_292) fun v_290 f_291 => ?_
    have f_293 := q_is_eq f_291 e_295
    refine go_icmp (c := .ge) (o := 84) (t := 243) (P := ¬ (y6 < x_294)) (by decide +kernel) (by decide +kernel) f6 f_293 (Int.not_lt.symm) (fun hp_296 => ?_) (fun hp_296 => ?_)
    · have h := it_f hp_296 h
      cases h
      exact go_vret (by decide +kernel) rfl (hQ E _ _ R q_out_n)
    · have h := it_n hp_296 h
      refine go_aload_n (n := 0) (by decide +kernel) l0 f0 ?_
      obtain ⟨x_300, e_301, h⟩ := lx_s h
      refine go_getf (x := 404) (ci := 13) (kf := 117) (fin := 0) (t := 0) (by decide +kernel) (by decide +kernel) (by decide +kernel) R f0 (fx_k (c := 13) R (by decide +kernel)) fun v_297 f_298 => ?_
      have f_299 := q_is_eq f_298 e_301
      refine go_iload_n (n := 3) (by decide +kernel) l3 f3 ?_
      refine go_icmp (c := .ge) (o := 76) (t := 243) (P := ¬ (x_300 < y3)) (by decide +kernel) (by decide +kernel) f_299 f3 (Int.not_lt.symm) (fun hp_302 => ?_) (fun hp_302 => ?_)
      · have h := it_f hp_302 h
        cases h
        exact go_vret (by decide +kernel) rfl (hQ E _ _ R q_out_n)
      · have h := it_n hp_302 h
        refine go_aload_n (n := 0) (by decide +kernel) l0 f0 ?_
        obtain ⟨x_306, e_307, h⟩ := lx_s h
        refine go_getf (x := 374) (ci := 13) (kf := 114) (fin := 0) (t := 0) (by decide +kernel) (by decide +kernel) (by decide +kernel) R f0 (fx_k (c := 13) R (by decide +kernel)) fun v_303 f_304 => ?_
        have f_305 := q_is_eq f_304 e_307
        refine go_if (c := .ne) (o := 69) (t := 243) (P := ¬ (x_306 = 0)) (by decide +kernel) (by decide +kernel) f_305 (Iff.rfl) (fun hp_308 => ?_) (fun hp_308 => ?_)
        · have h := it_f hp_308 h
          cases h
          exact go_vret (by decide +kernel) rfl (hQ E _ _ R q_out_n)
        · have h := it_n hp_308 h
          refine go_aload_n (n := 0) (by decide +kernel) l0 f0 ?_
          refine go_iload_n (n := 1) (by decide +kernel) l1 f1 ?_
          refine go_iload (n := 6) (by decide +kernel) l6 f6 ?_
          obtain ⟨x_310, hc_309, h⟩ := bp_s h
          refine go_callV (x := 341) (mi := 204) (n := 2) (ci := 13) (as := [v1, v6]) (rest := []) (by decide +kernel) (by decide +kernel) rfl rfl (q_sum8 _ (Nat.le_of_ble_eq_true rfl)) R f0 (fx_k (c := 13) R (by decide +kernel)) (om_X12_kindAt (Nat.le_trans (by decide) hd) R f0 f1 f6 hc_309) (fun _ S_314 q_317 => ?_) (fun _ _ qq => kr_x qq)
          refine kr_z (by decide) q_317 fun v_312 f_313 R_315 E_316 => ?_
          refine go_bipush (n := 7) (z := 7) (by decide +kernel) (by decide) fun v_318 f_319 => ?_
          refine go_icmp (c := .gt) (o := 51) (t := 237) (P := 7 < x_310) (by decide +kernel) (by decide +kernel) f_313 f_319 (Iff.rfl) (fun hp_320 => ?_) (fun hp_320 => ?_)
          · have h := it_t hp_320 h
            refine go_iinc (n := 6) (c := 1) (c' := 1) (by decide +kernel) (by decide +kernel) l6 f6 (by decide) fun L_321 v_322 f_323 l_324 kp_325 => ?_
            obtain ⟨x_326, e_327, h⟩ := lx_s h
            have f_328 := q_is_eq f_323 e_327
            have l_329 := kp_325 0 _ l0 (by decide) (Or.inl (by decide))
            have l_330 := kp_325 1 _ l1 (by decide) (Or.inl (by decide))
            have l_331 := kp_325 3 _ l3 (by decide) (Or.inl (by decide))
            refine go_goto (o := (-89)) (t := 151) (by decide +kernel) (by decide +kernel) ?_
            exact ih m E h R_315 l_329 f0 l_330 f1 l_331 f3 l_324 f_328
          · have h := it_f hp_320 h
            refine go_aload_n (n := 0) (by decide +kernel) l0 f0 ?_
            refine go_dup (by decide +kernel) f0 (Or.inr rfl) ?_
            refine go_getf (x := 404) (ci := 13) (kf := 117) (fin := 0) (t := 0) (by decide +kernel) (by decide +kernel) (by decide +kernel) R_315 f0 (fx_k (c := 13) R_315 (by decide +kernel)) fun v_332 f_333 => ?_
            have f_334 := q_is_eq f_333 e_301
            refine go_iconst (n := 1) (z := 1) (by decide +kernel) (by decide) fun v_335 f_336 => ?_
            refine go_iadd (by decide +kernel) f_334 f_336 fun v_337 f_338 => ?_
            obtain ⟨m_339, e_340, h⟩ := up_s h
            refine go_putf (x := 404) (ci := 13) (kf := 117) (fin := 0) (zt := 0) (by decide +kernel) (by decide +kernel) (by decide) (by decide +kernel) (by decide) (Or.inl rfl) R_315 f0 f_338 (fun hq => absurd hq (by decide)) (fx_k (c := 13) R_315 (by decide +kernel)) e_340 (fx_f (j := 117) R_315.2 (fx_k (c := 13) R_315 (by decide +kernel)) (by decide +kernel)) fun S_341 R_342 E_343 => ?_
            have E_345 := Ext.tr E E_343
            refine go_aload_n (n := 0) (by decide +kernel) l0 f0 ?_
            obtain ⟨x_349, e_350, h⟩ := lx_s h
            refine go_getf (x := 371) (ci := 13) (kf := 112) (fin := 0) (t := 0) (by decide +kernel) (by decide +kernel) (by decide +kernel) R_342 f0 (fx_k (c := 13) R_342 (by decide +kernel)) fun v_346 f_347 => ?_
            have f_348 := q_is_eq f_347 e_350
            refine go_if (c := .ne) (o := 19) (t := 222) (P := ¬ (x_349 = 0)) (by decide +kernel) (by decide +kernel) f_348 (Iff.rfl) (fun hp_351 => ?_) (fun hp_351 => ?_)
            · have h := it_f hp_351 h
              exact oj_X12_tellsRun_222 hd R_342 l0 f0 l1 f1 l3 f3 l6 f6 (fun mq b => ih mq (Ext.tr E_345 b)) (fun b => hQ (Ext.tr E_345 b)) h
            · have h := it_n hp_351 h
              refine go_aload_n (n := 0) (by decide +kernel) l0 f0 ?_
              refine go_dup (by decide +kernel) f0 (Or.inr rfl) ?_
              obtain ⟨x_400, e_401, h⟩ := lx_s h
              refine go_getf (x := 536) (ci := 13) (kf := 123) (fin := 0) (t := 0) (by decide +kernel) (by decide +kernel) (by decide +kernel) R_342 f0 (fx_k (c := 13) R_342 (by decide +kernel)) fun v_397 f_398 => ?_
              have f_399 := q_is_eq f_398 e_401
              refine go_iconst (n := 1) (z := 1) (by decide +kernel) (by decide) fun v_402 f_403 => ?_
              refine go_iadd (by decide +kernel) f_399 f_403 fun v_404 f_405 => ?_
              obtain ⟨m_406, e_407, h⟩ := up_s h
              refine go_putf (x := 536) (ci := 13) (kf := 123) (fin := 0) (zt := 0) (by decide +kernel) (by decide +kernel) (by decide) (by decide +kernel) (by decide) (Or.inl rfl) R_342 f0 f_405 (fun hq => absurd hq (by decide)) (fx_k (c := 13) R_342 (by decide +kernel)) e_407 (fx_f (j := 123) R_342.2 (fx_k (c := 13) R_342 (by decide +kernel)) (by decide +kernel)) fun S_408 R_409 E_410 => ?_
              have E_412 := Ext.tr E_345 E_410
              refine go_aload_n (n := 0) (by decide +kernel) l0 f0 ?_
              refine go_iload (n := 6) (by decide +kernel) l6 f6 ?_
              obtain ⟨x_414, m_415, hc_413, h⟩ := bd_s h
              refine go_callV (x := 539) (mi := 247) (n := 1) (ci := 13) (as := [v6]) (rest := []) (by decide +kernel) (by decide +kernel) rfl rfl (q_sum8 _ (Nat.le_of_ble_eq_true rfl)) R_409 f0 (fx_k (c := 13) R_409 (by decide +kernel)) (om_X12_takes (Nat.le_trans (by decide) hd) R_409 f0 f6 hc_413) (fun _ S_418 q_421 => ?_) (fun _ _ qq => kr_x qq)
              refine kr_v q_421 fun R_419 E_420 => ?_
              have E_424 := Ext.tr E_412 E_420
              exact oj_X12_tellsRun_222 hd R_419 l0 f0 l1 f1 l3 f3 l6 f6 (fun mq b => ih mq (Ext.tr E_424 b)) (fun b => hQ (Ext.tr E_424 b)) h
noncomputable def fm_X12_tellsRun (p1 p2 p3 p4 p5 : Int) (m0 : MM) : Option (Int × MM) := up m0 68 88 p1 fun m_1 =>
up m_1 68 124 p4 fun m_8 =>
up m_8 68 125 p4 fun m_15 =>
up m_15 68 126 0 fun m_24 =>
up m_24 68 89 p2 fun m_31 =>
fl_X12_tellsRun_30 p1 p3 p5 (fun m_90 =>
fl_X12_tellsRun_54 p1 p3 p5 (fun m_159 =>
up m_159 68 91 0 fun m_166 =>
up m_166 68 92 0 fun m_175 =>
up m_175 68 103 0 fun m_184 =>
up m_184 68 105 0 fun m_193 =>
up m_193 68 110 0 fun m_202 =>
up m_202 68 111 0 fun m_211 =>
up m_211 68 112 0 fun m_220 =>
up m_220 68 114 0 fun m_229 =>
up m_229 68 116 0 fun m_238 =>
up m_238 68 117 0 fun m_247 =>
up m_247 68 120 0 fun m_256 =>
up m_256 68 123 0 fun m_265 =>
up m_265 68 119 p5 fun m_272 =>
fl_X12_tellsRun_151 p1 p3  BIG 0 m_272) BIG 0 m_90) BIG 0 m_31
set_option maxHeartbeats 4000000 in
theorem om_X12_tellsRun {xs : List Int32} {d : Nat} {S : QS} {m0 : MM} {p1 p2 p3 p4 p5 : Int} {v0 : Value} {v1 : Value} {v2 : Value} {v3 : Value} {v4 : Value} {v5 : Value} {rz : Int} {rm : MM}
  (hd : 14 ≤ d) (R : Rp S m0) (f0 : q_is 2 v0 68) (f1 : q_is 0 v1 p1) (f2 : q_is 0 v2 p2) (f3 : q_is 0 v3 p3) (f4 : q_is 0 v4 p4) (f5 : q_is 0 v5 p5)
  (h : fm_X12_tellsRun p1 p2 p3 p4 p5 m0 = some (rz, rm)) : Mt xs d 249 [v0, v1, v2, v3, v4, v5] S (Cr 9 m0 rm rz) := by
  obtain ⟨d, rfl⟩ : ∃ e, d = e + 1 := ⟨d - 1, by omega⟩
  have hd : 13 ≤ d := Nat.le_of_succ_le_succ hd
  refine Mt.of (M := qM_X12_tellsRun) rfl (by rw [sl_1 (q_is_cat f0 (Or.inr rfl)), sl_1 (q_is_cat f1 (Or.inl rfl)), sl_1 (q_is_cat f2 (Or.inl rfl)), sl_1 (q_is_cat f3 (Or.inl rfl)), sl_1 (q_is_cat f4 (Or.inl rfl)), sl_1 (q_is_cat f5 (Or.inl rfl)), sl_0]; decide) ?_
  rw [la_1 (q_is_cat f0 (Or.inr rfl)), la_1 (q_is_cat f1 (Or.inl rfl)), la_1 (q_is_cat f2 (Or.inl rfl)), la_1 (q_is_cat f3 (Or.inl rfl)), la_1 (q_is_cat f4 (Or.inl rfl)), la_1 (q_is_cat f5 (Or.inl rfl)), la_0]
  obtain ⟨L, hL⟩ : ∃ L : QL, L = [(0, v0), (0 + 1, v1), (0 + 1 + 1, v2), (0 + 1 + 1 + 1, v3), (0 + 1 + 1 + 1 + 1, v4), (0 + 1 + 1 + 1 + 1 + 1, v5)] := ⟨_, rfl⟩
  rw [← hL]
  have l0 : q_lo L 0 = some v0 := by rw [hL]; rfl
  have l1 : q_lo L 1 = some v1 := by rw [hL]; rfl
  have l2 : q_lo L 2 = some v2 := by rw [hL]; rfl
  have l3 : q_lo L 3 = some v3 := by rw [hL]; rfl
  have l4 : q_lo L 4 = some v4 := by rw [hL]; rfl
  have l5 : q_lo L 5 = some v5 := by rw [hL]; rfl
  have hQ : Ext m0 rm → ∀ o S1, Rp S1 rm → q_out 9 o rz → (Cr 9 m0 rm rz) o S1 := fun a o S1 b e => ⟨b, a, e⟩
  unfold fm_X12_tellsRun at h
  refine go_aload_n (n := 0) (by decide +kernel) l0 f0 ?_
  refine go_iload_n (n := 1) (by decide +kernel) l1 f1 ?_
  obtain ⟨m_1, e_2, h⟩ := up_s h
  refine go_putf (x := 387) (ci := 13) (kf := 88) (fin := 0) (zt := 0) (by decide +kernel) (by decide +kernel) (by decide) (by decide +kernel) (by decide) (Or.inl rfl) R f0 f1 (fun hq => absurd hq (by decide)) (fx_k (c := 13) R (by decide +kernel)) e_2 (fx_f (j := 88) R.2 (fx_k (c := 13) R (by decide +kernel)) (by decide +kernel)) fun S_3 R_4 E_5 => ?_
  have E_7 := E_5
  refine go_aload_n (n := 0) (by decide +kernel) l0 f0 ?_
  refine go_iload (n := 4) (by decide +kernel) l4 f4 ?_
  obtain ⟨m_8, e_9, h⟩ := up_s h
  refine go_putf (x := 384) (ci := 13) (kf := 124) (fin := 0) (zt := 0) (by decide +kernel) (by decide +kernel) (by decide) (by decide +kernel) (by decide) (Or.inl rfl) R_4 f0 f4 (fun hq => absurd hq (by decide)) (fx_k (c := 13) R_4 (by decide +kernel)) e_9 (fx_f (j := 124) R_4.2 (fx_k (c := 13) R_4 (by decide +kernel)) (by decide +kernel)) fun S_10 R_11 E_12 => ?_
  have E_14 := Ext.tr E_7 E_12
  refine go_aload_n (n := 0) (by decide +kernel) l0 f0 ?_
  refine go_iload (n := 4) (by decide +kernel) l4 f4 ?_
  obtain ⟨m_15, e_16, h⟩ := up_s h
  refine go_putf (x := 390) (ci := 13) (kf := 125) (fin := 0) (zt := 0) (by decide +kernel) (by decide +kernel) (by decide) (by decide +kernel) (by decide) (Or.inl rfl) R_11 f0 f4 (fun hq => absurd hq (by decide)) (fx_k (c := 13) R_11 (by decide +kernel)) e_16 (fx_f (j := 125) R_11.2 (fx_k (c := 13) R_11 (by decide +kernel)) (by decide +kernel)) fun S_17 R_18 E_19 => ?_
  have E_21 := Ext.tr E_14 E_19
  refine go_aload_n (n := 0) (by decide +kernel) l0 f0 ?_
  refine go_iconst (n := 0) (z := 0) (by decide +kernel) (by decide) fun v_22 f_23 => ?_
  obtain ⟨m_24, e_25, h⟩ := up_s h
  refine go_putf (x := 533) (ci := 13) (kf := 126) (fin := 0) (zt := 0) (by decide +kernel) (by decide +kernel) (by decide) (by decide +kernel) (by decide) (Or.inl rfl) R_18 f0 f_23 (fun hq => absurd hq (by decide)) (fx_k (c := 13) R_18 (by decide +kernel)) e_25 (fx_f (j := 126) R_18.2 (fx_k (c := 13) R_18 (by decide +kernel)) (by decide +kernel)) fun S_26 R_27 E_28 => ?_
  have E_30 := Ext.tr E_21 E_28
  refine go_aload_n (n := 0) (by decide +kernel) l0 f0 ?_
  refine go_iload_n (n := 2) (by decide +kernel) l2 f2 ?_
  obtain ⟨m_31, e_32, h⟩ := up_s h
  refine go_putf (x := 471) (ci := 13) (kf := 89) (fin := 0) (zt := 0) (by decide +kernel) (by decide +kernel) (by decide) (by decide +kernel) (by decide) (Or.inl rfl) R_27 f0 f2 (fun hq => absurd hq (by decide)) (fx_k (c := 13) R_27 (by decide +kernel)) e_32 (fx_f (j := 89) R_27.2 (fx_k (c := 13) R_27 (by decide +kernel)) (by decide +kernel)) fun S_33 R_34 E_35 => ?_
  have E_37 := Ext.tr E_30 E_35
  refine go_iconst (n := 0) (z := 0) (by decide +kernel) (by decide) fun v_38 f_39 => ?_
  refine go_istore (n := 6) (by decide +kernel) (by decide +kernel) f_39 fun L_40 l_41 kp_42 => ?_
  have l_43 := kp_42 0 _ l0 (by decide) (Or.inl (by decide))
  have l_44 := kp_42 1 _ l1 (by decide) (Or.inl (by decide))
  have l_45 := kp_42 3 _ l3 (by decide) (Or.inl (by decide))
  have l_46 := kp_42 5 _ l5 (by decide) (Or.inr (q_is_cat f5 (Or.inl rfl)))
  refine ol_X12_tellsRun_30 hd  ?_ (fun b => hQ (Ext.tr E_37 b)) BIG (Ext.rf _) h R_34 l_43 f0 l_44 f1 l_45 f3 l_46 f5 l_41 f_39
  intro m_90 E_91
  intro S_87 L_88 v_75 v_76 v_77 v_78
  intro h R_89 l_79 f_83 l_80 f_84 l_81 f_85 l_82 f_86
  have E_92 := Ext.tr E_37 E_91
  refine go_iconst (n := 0) (z := 0) (by decide +kernel) (by decide) fun v_95 f_96 => ?_
  refine go_istore (n := 6) (by decide +kernel) (by decide +kernel) f_96 fun L_97 l_98 kp_99 => ?_
  have l_100 := kp_99 0 _ l_79 (by decide) (Or.inl (by decide))
  have l_101 := kp_99 1 _ l_80 (by decide) (Or.inl (by decide))
  have l_102 := kp_99 3 _ l_81 (by decide) (Or.inl (by decide))
  have l_103 := kp_99 5 _ l_82 (by decide) (Or.inr (q_is_cat f_86 (Or.inl rfl)))
  refine ol_X12_tellsRun_54 hd  ?_ (fun b => hQ (Ext.tr E_92 b)) BIG (Ext.rf _) h R_89 l_100 f_83 l_101 f_84 l_102 f_85 l_103 f_86 l_98 f_96
  intro m_159 E_160
  intro S_156 L_157 v_144 v_145 v_146 v_147
  intro h R_158 l_148 f_152 l_149 f_153 l_150 f_154 l_151 f_155
  have E_161 := Ext.tr E_92 E_160
  refine go_aload_n (n := 0) (by decide +kernel) l_148 f_152 ?_
  refine go_iconst (n := 0) (z := 0) (by decide +kernel) (by decide) fun v_164 f_165 => ?_
  obtain ⟨m_166, e_167, h⟩ := up_s h
  refine go_putf (x := 368) (ci := 13) (kf := 91) (fin := 0) (zt := 0) (by decide +kernel) (by decide +kernel) (by decide) (by decide +kernel) (by decide) (Or.inl rfl) R_158 f_152 f_165 (fun hq => absurd hq (by decide)) (fx_k (c := 13) R_158 (by decide +kernel)) e_167 (fx_f (j := 91) R_158.2 (fx_k (c := 13) R_158 (by decide +kernel)) (by decide +kernel)) fun S_168 R_169 E_170 => ?_
  have E_172 := Ext.tr E_161 E_170
  refine go_aload_n (n := 0) (by decide +kernel) l_148 f_152 ?_
  refine go_iconst (n := 0) (z := 0) (by decide +kernel) (by decide) fun v_173 f_174 => ?_
  obtain ⟨m_175, e_176, h⟩ := up_s h
  refine go_putf (x := 422) (ci := 13) (kf := 92) (fin := 0) (zt := 0) (by decide +kernel) (by decide +kernel) (by decide) (by decide +kernel) (by decide) (Or.inl rfl) R_169 f_152 f_174 (fun hq => absurd hq (by decide)) (fx_k (c := 13) R_169 (by decide +kernel)) e_176 (fx_f (j := 92) R_169.2 (fx_k (c := 13) R_169 (by decide +kernel)) (by decide +kernel)) fun S_177 R_178 E_179 => ?_
  have E_181 := Ext.tr E_172 E_179
  refine go_aload_n (n := 0) (by decide +kernel) l_148 f_152 ?_
  refine go_iconst (n := 0) (z := 0) (by decide +kernel) (by decide) fun v_182 f_183 => ?_
  obtain ⟨m_184, e_185, h⟩ := up_s h
  refine go_putf (x := 483) (ci := 13) (kf := 103) (fin := 0) (zt := 0) (by decide +kernel) (by decide +kernel) (by decide) (by decide +kernel) (by decide) (Or.inl rfl) R_178 f_152 f_183 (fun hq => absurd hq (by decide)) (fx_k (c := 13) R_178 (by decide +kernel)) e_185 (fx_f (j := 103) R_178.2 (fx_k (c := 13) R_178 (by decide +kernel)) (by decide +kernel)) fun S_186 R_187 E_188 => ?_
  have E_190 := Ext.tr E_181 E_188
  refine go_aload_n (n := 0) (by decide +kernel) l_148 f_152 ?_
  refine go_iconst (n := 0) (z := 0) (by decide +kernel) (by decide) fun v_191 f_192 => ?_
  obtain ⟨m_193, e_194, h⟩ := up_s h
  refine go_putf (x := 458) (ci := 13) (kf := 105) (fin := 0) (zt := 0) (by decide +kernel) (by decide +kernel) (by decide) (by decide +kernel) (by decide) (Or.inl rfl) R_187 f_152 f_192 (fun hq => absurd hq (by decide)) (fx_k (c := 13) R_187 (by decide +kernel)) e_194 (fx_f (j := 105) R_187.2 (fx_k (c := 13) R_187 (by decide +kernel)) (by decide +kernel)) fun S_195 R_196 E_197 => ?_
  have E_199 := Ext.tr E_190 E_197
  refine go_aload_n (n := 0) (by decide +kernel) l_148 f_152 ?_
  refine go_iconst (n := 0) (z := 0) (by decide +kernel) (by decide) fun v_200 f_201 => ?_
  obtain ⟨m_202, e_203, h⟩ := up_s h
  refine go_putf (x := 465) (ci := 13) (kf := 110) (fin := 0) (zt := 0) (by decide +kernel) (by decide +kernel) (by decide) (by decide +kernel) (by decide) (Or.inl rfl) R_196 f_152 f_201 (fun hq => absurd hq (by decide)) (fx_k (c := 13) R_196 (by decide +kernel)) e_203 (fx_f (j := 110) R_196.2 (fx_k (c := 13) R_196 (by decide +kernel)) (by decide +kernel)) fun S_204 R_205 E_206 => ?_
  have E_208 := Ext.tr E_199 E_206
  refine go_aload_n (n := 0) (by decide +kernel) l_148 f_152 ?_
  refine go_iconst (n := 0) (z := 0) (by decide +kernel) (by decide) fun v_209 f_210 => ?_
  obtain ⟨m_211, e_212, h⟩ := up_s h
  refine go_putf (x := 518) (ci := 13) (kf := 111) (fin := 0) (zt := 1) (by decide +kernel) (by decide +kernel) (by decide) (by decide +kernel) (by decide) (Or.inl rfl) R_205 f_152 f_210 (fun _ => by decide) (fx_k (c := 13) R_205 (by decide +kernel)) e_212 (fx_f (j := 111) R_205.2 (fx_k (c := 13) R_205 (by decide +kernel)) (by decide +kernel)) fun S_213 R_214 E_215 => ?_
  have E_217 := Ext.tr E_208 E_215
  refine go_aload_n (n := 0) (by decide +kernel) l_148 f_152 ?_
  refine go_iconst (n := 0) (z := 0) (by decide +kernel) (by decide) fun v_218 f_219 => ?_
  obtain ⟨m_220, e_221, h⟩ := up_s h
  refine go_putf (x := 371) (ci := 13) (kf := 112) (fin := 0) (zt := 0) (by decide +kernel) (by decide +kernel) (by decide) (by decide +kernel) (by decide) (Or.inl rfl) R_214 f_152 f_219 (fun hq => absurd hq (by decide)) (fx_k (c := 13) R_214 (by decide +kernel)) e_221 (fx_f (j := 112) R_214.2 (fx_k (c := 13) R_214 (by decide +kernel)) (by decide +kernel)) fun S_222 R_223 E_224 => ?_
  have E_226 := Ext.tr E_217 E_224
  refine go_aload_n (n := 0) (by decide +kernel) l_148 f_152 ?_
  refine go_iconst (n := 0) (z := 0) (by decide +kernel) (by decide) fun v_227 f_228 => ?_
  obtain ⟨m_229, e_230, h⟩ := up_s h
  refine go_putf (x := 374) (ci := 13) (kf := 114) (fin := 0) (zt := 1) (by decide +kernel) (by decide +kernel) (by decide) (by decide +kernel) (by decide) (Or.inl rfl) R_223 f_152 f_228 (fun _ => by decide) (fx_k (c := 13) R_223 (by decide +kernel)) e_230 (fx_f (j := 114) R_223.2 (fx_k (c := 13) R_223 (by decide +kernel)) (by decide +kernel)) fun S_231 R_232 E_233 => ?_
  have E_235 := Ext.tr E_226 E_233
  refine go_aload_n (n := 0) (by decide +kernel) l_148 f_152 ?_
  refine go_iconst (n := 0) (z := 0) (by decide +kernel) (by decide) fun v_236 f_237 => ?_
  obtain ⟨m_238, e_239, h⟩ := up_s h
  refine go_putf (x := 381) (ci := 13) (kf := 116) (fin := 0) (zt := 0) (by decide +kernel) (by decide +kernel) (by decide) (by decide +kernel) (by decide) (Or.inl rfl) R_232 f_152 f_237 (fun hq => absurd hq (by decide)) (fx_k (c := 13) R_232 (by decide +kernel)) e_239 (fx_f (j := 116) R_232.2 (fx_k (c := 13) R_232 (by decide +kernel)) (by decide +kernel)) fun S_240 R_241 E_242 => ?_
  have E_244 := Ext.tr E_235 E_242
  refine go_aload_n (n := 0) (by decide +kernel) l_148 f_152 ?_
  refine go_iconst (n := 0) (z := 0) (by decide +kernel) (by decide) fun v_245 f_246 => ?_
  obtain ⟨m_247, e_248, h⟩ := up_s h
  refine go_putf (x := 404) (ci := 13) (kf := 117) (fin := 0) (zt := 0) (by decide +kernel) (by decide +kernel) (by decide) (by decide +kernel) (by decide) (Or.inl rfl) R_241 f_152 f_246 (fun hq => absurd hq (by decide)) (fx_k (c := 13) R_241 (by decide +kernel)) e_248 (fx_f (j := 117) R_241.2 (fx_k (c := 13) R_241 (by decide +kernel)) (by decide +kernel)) fun S_249 R_250 E_251 => ?_
  have E_253 := Ext.tr E_244 E_251
  refine go_aload_n (n := 0) (by decide +kernel) l_148 f_152 ?_
  refine go_iconst (n := 0) (z := 0) (by decide +kernel) (by decide) fun v_254 f_255 => ?_
  obtain ⟨m_256, e_257, h⟩ := up_s h
  refine go_putf (x := 416) (ci := 13) (kf := 120) (fin := 0) (zt := 0) (by decide +kernel) (by decide +kernel) (by decide) (by decide +kernel) (by decide) (Or.inl rfl) R_250 f_152 f_255 (fun hq => absurd hq (by decide)) (fx_k (c := 13) R_250 (by decide +kernel)) e_257 (fx_f (j := 120) R_250.2 (fx_k (c := 13) R_250 (by decide +kernel)) (by decide +kernel)) fun S_258 R_259 E_260 => ?_
  have E_262 := Ext.tr E_253 E_260
  refine go_aload_n (n := 0) (by decide +kernel) l_148 f_152 ?_
  refine go_iconst (n := 0) (z := 0) (by decide +kernel) (by decide) fun v_263 f_264 => ?_
  obtain ⟨m_265, e_266, h⟩ := up_s h
  refine go_putf (x := 536) (ci := 13) (kf := 123) (fin := 0) (zt := 0) (by decide +kernel) (by decide +kernel) (by decide) (by decide +kernel) (by decide) (Or.inl rfl) R_259 f_152 f_264 (fun hq => absurd hq (by decide)) (fx_k (c := 13) R_259 (by decide +kernel)) e_266 (fx_f (j := 123) R_259.2 (fx_k (c := 13) R_259 (by decide +kernel)) (by decide +kernel)) fun S_267 R_268 E_269 => ?_
  have E_271 := Ext.tr E_262 E_269
  refine go_aload_n (n := 0) (by decide +kernel) l_148 f_152 ?_
  refine go_iload (n := 5) (by decide +kernel) l_151 f_155 ?_
  obtain ⟨m_272, e_273, h⟩ := up_s h
  refine go_putf (x := 407) (ci := 13) (kf := 119) (fin := 0) (zt := 0) (by decide +kernel) (by decide +kernel) (by decide) (by decide +kernel) (by decide) (Or.inl rfl) R_268 f_152 f_155 (fun hq => absurd hq (by decide)) (fx_k (c := 13) R_268 (by decide +kernel)) e_273 (fx_f (j := 119) R_268.2 (fx_k (c := 13) R_268 (by decide +kernel)) (by decide +kernel)) fun S_274 R_275 E_276 => ?_
  have E_278 := Ext.tr E_271 E_276
  refine go_iconst (n := 0) (z := 0) (by decide +kernel) (by decide) fun v_279 f_280 => ?_
  refine go_istore (n := 6) (by decide +kernel) (by decide +kernel) f_280 fun L_281 l_282 kp_283 => ?_
  have l_284 := kp_283 0 _ l_148 (by decide) (Or.inl (by decide))
  have l_285 := kp_283 1 _ l_149 (by decide) (Or.inl (by decide))
  have l_286 := kp_283 3 _ l_150 (by decide) (Or.inl (by decide))
  refine ol_X12_tellsRun_151 hd   (fun b => hQ (Ext.tr E_278 b)) BIG (Ext.rf _) h R_275 l_284 f_152 l_285 f_153 l_286 f_154 l_282 f_280
end DF33
