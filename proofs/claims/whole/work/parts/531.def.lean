/-! Methods as functions (written by wip/whole/dec.py), 31: X12_does, X12_canGoOn. -/
section DF31
noncomputable def fm_X12_does (p1 : Int) (m0 : MM) : Option (Int × MM) := lx (m0 68 88) fun x_7 =>
gd (0 ≤ x_7 ∧ x_7 < 30) <| lx (m0 80 x_7) fun x_13 =>
lx (m0 68 89) fun x_18 =>
bp (fm_X12_code x_13 x_18 m0) fun x_21 =>
gd (0 ≤ p1 ∧ p1 < 12) <| lx (m0 144 p1) fun x_36 =>
lx (w32 (x_21 + x_36)) fun x_40 =>
gd (0 ≤ x_40 ∧ x_40 < 480) <| lx (m0 72 x_40) fun x_55 =>
lx (m0 73 x_40) fun x_69 =>
lx (m0 71 x_40) fun x_84 =>
if x_84 = 0 then
gd (0 ≤ x_55 ∧ x_55 < 6) <| up m0 142 x_55 x_69 fun m_92 =>
lx (m_92 144 p1) fun x_105 =>
up m_92 144 p1 (w32 (x_105 + 1)) fun m_111 =>
some (0, m_111)
else if x_84 = 1 then
gd (0 ≤ x_55 ∧ x_55 < 6) <| lx (m0 142 x_55) fun x_130 =>
gd (0 ≤ x_69 ∧ x_69 < 6) <| lx (m0 142 x_69) fun x_139 =>
up m0 142 x_55 (Int.tmod (w32 (x_130 + x_139)) 1000) fun m_147 =>
lx (m_147 144 p1) fun x_160 =>
up m_147 144 p1 (w32 (x_160 + 1)) fun m_166 =>
some (0, m_166)
else if x_84 = 2 then
gd (0 ≤ x_69 ∧ x_69 < 6) <| lx (m0 142 x_69) fun x_186 =>
bd (fm_X12_commands 8 x_55 x_186 m0) fun x_189 m_190 =>
bd (fm_X12_awaits p1 1 x_189 x_69 m_190) fun x_201 m_202 =>
some (0, m_202)
else if x_84 = 3 then
bd (fm_X12_commands 9 x_55 0 m0) fun x_221 m_222 =>
bd (fm_X12_awaits p1 1 x_221 (-1) m_222) fun x_235 m_236 =>
some (0, m_236)
else if x_84 = 4 then
bd (fm_X12_awaits p1 2 x_55 x_69 m0) fun x_251 m_252 =>
some (0, m_252)
else if x_84 = 5 then
gd (0 ≤ x_69 ∧ x_69 < 6) <| lx (m0 142 x_69) fun x_275 =>
bd (fm_X12_commands 10 x_55 x_275 m0) fun x_278 m_279 =>
bd (fm_X12_awaits p1 1 x_278 x_69 m_279) fun x_290 m_291 =>
some (0, m_291)
else if x_84 = 6 then
gd (0 ≤ x_55 ∧ x_55 < 6) <| lx (m0 142 x_55) fun x_313 =>
if x_313 = 0 then
up m0 144 p1 x_69 fun m_333 =>
some (0, m_333)
else
up m0 144 p1 (w32 (x_36 + 1)) fun m_326 =>
some (0, m_326)
else if x_84 = 7 then
up m0 144 p1 x_55 fun m_345 =>
some (0, m_345)
else if x_84 = 8 then
up m0 144 p1 (w32 (x_36 + 1)) fun m_364 =>
lx (m_364 143 p1) fun x_377 =>
bd (fm_X12_begins x_55 x_377 m_364) fun x_380 m_381 =>
some (0, m_381)
else if x_84 = 9 then
up m0 145 p1 3 fun m_398 =>
some (0, m_398)
else if x_84 = 10 then
up m0 144 p1 (w32 (x_36 + 1)) fun m_417 =>
bd (fm_X12_races p1 x_55 m_417) fun x_425 m_426 =>
some (0, m_426)
else if x_84 = 11 then
bd (fm_X12_wins p1 m0) fun x_439 m_440 =>
some (0, m_440)
else 
bd (fm_X12_doesMore p1 x_84 x_55 x_69 m0) fun x_457 m_458 =>
some (0, m_458)
set_option maxHeartbeats 4000000 in
theorem om_X12_does {xs : List Int32} {d : Nat} {S : QS} {m0 : MM} {p1 : Int} {v0 : Value} {v1 : Value} {rz : Int} {rm : MM}
  (hd : 10 ≤ d) (R : Rp S m0) (f0 : q_is 2 v0 68) (f1 : q_is 0 v1 p1)
  (h : fm_X12_does p1 m0 = some (rz, rm)) : Mt xs d 239 [v0, v1] S (Cr 9 m0 rm rz) := by
  obtain ⟨d, rfl⟩ : ∃ e, d = e + 1 := ⟨d - 1, by omega⟩
  have hd : 9 ≤ d := Nat.le_of_succ_le_succ hd
  refine Mt.of (M := qM_X12_does) rfl (by rw [sl_1 (q_is_cat f0 (Or.inr rfl)), sl_1 (q_is_cat f1 (Or.inl rfl)), sl_0]; decide) ?_
  rw [la_1 (q_is_cat f0 (Or.inr rfl)), la_1 (q_is_cat f1 (Or.inl rfl)), la_0]
  obtain ⟨L, hL⟩ : ∃ L : QL, L = [(0, v0), (0 + 1, v1)] := ⟨_, rfl⟩
  rw [← hL]
  have l0 : q_lo L 0 = some v0 := by rw [hL]; rfl
  have l1 : q_lo L 1 = some v1 := by rw [hL]; rfl
  have hQ : Ext m0 rm → ∀ o S1, Rp S1 rm → q_out 9 o rz → (Cr 9 m0 rm rz) o S1 := fun a o S1 b e => ⟨b, a, e⟩
  unfold fm_X12_does at h
  refine go_aload_n (n := 0) (by decide +kernel) l0 f0 ?_
  refine go_getf (x := 43) (ci := 13) (kf := 13) (fin := 1) (t := 2) (by decide +kernel) (by decide +kernel) (by decide +kernel) R f0 (fx_k (c := 13) R (by decide +kernel)) fun v_1 f_2 => ?_
  have f_3 := q_is_eq (b := 80) f_2 (fx_v R (by decide +kernel)).symm
  refine go_aload_n (n := 0) (by decide +kernel) l0 f0 ?_
  obtain ⟨x_7, e_8, h⟩ := lx_s h
  refine go_getf (x := 387) (ci := 13) (kf := 88) (fin := 0) (t := 0) (by decide +kernel) (by decide +kernel) (by decide +kernel) R f0 (fx_k (c := 13) R (by decide +kernel)) fun v_4 f_5 => ?_
  have f_6 := q_is_eq f_5 e_8
  obtain ⟨g_11, h⟩ := gd_s h
  obtain ⟨x_13, e_14, h⟩ := lx_s h
  refine go_iald (kd := 100) (by decide +kernel) rfl R f_3 f_6 (fx_k (c := 100) R (by decide +kernel)) (fx_x (a := 80) (ln := 30) R (by decide +kernel) g_11) fun v_9 f_10 => ?_
  have f_12 := q_is_eq f_10 e_14
  refine go_aload_n (n := 0) (by decide +kernel) l0 f0 ?_
  obtain ⟨x_18, e_19, h⟩ := lx_s h
  refine go_getf (x := 471) (ci := 13) (kf := 89) (fin := 0) (t := 0) (by decide +kernel) (by decide +kernel) (by decide +kernel) R f0 (fx_k (c := 13) R (by decide +kernel)) fun v_15 f_16 => ?_
  have f_17 := q_is_eq f_16 e_19
  obtain ⟨x_21, hc_20, h⟩ := bp_s h
  refine go_callS (x := 327) (mi := 196) (n := 2) (b := 0) (as := [v_9, v_15]) (rest := []) (by decide +kernel) (by decide +kernel) rfl rfl (q_sum8 _ (Nat.le_of_ble_eq_true rfl)) (om_X12_code (Nat.le_trans (by decide) hd) R f_12 f_17 hc_20) (fun _ S_25 q_28 => ?_) (fun _ _ qq => kr_x qq)
  refine kr_z (by decide) q_28 fun v_23 f_24 R_26 E_27 => ?_
  refine go_aload_n (n := 0) (by decide +kernel) l0 f0 ?_
  refine go_getf (x := 247) (ci := 13) (kf := 94) (fin := 1) (t := 2) (by decide +kernel) (by decide +kernel) (by decide +kernel) R_26 f0 (fx_k (c := 13) R_26 (by decide +kernel)) fun v_29 f_30 => ?_
  have f_31 := q_is_eq (b := 144) f_30 (fx_v R_26 (by decide +kernel)).symm
  refine go_iload_n (n := 1) (by decide +kernel) l1 f1 ?_
  obtain ⟨g_34, h⟩ := gd_s h
  obtain ⟨x_36, e_37, h⟩ := lx_s h
  refine go_iald (kd := 100) (by decide +kernel) rfl R_26 f_31 f1 (fx_k (c := 100) R_26 (by decide +kernel)) (fx_x (a := 144) (ln := 12) R_26 (by decide +kernel) g_34) fun v_32 f_33 => ?_
  have f_35 := q_is_eq f_33 e_37
  refine go_iadd (by decide +kernel) f_24 f_35 fun v_38 f_39 => ?_
  obtain ⟨x_40, e_41, h⟩ := lx_s h
  have f_42 := q_is_eq f_39 e_41
  refine go_istore_n (n := 2) (by decide +kernel) (by decide +kernel) f_42 fun L_43 l_44 kp_45 => ?_
  have l_46 := kp_45 0 _ l0 (by decide) (Or.inl (by decide))
  have l_47 := kp_45 1 _ l1 (by decide) (Or.inr (q_is_cat f1 (Or.inl rfl)))
  refine go_aload_n (n := 0) (by decide +kernel) l_46 f0 ?_
  refine go_getf (x := 19) (ci := 13) (kf := 4) (fin := 1) (t := 2) (by decide +kernel) (by decide +kernel) (by decide +kernel) R_26 f0 (fx_k (c := 13) R_26 (by decide +kernel)) fun v_48 f_49 => ?_
  have f_50 := q_is_eq (b := 72) f_49 (fx_v R_26 (by decide +kernel)).symm
  refine go_iload_n (n := 2) (by decide +kernel) l_44 f_42 ?_
  obtain ⟨g_53, h⟩ := gd_s h
  obtain ⟨x_55, e_56, h⟩ := lx_s h
  refine go_iald (kd := 100) (by decide +kernel) rfl R_26 f_50 f_42 (fx_k (c := 100) R_26 (by decide +kernel)) (fx_x (a := 72) (ln := 480) R_26 (by decide +kernel) g_53) fun v_51 f_52 => ?_
  have f_54 := q_is_eq f_52 e_56
  refine go_istore_n (n := 3) (by decide +kernel) (by decide +kernel) f_54 fun L_57 l_58 kp_59 => ?_
  have l_60 := kp_59 0 _ l_46 (by decide) (Or.inl (by decide))
  have l_61 := kp_59 1 _ l_47 (by decide) (Or.inl (by decide))
  have l_62 := kp_59 2 _ l_44 (by decide) (Or.inr (q_is_cat f_42 (Or.inl rfl)))
  refine go_aload_n (n := 0) (by decide +kernel) l_60 f0 ?_
  refine go_getf (x := 22) (ci := 13) (kf := 5) (fin := 1) (t := 2) (by decide +kernel) (by decide +kernel) (by decide +kernel) R_26 f0 (fx_k (c := 13) R_26 (by decide +kernel)) fun v_63 f_64 => ?_
  have f_65 := q_is_eq (b := 73) f_64 (fx_v R_26 (by decide +kernel)).symm
  refine go_iload_n (n := 2) (by decide +kernel) l_62 f_42 ?_
  obtain ⟨x_69, e_70, h⟩ := lx_s h
  refine go_iald (kd := 100) (by decide +kernel) rfl R_26 f_65 f_42 (fx_k (c := 100) R_26 (by decide +kernel)) (fx_x (a := 73) (ln := 480) R_26 (by decide +kernel) g_53) fun v_66 f_67 => ?_
  have f_68 := q_is_eq f_67 e_70
  refine go_istore (n := 4) (by decide +kernel) (by decide +kernel) f_68 fun L_71 l_72 kp_73 => ?_
  have l_74 := kp_73 0 _ l_60 (by decide) (Or.inl (by decide))
  have l_75 := kp_73 1 _ l_61 (by decide) (Or.inl (by decide))
  have l_76 := kp_73 2 _ l_62 (by decide) (Or.inl (by decide))
  have l_77 := kp_73 3 _ l_58 (by decide) (Or.inr (q_is_cat f_54 (Or.inl rfl)))
  refine go_aload_n (n := 0) (by decide +kernel) l_74 f0 ?_
  refine go_getf (x := 16) (ci := 13) (kf := 3) (fin := 1) (t := 2) (by decide +kernel) (by decide +kernel) (by decide +kernel) R_26 f0 (fx_k (c := 13) R_26 (by decide +kernel)) fun v_78 f_79 => ?_
  have f_80 := q_is_eq (b := 71) f_79 (fx_v R_26 (by decide +kernel)).symm
  refine go_iload_n (n := 2) (by decide +kernel) l_76 f_42 ?_
  obtain ⟨x_84, e_85, h⟩ := lx_s h
  refine go_iald (kd := 100) (by decide +kernel) rfl R_26 f_80 f_42 (fx_k (c := 100) R_26 (by decide +kernel)) (fx_x (a := 71) (ln := 480) R_26 (by decide +kernel) g_53) fun v_81 f_82 => ?_
  have f_83 := q_is_eq f_82 e_85
  by_cases hp_87 : x_84 = 0
  · have h := it_t hp_87 h
    refine go_tsin (dflt := 303) (lo := 0) (hi := 11) (offs := #[63, 84, 121, 146, 164, 176, 201, 232, 242, 266, 276, 295]) (o := 63) (t := 108) (by decide +kernel) f_83 (by omega) (by omega) (by rw [hp_87]; decide) (by decide +kernel) ?_
    refine go_aload_n (n := 0) (by decide +kernel) l_74 f0 ?_
    refine go_getf (x := 241) (ci := 13) (kf := 90) (fin := 1) (t := 2) (by decide +kernel) (by decide +kernel) (by decide +kernel) R_26 f0 (fx_k (c := 13) R_26 (by decide +kernel)) fun v_88 f_89 => ?_
    have f_90 := q_is_eq (b := 142) f_89 (fx_v R_26 (by decide +kernel)).symm
    refine go_iload_n (n := 3) (by decide +kernel) l_77 f_54 ?_
    refine go_iload (n := 4) (by decide +kernel) l_72 f_68 ?_
    obtain ⟨g_91, h⟩ := gd_s h
    obtain ⟨m_92, e_93, h⟩ := up_s h
    refine go_iast (kd := 100) (by decide +kernel) rfl R_26 f_90 f_54 f_68 (fx_k (c := 100) R_26 (by decide +kernel)) (fx_x (a := 142) (ln := 6) R_26 (by decide +kernel) g_91) e_93 (fx_a R_26.2 (fx_k (c := 100) R_26 (by decide +kernel)) (And.left (fx_x (a := 142) (ln := 6) R_26 (by decide +kernel) g_91)) (by decide +kernel)) fun S_94 R_95 E_96 => ?_
    have E_98 := E_96
    refine go_aload_n (n := 0) (by decide +kernel) l_74 f0 ?_
    refine go_getf (x := 247) (ci := 13) (kf := 94) (fin := 1) (t := 2) (by decide +kernel) (by decide +kernel) (by decide +kernel) R_95 f0 (fx_k (c := 13) R_95 (by decide +kernel)) fun v_99 f_100 => ?_
    have f_101 := q_is_eq (b := 144) f_100 (fx_v R_95 (by decide +kernel)).symm
    refine go_iload_n (n := 1) (by decide +kernel) l_75 f1 ?_
    refine go_dup2 (by decide +kernel) f1 (Or.inl rfl) f_101 (Or.inr rfl) ?_
    obtain ⟨x_105, e_106, h⟩ := lx_s h
    refine go_iald (kd := 100) (by decide +kernel) rfl R_95 f_101 f1 (fx_k (c := 100) R_95 (by decide +kernel)) (fx_x (a := 144) (ln := 12) R_95 (by decide +kernel) g_34) fun v_102 f_103 => ?_
    have f_104 := q_is_eq f_103 e_106
    refine go_iconst (n := 1) (z := 1) (by decide +kernel) (by decide) fun v_107 f_108 => ?_
    refine go_iadd (by decide +kernel) f_104 f_108 fun v_109 f_110 => ?_
    obtain ⟨m_111, e_112, h⟩ := up_s h
    refine go_iast (kd := 100) (by decide +kernel) rfl R_95 f_101 f1 f_110 (fx_k (c := 100) R_95 (by decide +kernel)) (fx_x (a := 144) (ln := 12) R_95 (by decide +kernel) g_34) e_112 (fx_a R_95.2 (fx_k (c := 100) R_95 (by decide +kernel)) (And.left (fx_x (a := 144) (ln := 12) R_95 (by decide +kernel) g_34)) (by decide +kernel)) fun S_113 R_114 E_115 => ?_
    have E_117 := Ext.tr E_98 E_115
    refine go_goto (o := 236) (t := 362) (by decide +kernel) (by decide +kernel) ?_
    cases h
    exact go_vret (by decide +kernel) rfl (hQ E_117 _ _ R_114 q_out_n)
  have h := it_f hp_87 h
  by_cases hp_119 : x_84 = 1
  · have h := it_t hp_119 h
    refine go_tsin (dflt := 303) (lo := 0) (hi := 11) (offs := #[63, 84, 121, 146, 164, 176, 201, 232, 242, 266, 276, 295]) (o := 84) (t := 129) (by decide +kernel) f_83 (by omega) (by omega) (by rw [hp_119]; decide) (by decide +kernel) ?_
    refine go_aload_n (n := 0) (by decide +kernel) l_74 f0 ?_
    refine go_getf (x := 241) (ci := 13) (kf := 90) (fin := 1) (t := 2) (by decide +kernel) (by decide +kernel) (by decide +kernel) R_26 f0 (fx_k (c := 13) R_26 (by decide +kernel)) fun v_120 f_121 => ?_
    have f_122 := q_is_eq (b := 142) f_121 (fx_v R_26 (by decide +kernel)).symm
    refine go_iload_n (n := 3) (by decide +kernel) l_77 f_54 ?_
    refine go_aload_n (n := 0) (by decide +kernel) l_74 f0 ?_
    refine go_getf (x := 241) (ci := 13) (kf := 90) (fin := 1) (t := 2) (by decide +kernel) (by decide +kernel) (by decide +kernel) R_26 f0 (fx_k (c := 13) R_26 (by decide +kernel)) fun v_123 f_124 => ?_
    have f_125 := q_is_eq (b := 142) f_124 (fx_v R_26 (by decide +kernel)).symm
    refine go_iload_n (n := 3) (by decide +kernel) l_77 f_54 ?_
    obtain ⟨g_128, h⟩ := gd_s h
    obtain ⟨x_130, e_131, h⟩ := lx_s h
    refine go_iald (kd := 100) (by decide +kernel) rfl R_26 f_125 f_54 (fx_k (c := 100) R_26 (by decide +kernel)) (fx_x (a := 142) (ln := 6) R_26 (by decide +kernel) g_128) fun v_126 f_127 => ?_
    have f_129 := q_is_eq f_127 e_131
    refine go_aload_n (n := 0) (by decide +kernel) l_74 f0 ?_
    refine go_getf (x := 241) (ci := 13) (kf := 90) (fin := 1) (t := 2) (by decide +kernel) (by decide +kernel) (by decide +kernel) R_26 f0 (fx_k (c := 13) R_26 (by decide +kernel)) fun v_132 f_133 => ?_
    have f_134 := q_is_eq (b := 142) f_133 (fx_v R_26 (by decide +kernel)).symm
    refine go_iload (n := 4) (by decide +kernel) l_72 f_68 ?_
    obtain ⟨g_137, h⟩ := gd_s h
    obtain ⟨x_139, e_140, h⟩ := lx_s h
    refine go_iald (kd := 100) (by decide +kernel) rfl R_26 f_134 f_68 (fx_k (c := 100) R_26 (by decide +kernel)) (fx_x (a := 142) (ln := 6) R_26 (by decide +kernel) g_137) fun v_135 f_136 => ?_
    have f_138 := q_is_eq f_136 e_140
    refine go_iadd (by decide +kernel) f_129 f_138 fun v_141 f_142 => ?_
    refine go_sipush (n := 1000) (z := 1000) (by decide +kernel) (by decide) fun v_143 f_144 => ?_
    refine go_irem (by decide +kernel) f_142 f_144 (by decide) fun v_145 f_146 => ?_
    obtain ⟨m_147, e_148, h⟩ := up_s h
    refine go_iast (kd := 100) (by decide +kernel) rfl R_26 f_122 f_54 f_146 (fx_k (c := 100) R_26 (by decide +kernel)) (fx_x (a := 142) (ln := 6) R_26 (by decide +kernel) g_128) e_148 (fx_a R_26.2 (fx_k (c := 100) R_26 (by decide +kernel)) (And.left (fx_x (a := 142) (ln := 6) R_26 (by decide +kernel) g_128)) (by decide +kernel)) fun S_149 R_150 E_151 => ?_
    have E_153 := E_151
    refine go_aload_n (n := 0) (by decide +kernel) l_74 f0 ?_
    refine go_getf (x := 247) (ci := 13) (kf := 94) (fin := 1) (t := 2) (by decide +kernel) (by decide +kernel) (by decide +kernel) R_150 f0 (fx_k (c := 13) R_150 (by decide +kernel)) fun v_154 f_155 => ?_
    have f_156 := q_is_eq (b := 144) f_155 (fx_v R_150 (by decide +kernel)).symm
    refine go_iload_n (n := 1) (by decide +kernel) l_75 f1 ?_
    refine go_dup2 (by decide +kernel) f1 (Or.inl rfl) f_156 (Or.inr rfl) ?_
    obtain ⟨x_160, e_161, h⟩ := lx_s h
    refine go_iald (kd := 100) (by decide +kernel) rfl R_150 f_156 f1 (fx_k (c := 100) R_150 (by decide +kernel)) (fx_x (a := 144) (ln := 12) R_150 (by decide +kernel) g_34) fun v_157 f_158 => ?_
    have f_159 := q_is_eq f_158 e_161
    refine go_iconst (n := 1) (z := 1) (by decide +kernel) (by decide) fun v_162 f_163 => ?_
    refine go_iadd (by decide +kernel) f_159 f_163 fun v_164 f_165 => ?_
    obtain ⟨m_166, e_167, h⟩ := up_s h
    refine go_iast (kd := 100) (by decide +kernel) rfl R_150 f_156 f1 f_165 (fx_k (c := 100) R_150 (by decide +kernel)) (fx_x (a := 144) (ln := 12) R_150 (by decide +kernel) g_34) e_167 (fx_a R_150.2 (fx_k (c := 100) R_150 (by decide +kernel)) (And.left (fx_x (a := 144) (ln := 12) R_150 (by decide +kernel) g_34)) (by decide +kernel)) fun S_168 R_169 E_170 => ?_
    have E_172 := Ext.tr E_153 E_170
    refine go_goto (o := 199) (t := 362) (by decide +kernel) (by decide +kernel) ?_
    cases h
    exact go_vret (by decide +kernel) rfl (hQ E_172 _ _ R_169 q_out_n)
  have h := it_f hp_119 h
  by_cases hp_174 : x_84 = 2
  · have h := it_t hp_174 h
    refine go_tsin (dflt := 303) (lo := 0) (hi := 11) (offs := #[63, 84, 121, 146, 164, 176, 201, 232, 242, 266, 276, 295]) (o := 121) (t := 166) (by decide +kernel) f_83 (by omega) (by omega) (by rw [hp_174]; decide) (by decide +kernel) ?_
    refine go_aload_n (n := 0) (by decide +kernel) l_74 f0 ?_
    refine go_iload_n (n := 1) (by decide +kernel) l_75 f1 ?_
    refine go_iconst (n := 1) (z := 1) (by decide +kernel) (by decide) fun v_175 f_176 => ?_
    refine go_aload_n (n := 0) (by decide +kernel) l_74 f0 ?_
    refine go_bipush (n := 8) (z := 8) (by decide +kernel) (by decide) fun v_177 f_178 => ?_
    refine go_iload_n (n := 3) (by decide +kernel) l_77 f_54 ?_
    refine go_aload_n (n := 0) (by decide +kernel) l_74 f0 ?_
    refine go_getf (x := 241) (ci := 13) (kf := 90) (fin := 1) (t := 2) (by decide +kernel) (by decide +kernel) (by decide +kernel) R_26 f0 (fx_k (c := 13) R_26 (by decide +kernel)) fun v_179 f_180 => ?_
    have f_181 := q_is_eq (b := 142) f_180 (fx_v R_26 (by decide +kernel)).symm
    refine go_iload (n := 4) (by decide +kernel) l_72 f_68 ?_
    obtain ⟨g_184, h⟩ := gd_s h
    obtain ⟨x_186, e_187, h⟩ := lx_s h
    refine go_iald (kd := 100) (by decide +kernel) rfl R_26 f_181 f_68 (fx_k (c := 100) R_26 (by decide +kernel)) (fx_x (a := 142) (ln := 6) R_26 (by decide +kernel) g_184) fun v_182 f_183 => ?_
    have f_185 := q_is_eq f_183 e_187
    obtain ⟨x_189, m_190, hc_188, h⟩ := bd_s h
    refine go_callV (x := 425) (mi := 221) (n := 3) (ci := 13) (as := [v_177, v_51, v_182]) (rest := [v_175, v1, v0]) (by decide +kernel) (by decide +kernel) rfl rfl (q_sum8 _ (Nat.le_of_ble_eq_true rfl)) R_26 f0 (fx_k (c := 13) R_26 (by decide +kernel)) (om_X12_commands (Nat.le_trans (by decide) hd) R_26 f0 f_178 f_54 f_185 hc_188) (fun _ S_193 q_196 => ?_) (fun _ _ qq => kr_x qq)
    refine kr_z (by decide) q_196 fun v_191 f_192 R_194 E_195 => ?_
    have E_199 := E_195
    refine go_iload (n := 4) (by decide +kernel) l_72 f_68 ?_
    obtain ⟨x_201, m_202, hc_200, h⟩ := bd_s h
    refine go_callV (x := 461) (mi := 235) (n := 4) (ci := 13) (as := [v1, v_175, v_191, v_66]) (rest := []) (by decide +kernel) (by decide +kernel) rfl rfl (q_sum8 _ (Nat.le_of_ble_eq_true rfl)) R_194 f0 (fx_k (c := 13) R_194 (by decide +kernel)) (om_X12_awaits (Nat.le_trans (by decide) hd) R_194 f0 f1 f_176 f_192 f_68 hc_200) (fun _ S_205 q_208 => ?_) (fun _ _ qq => kr_x qq)
    refine kr_v q_208 fun R_206 E_207 => ?_
    have E_211 := Ext.tr E_199 E_207
    refine go_goto (o := 174) (t := 362) (by decide +kernel) (by decide +kernel) ?_
    cases h
    exact go_vret (by decide +kernel) rfl (hQ E_211 _ _ R_206 q_out_n)
  have h := it_f hp_174 h
  by_cases hp_213 : x_84 = 3
  · have h := it_t hp_213 h
    refine go_tsin (dflt := 303) (lo := 0) (hi := 11) (offs := #[63, 84, 121, 146, 164, 176, 201, 232, 242, 266, 276, 295]) (o := 146) (t := 191) (by decide +kernel) f_83 (by omega) (by omega) (by rw [hp_213]; decide) (by decide +kernel) ?_
    refine go_aload_n (n := 0) (by decide +kernel) l_74 f0 ?_
    refine go_iload_n (n := 1) (by decide +kernel) l_75 f1 ?_
    refine go_iconst (n := 1) (z := 1) (by decide +kernel) (by decide) fun v_214 f_215 => ?_
    refine go_aload_n (n := 0) (by decide +kernel) l_74 f0 ?_
    refine go_bipush (n := 9) (z := 9) (by decide +kernel) (by decide) fun v_216 f_217 => ?_
    refine go_iload_n (n := 3) (by decide +kernel) l_77 f_54 ?_
    refine go_iconst (n := 0) (z := 0) (by decide +kernel) (by decide) fun v_218 f_219 => ?_
    obtain ⟨x_221, m_222, hc_220, h⟩ := bd_s h
    refine go_callV (x := 425) (mi := 221) (n := 3) (ci := 13) (as := [v_216, v_51, v_218]) (rest := [v_214, v1, v0]) (by decide +kernel) (by decide +kernel) rfl rfl (q_sum8 _ (Nat.le_of_ble_eq_true rfl)) R_26 f0 (fx_k (c := 13) R_26 (by decide +kernel)) (om_X12_commands (Nat.le_trans (by decide) hd) R_26 f0 f_217 f_54 f_219 hc_220) (fun _ S_225 q_228 => ?_) (fun _ _ qq => kr_x qq)
    refine kr_z (by decide) q_228 fun v_223 f_224 R_226 E_227 => ?_
    have E_231 := E_227
    refine go_iconst (n := (-1)) (z := (-1)) (by decide +kernel) (by decide) fun v_232 f_233 => ?_
    obtain ⟨x_235, m_236, hc_234, h⟩ := bd_s h
    refine go_callV (x := 461) (mi := 235) (n := 4) (ci := 13) (as := [v1, v_214, v_223, v_232]) (rest := []) (by decide +kernel) (by decide +kernel) rfl rfl (q_sum8 _ (Nat.le_of_ble_eq_true rfl)) R_226 f0 (fx_k (c := 13) R_226 (by decide +kernel)) (om_X12_awaits (Nat.le_trans (by decide) hd) R_226 f0 f1 f_215 f_224 f_233 hc_234) (fun _ S_239 q_242 => ?_) (fun _ _ qq => kr_x qq)
    refine kr_v q_242 fun R_240 E_241 => ?_
    have E_245 := Ext.tr E_231 E_241
    refine go_goto (o := 156) (t := 362) (by decide +kernel) (by decide +kernel) ?_
    cases h
    exact go_vret (by decide +kernel) rfl (hQ E_245 _ _ R_240 q_out_n)
  have h := it_f hp_213 h
  by_cases hp_247 : x_84 = 4
  · have h := it_t hp_247 h
    refine go_tsin (dflt := 303) (lo := 0) (hi := 11) (offs := #[63, 84, 121, 146, 164, 176, 201, 232, 242, 266, 276, 295]) (o := 164) (t := 209) (by decide +kernel) f_83 (by omega) (by omega) (by rw [hp_247]; decide) (by decide +kernel) ?_
    refine go_aload_n (n := 0) (by decide +kernel) l_74 f0 ?_
    refine go_iload_n (n := 1) (by decide +kernel) l_75 f1 ?_
    refine go_iconst (n := 2) (z := 2) (by decide +kernel) (by decide) fun v_248 f_249 => ?_
    refine go_iload_n (n := 3) (by decide +kernel) l_77 f_54 ?_
    refine go_iload (n := 4) (by decide +kernel) l_72 f_68 ?_
    obtain ⟨x_251, m_252, hc_250, h⟩ := bd_s h
    refine go_callV (x := 461) (mi := 235) (n := 4) (ci := 13) (as := [v1, v_248, v_51, v_66]) (rest := []) (by decide +kernel) (by decide +kernel) rfl rfl (q_sum8 _ (Nat.le_of_ble_eq_true rfl)) R_26 f0 (fx_k (c := 13) R_26 (by decide +kernel)) (om_X12_awaits (Nat.le_trans (by decide) hd) R_26 f0 f1 f_249 f_54 f_68 hc_250) (fun _ S_255 q_258 => ?_) (fun _ _ qq => kr_x qq)
    refine kr_v q_258 fun R_256 E_257 => ?_
    have E_261 := E_257
    refine go_goto (o := 144) (t := 362) (by decide +kernel) (by decide +kernel) ?_
    cases h
    exact go_vret (by decide +kernel) rfl (hQ E_261 _ _ R_256 q_out_n)
  have h := it_f hp_247 h
  by_cases hp_263 : x_84 = 5
  · have h := it_t hp_263 h
    refine go_tsin (dflt := 303) (lo := 0) (hi := 11) (offs := #[63, 84, 121, 146, 164, 176, 201, 232, 242, 266, 276, 295]) (o := 176) (t := 221) (by decide +kernel) f_83 (by omega) (by omega) (by rw [hp_263]; decide) (by decide +kernel) ?_
    refine go_aload_n (n := 0) (by decide +kernel) l_74 f0 ?_
    refine go_iload_n (n := 1) (by decide +kernel) l_75 f1 ?_
    refine go_iconst (n := 1) (z := 1) (by decide +kernel) (by decide) fun v_264 f_265 => ?_
    refine go_aload_n (n := 0) (by decide +kernel) l_74 f0 ?_
    refine go_bipush (n := 10) (z := 10) (by decide +kernel) (by decide) fun v_266 f_267 => ?_
    refine go_iload_n (n := 3) (by decide +kernel) l_77 f_54 ?_
    refine go_aload_n (n := 0) (by decide +kernel) l_74 f0 ?_
    refine go_getf (x := 241) (ci := 13) (kf := 90) (fin := 1) (t := 2) (by decide +kernel) (by decide +kernel) (by decide +kernel) R_26 f0 (fx_k (c := 13) R_26 (by decide +kernel)) fun v_268 f_269 => ?_
    have f_270 := q_is_eq (b := 142) f_269 (fx_v R_26 (by decide +kernel)).symm
    refine go_iload (n := 4) (by decide +kernel) l_72 f_68 ?_
    obtain ⟨g_273, h⟩ := gd_s h
    obtain ⟨x_275, e_276, h⟩ := lx_s h
    refine go_iald (kd := 100) (by decide +kernel) rfl R_26 f_270 f_68 (fx_k (c := 100) R_26 (by decide +kernel)) (fx_x (a := 142) (ln := 6) R_26 (by decide +kernel) g_273) fun v_271 f_272 => ?_
    have f_274 := q_is_eq f_272 e_276
    obtain ⟨x_278, m_279, hc_277, h⟩ := bd_s h
    refine go_callV (x := 425) (mi := 221) (n := 3) (ci := 13) (as := [v_266, v_51, v_271]) (rest := [v_264, v1, v0]) (by decide +kernel) (by decide +kernel) rfl rfl (q_sum8 _ (Nat.le_of_ble_eq_true rfl)) R_26 f0 (fx_k (c := 13) R_26 (by decide +kernel)) (om_X12_commands (Nat.le_trans (by decide) hd) R_26 f0 f_267 f_54 f_274 hc_277) (fun _ S_282 q_285 => ?_) (fun _ _ qq => kr_x qq)
    refine kr_z (by decide) q_285 fun v_280 f_281 R_283 E_284 => ?_
    have E_288 := E_284
    refine go_iload (n := 4) (by decide +kernel) l_72 f_68 ?_
    obtain ⟨x_290, m_291, hc_289, h⟩ := bd_s h
    refine go_callV (x := 461) (mi := 235) (n := 4) (ci := 13) (as := [v1, v_264, v_280, v_66]) (rest := []) (by decide +kernel) (by decide +kernel) rfl rfl (q_sum8 _ (Nat.le_of_ble_eq_true rfl)) R_283 f0 (fx_k (c := 13) R_283 (by decide +kernel)) (om_X12_awaits (Nat.le_trans (by decide) hd) R_283 f0 f1 f_265 f_281 f_68 hc_289) (fun _ S_294 q_297 => ?_) (fun _ _ qq => kr_x qq)
    refine kr_v q_297 fun R_295 E_296 => ?_
    have E_300 := Ext.tr E_288 E_296
    refine go_goto (o := 119) (t := 362) (by decide +kernel) (by decide +kernel) ?_
    cases h
    exact go_vret (by decide +kernel) rfl (hQ E_300 _ _ R_295 q_out_n)
  have h := it_f hp_263 h
  by_cases hp_302 : x_84 = 6
  · have h := it_t hp_302 h
    refine go_tsin (dflt := 303) (lo := 0) (hi := 11) (offs := #[63, 84, 121, 146, 164, 176, 201, 232, 242, 266, 276, 295]) (o := 201) (t := 246) (by decide +kernel) f_83 (by omega) (by omega) (by rw [hp_302]; decide) (by decide +kernel) ?_
    refine go_aload_n (n := 0) (by decide +kernel) l_74 f0 ?_
    refine go_getf (x := 247) (ci := 13) (kf := 94) (fin := 1) (t := 2) (by decide +kernel) (by decide +kernel) (by decide +kernel) R_26 f0 (fx_k (c := 13) R_26 (by decide +kernel)) fun v_303 f_304 => ?_
    have f_305 := q_is_eq (b := 144) f_304 (fx_v R_26 (by decide +kernel)).symm
    refine go_iload_n (n := 1) (by decide +kernel) l_75 f1 ?_
    refine go_aload_n (n := 0) (by decide +kernel) l_74 f0 ?_
    refine go_getf (x := 241) (ci := 13) (kf := 90) (fin := 1) (t := 2) (by decide +kernel) (by decide +kernel) (by decide +kernel) R_26 f0 (fx_k (c := 13) R_26 (by decide +kernel)) fun v_306 f_307 => ?_
    have f_308 := q_is_eq (b := 142) f_307 (fx_v R_26 (by decide +kernel)).symm
    refine go_iload_n (n := 3) (by decide +kernel) l_77 f_54 ?_
    obtain ⟨g_311, h⟩ := gd_s h
    obtain ⟨x_313, e_314, h⟩ := lx_s h
    refine go_iald (kd := 100) (by decide +kernel) rfl R_26 f_308 f_54 (fx_k (c := 100) R_26 (by decide +kernel)) (fx_x (a := 142) (ln := 6) R_26 (by decide +kernel) g_311) fun v_309 f_310 => ?_
    have f_312 := q_is_eq f_310 e_314
    refine go_if (c := .ne) (o := 8) (t := 265) (P := ¬ (x_313 = 0)) (by decide +kernel) (by decide +kernel) f_312 (Iff.rfl) (fun hp_315 => ?_) (fun hp_315 => ?_)
    · have h := it_f hp_315 h
      refine go_aload_n (n := 0) (by decide +kernel) l_74 f0 ?_
      refine go_getf (x := 247) (ci := 13) (kf := 94) (fin := 1) (t := 2) (by decide +kernel) (by decide +kernel) (by decide +kernel) R_26 f0 (fx_k (c := 13) R_26 (by decide +kernel)) fun v_316 f_317 => ?_
      have f_318 := q_is_eq (b := 144) f_317 (fx_v R_26 (by decide +kernel)).symm
      refine go_iload_n (n := 1) (by decide +kernel) l_75 f1 ?_
      refine go_iald (kd := 100) (by decide +kernel) rfl R_26 f_318 f1 (fx_k (c := 100) R_26 (by decide +kernel)) (fx_x (a := 144) (ln := 12) R_26 (by decide +kernel) g_34) fun v_319 f_320 => ?_
      have f_321 := q_is_eq f_320 e_37
      refine go_iconst (n := 1) (z := 1) (by decide +kernel) (by decide) fun v_322 f_323 => ?_
      refine go_iadd (by decide +kernel) f_321 f_323 fun v_324 f_325 => ?_
      obtain ⟨m_326, e_327, h⟩ := up_s h
      refine go_iast (kd := 100) (by decide +kernel) rfl R_26 f_305 f1 f_325 (fx_k (c := 100) R_26 (by decide +kernel)) (fx_x (a := 144) (ln := 12) R_26 (by decide +kernel) g_34) e_327 (fx_a R_26.2 (fx_k (c := 100) R_26 (by decide +kernel)) (And.left (fx_x (a := 144) (ln := 12) R_26 (by decide +kernel) g_34)) (by decide +kernel)) fun S_328 R_329 E_330 => ?_
      have E_332 := E_330
      refine go_goto (o := 88) (t := 362) (by decide +kernel) (by decide +kernel) ?_
      cases h
      exact go_vret (by decide +kernel) rfl (hQ E_332 _ _ R_329 q_out_n)
    · have h := it_n hp_315 h
      refine go_iload (n := 4) (by decide +kernel) l_72 f_68 ?_
      refine go_goto (o := 11) (t := 273) (by decide +kernel) (by decide +kernel) ?_
      obtain ⟨m_333, e_334, h⟩ := up_s h
      refine go_iast (kd := 100) (by decide +kernel) rfl R_26 f_305 f1 f_68 (fx_k (c := 100) R_26 (by decide +kernel)) (fx_x (a := 144) (ln := 12) R_26 (by decide +kernel) g_34) e_334 (fx_a R_26.2 (fx_k (c := 100) R_26 (by decide +kernel)) (And.left (fx_x (a := 144) (ln := 12) R_26 (by decide +kernel) g_34)) (by decide +kernel)) fun S_335 R_336 E_337 => ?_
      have E_339 := E_337
      refine go_goto (o := 88) (t := 362) (by decide +kernel) (by decide +kernel) ?_
      cases h
      exact go_vret (by decide +kernel) rfl (hQ E_339 _ _ R_336 q_out_n)
  have h := it_f hp_302 h
  by_cases hp_341 : x_84 = 7
  · have h := it_t hp_341 h
    refine go_tsin (dflt := 303) (lo := 0) (hi := 11) (offs := #[63, 84, 121, 146, 164, 176, 201, 232, 242, 266, 276, 295]) (o := 232) (t := 277) (by decide +kernel) f_83 (by omega) (by omega) (by rw [hp_341]; decide) (by decide +kernel) ?_
    refine go_aload_n (n := 0) (by decide +kernel) l_74 f0 ?_
    refine go_getf (x := 247) (ci := 13) (kf := 94) (fin := 1) (t := 2) (by decide +kernel) (by decide +kernel) (by decide +kernel) R_26 f0 (fx_k (c := 13) R_26 (by decide +kernel)) fun v_342 f_343 => ?_
    have f_344 := q_is_eq (b := 144) f_343 (fx_v R_26 (by decide +kernel)).symm
    refine go_iload_n (n := 1) (by decide +kernel) l_75 f1 ?_
    refine go_iload_n (n := 3) (by decide +kernel) l_77 f_54 ?_
    obtain ⟨m_345, e_346, h⟩ := up_s h
    refine go_iast (kd := 100) (by decide +kernel) rfl R_26 f_344 f1 f_54 (fx_k (c := 100) R_26 (by decide +kernel)) (fx_x (a := 144) (ln := 12) R_26 (by decide +kernel) g_34) e_346 (fx_a R_26.2 (fx_k (c := 100) R_26 (by decide +kernel)) (And.left (fx_x (a := 144) (ln := 12) R_26 (by decide +kernel) g_34)) (by decide +kernel)) fun S_347 R_348 E_349 => ?_
    have E_351 := E_349
    refine go_goto (o := 78) (t := 362) (by decide +kernel) (by decide +kernel) ?_
    cases h
    exact go_vret (by decide +kernel) rfl (hQ E_351 _ _ R_348 q_out_n)
  have h := it_f hp_341 h
  by_cases hp_353 : x_84 = 8
  · have h := it_t hp_353 h
    refine go_tsin (dflt := 303) (lo := 0) (hi := 11) (offs := #[63, 84, 121, 146, 164, 176, 201, 232, 242, 266, 276, 295]) (o := 242) (t := 287) (by decide +kernel) f_83 (by omega) (by omega) (by rw [hp_353]; decide) (by decide +kernel) ?_
    refine go_aload_n (n := 0) (by decide +kernel) l_74 f0 ?_
    refine go_getf (x := 247) (ci := 13) (kf := 94) (fin := 1) (t := 2) (by decide +kernel) (by decide +kernel) (by decide +kernel) R_26 f0 (fx_k (c := 13) R_26 (by decide +kernel)) fun v_354 f_355 => ?_
    have f_356 := q_is_eq (b := 144) f_355 (fx_v R_26 (by decide +kernel)).symm
    refine go_iload_n (n := 1) (by decide +kernel) l_75 f1 ?_
    refine go_dup2 (by decide +kernel) f1 (Or.inl rfl) f_356 (Or.inr rfl) ?_
    refine go_iald (kd := 100) (by decide +kernel) rfl R_26 f_356 f1 (fx_k (c := 100) R_26 (by decide +kernel)) (fx_x (a := 144) (ln := 12) R_26 (by decide +kernel) g_34) fun v_357 f_358 => ?_
    have f_359 := q_is_eq f_358 e_37
    refine go_iconst (n := 1) (z := 1) (by decide +kernel) (by decide) fun v_360 f_361 => ?_
    refine go_iadd (by decide +kernel) f_359 f_361 fun v_362 f_363 => ?_
    obtain ⟨m_364, e_365, h⟩ := up_s h
    refine go_iast (kd := 100) (by decide +kernel) rfl R_26 f_356 f1 f_363 (fx_k (c := 100) R_26 (by decide +kernel)) (fx_x (a := 144) (ln := 12) R_26 (by decide +kernel) g_34) e_365 (fx_a R_26.2 (fx_k (c := 100) R_26 (by decide +kernel)) (And.left (fx_x (a := 144) (ln := 12) R_26 (by decide +kernel) g_34)) (by decide +kernel)) fun S_366 R_367 E_368 => ?_
    have E_370 := E_368
    refine go_aload_n (n := 0) (by decide +kernel) l_74 f0 ?_
    refine go_iload_n (n := 3) (by decide +kernel) l_77 f_54 ?_
    refine go_aload_n (n := 0) (by decide +kernel) l_74 f0 ?_
    refine go_getf (x := 244) (ci := 13) (kf := 93) (fin := 1) (t := 2) (by decide +kernel) (by decide +kernel) (by decide +kernel) R_367 f0 (fx_k (c := 13) R_367 (by decide +kernel)) fun v_371 f_372 => ?_
    have f_373 := q_is_eq (b := 143) f_372 (fx_v R_367 (by decide +kernel)).symm
    refine go_iload_n (n := 1) (by decide +kernel) l_75 f1 ?_
    obtain ⟨x_377, e_378, h⟩ := lx_s h
    refine go_iald (kd := 100) (by decide +kernel) rfl R_367 f_373 f1 (fx_k (c := 100) R_367 (by decide +kernel)) (fx_x (a := 143) (ln := 12) R_367 (by decide +kernel) g_34) fun v_374 f_375 => ?_
    have f_376 := q_is_eq f_375 e_378
    obtain ⟨x_380, m_381, hc_379, h⟩ := bd_s h
    refine go_callV (x := 455) (mi := 223) (n := 2) (ci := 13) (as := [v_51, v_374]) (rest := []) (by decide +kernel) (by decide +kernel) rfl rfl (q_sum8 _ (Nat.le_of_ble_eq_true rfl)) R_367 f0 (fx_k (c := 13) R_367 (by decide +kernel)) (om_X12_begins (Nat.le_trans (by decide) hd) R_367 f0 f_54 f_376 hc_379) (fun _ S_384 q_387 => ?_) (fun _ _ qq => kr_x qq)
    refine kr_v q_387 fun R_385 E_386 => ?_
    have E_390 := Ext.tr E_370 E_386
    refine go_goto (o := 54) (t := 362) (by decide +kernel) (by decide +kernel) ?_
    cases h
    exact go_vret (by decide +kernel) rfl (hQ E_390 _ _ R_385 q_out_n)
  have h := it_f hp_353 h
  by_cases hp_392 : x_84 = 9
  · have h := it_t hp_392 h
    refine go_tsin (dflt := 303) (lo := 0) (hi := 11) (offs := #[63, 84, 121, 146, 164, 176, 201, 232, 242, 266, 276, 295]) (o := 266) (t := 311) (by decide +kernel) f_83 (by omega) (by omega) (by rw [hp_392]; decide) (by decide +kernel) ?_
    refine go_aload_n (n := 0) (by decide +kernel) l_74 f0 ?_
    refine go_getf (x := 250) (ci := 13) (kf := 95) (fin := 1) (t := 2) (by decide +kernel) (by decide +kernel) (by decide +kernel) R_26 f0 (fx_k (c := 13) R_26 (by decide +kernel)) fun v_393 f_394 => ?_
    have f_395 := q_is_eq (b := 145) f_394 (fx_v R_26 (by decide +kernel)).symm
    refine go_iload_n (n := 1) (by decide +kernel) l_75 f1 ?_
    refine go_iconst (n := 3) (z := 3) (by decide +kernel) (by decide) fun v_396 f_397 => ?_
    obtain ⟨m_398, e_399, h⟩ := up_s h
    refine go_iast (kd := 100) (by decide +kernel) rfl R_26 f_395 f1 f_397 (fx_k (c := 100) R_26 (by decide +kernel)) (fx_x (a := 145) (ln := 12) R_26 (by decide +kernel) g_34) e_399 (fx_a R_26.2 (fx_k (c := 100) R_26 (by decide +kernel)) (And.left (fx_x (a := 145) (ln := 12) R_26 (by decide +kernel) g_34)) (by decide +kernel)) fun S_400 R_401 E_402 => ?_
    have E_404 := E_402
    refine go_goto (o := 44) (t := 362) (by decide +kernel) (by decide +kernel) ?_
    cases h
    exact go_vret (by decide +kernel) rfl (hQ E_404 _ _ R_401 q_out_n)
  have h := it_f hp_392 h
  by_cases hp_406 : x_84 = 10
  · have h := it_t hp_406 h
    refine go_tsin (dflt := 303) (lo := 0) (hi := 11) (offs := #[63, 84, 121, 146, 164, 176, 201, 232, 242, 266, 276, 295]) (o := 276) (t := 321) (by decide +kernel) f_83 (by omega) (by omega) (by rw [hp_406]; decide) (by decide +kernel) ?_
    refine go_aload_n (n := 0) (by decide +kernel) l_74 f0 ?_
    refine go_getf (x := 247) (ci := 13) (kf := 94) (fin := 1) (t := 2) (by decide +kernel) (by decide +kernel) (by decide +kernel) R_26 f0 (fx_k (c := 13) R_26 (by decide +kernel)) fun v_407 f_408 => ?_
    have f_409 := q_is_eq (b := 144) f_408 (fx_v R_26 (by decide +kernel)).symm
    refine go_iload_n (n := 1) (by decide +kernel) l_75 f1 ?_
    refine go_dup2 (by decide +kernel) f1 (Or.inl rfl) f_409 (Or.inr rfl) ?_
    refine go_iald (kd := 100) (by decide +kernel) rfl R_26 f_409 f1 (fx_k (c := 100) R_26 (by decide +kernel)) (fx_x (a := 144) (ln := 12) R_26 (by decide +kernel) g_34) fun v_410 f_411 => ?_
    have f_412 := q_is_eq f_411 e_37
    refine go_iconst (n := 1) (z := 1) (by decide +kernel) (by decide) fun v_413 f_414 => ?_
    refine go_iadd (by decide +kernel) f_412 f_414 fun v_415 f_416 => ?_
    obtain ⟨m_417, e_418, h⟩ := up_s h
    refine go_iast (kd := 100) (by decide +kernel) rfl R_26 f_409 f1 f_416 (fx_k (c := 100) R_26 (by decide +kernel)) (fx_x (a := 144) (ln := 12) R_26 (by decide +kernel) g_34) e_418 (fx_a R_26.2 (fx_k (c := 100) R_26 (by decide +kernel)) (And.left (fx_x (a := 144) (ln := 12) R_26 (by decide +kernel) g_34)) (by decide +kernel)) fun S_419 R_420 E_421 => ?_
    have E_423 := E_421
    refine go_aload_n (n := 0) (by decide +kernel) l_74 f0 ?_
    refine go_iload_n (n := 1) (by decide +kernel) l_75 f1 ?_
    refine go_iload_n (n := 3) (by decide +kernel) l_77 f_54 ?_
    obtain ⟨x_425, m_426, hc_424, h⟩ := bd_s h
    refine go_callV (x := 474) (mi := 233) (n := 2) (ci := 13) (as := [v1, v_51]) (rest := []) (by decide +kernel) (by decide +kernel) rfl rfl (q_sum8 _ (Nat.le_of_ble_eq_true rfl)) R_420 f0 (fx_k (c := 13) R_420 (by decide +kernel)) (om_X12_races (Nat.le_trans (by decide) hd) R_420 f0 f1 f_54 hc_424) (fun _ S_429 q_432 => ?_) (fun _ _ qq => kr_x qq)
    refine kr_v q_432 fun R_430 E_431 => ?_
    have E_435 := Ext.tr E_423 E_431
    refine go_goto (o := 25) (t := 362) (by decide +kernel) (by decide +kernel) ?_
    cases h
    exact go_vret (by decide +kernel) rfl (hQ E_435 _ _ R_430 q_out_n)
  have h := it_f hp_406 h
  by_cases hp_437 : x_84 = 11
  · have h := it_t hp_437 h
    refine go_tsin (dflt := 303) (lo := 0) (hi := 11) (offs := #[63, 84, 121, 146, 164, 176, 201, 232, 242, 266, 276, 295]) (o := 295) (t := 340) (by decide +kernel) f_83 (by omega) (by omega) (by rw [hp_437]; decide) (by decide +kernel) ?_
    refine go_aload_n (n := 0) (by decide +kernel) l_74 f0 ?_
    refine go_iload_n (n := 1) (by decide +kernel) l_75 f1 ?_
    obtain ⟨x_439, m_440, hc_438, h⟩ := bd_s h
    refine go_callV (x := 477) (mi := 232) (n := 1) (ci := 13) (as := [v1]) (rest := []) (by decide +kernel) (by decide +kernel) rfl rfl (q_sum8 _ (Nat.le_of_ble_eq_true rfl)) R_26 f0 (fx_k (c := 13) R_26 (by decide +kernel)) (om_X12_wins (Nat.le_trans (by decide) hd) R_26 f0 f1 hc_438) (fun _ S_443 q_446 => ?_) (fun _ _ qq => kr_x qq)
    refine kr_v q_446 fun R_444 E_445 => ?_
    have E_449 := E_445
    refine go_goto (o := 17) (t := 362) (by decide +kernel) (by decide +kernel) ?_
    cases h
    exact go_vret (by decide +kernel) rfl (hQ E_449 _ _ R_444 q_out_n)
  have h := it_f hp_437 h
  refine go_tsout (dflt := 303) (lo := 0) (hi := 11) (offs := #[63, 84, 121, 146, 164, 176, 201, 232, 242, 266, 276, 295]) (t := 348) (by decide +kernel) f_83 (by omega) (by decide +kernel) ?_
  refine go_aload_n (n := 0) (by decide +kernel) l_74 f0 ?_
  refine go_iload_n (n := 1) (by decide +kernel) l_75 f1 ?_
  refine go_aload_n (n := 0) (by decide +kernel) l_74 f0 ?_
  refine go_getf (x := 16) (ci := 13) (kf := 3) (fin := 1) (t := 2) (by decide +kernel) (by decide +kernel) (by decide +kernel) R_26 f0 (fx_k (c := 13) R_26 (by decide +kernel)) fun v_450 f_451 => ?_
  have f_452 := q_is_eq (b := 71) f_451 (fx_v R_26 (by decide +kernel)).symm
  refine go_iload_n (n := 2) (by decide +kernel) l_76 f_42 ?_
  refine go_iald (kd := 100) (by decide +kernel) rfl R_26 f_452 f_42 (fx_k (c := 100) R_26 (by decide +kernel)) (fx_x (a := 71) (ln := 480) R_26 (by decide +kernel) g_53) fun v_453 f_454 => ?_
  have f_455 := q_is_eq f_454 e_85
  refine go_iload_n (n := 3) (by decide +kernel) l_77 f_54 ?_
  refine go_iload (n := 4) (by decide +kernel) l_72 f_68 ?_
  obtain ⟨x_457, m_458, hc_456, h⟩ := bd_s h
  refine go_callV (x := 480) (mi := 240) (n := 4) (ci := 13) (as := [v1, v_453, v_51, v_66]) (rest := []) (by decide +kernel) (by decide +kernel) rfl rfl (q_sum8 _ (Nat.le_of_ble_eq_true rfl)) R_26 f0 (fx_k (c := 13) R_26 (by decide +kernel)) (om_X12_doesMore (Nat.le_trans (by decide) hd) R_26 f0 f1 f_455 f_54 f_68 hc_456) (fun _ S_461 q_464 => ?_) (fun _ _ qq => kr_x qq)
  refine kr_v q_464 fun R_462 E_463 => ?_
  have E_467 := E_463
  cases h
  exact go_vret (by decide +kernel) rfl (hQ E_467 _ _ R_462 q_out_n)
noncomputable def fj_X12_canGoOn_140 (y1 : Int) (m : MM) : Option (Int × MM) := gd (0 ≤ y1 ∧ y1 < 12) <| lx (m 145 y1) fun x_32 =>
if x_32 = 0 then
some (1, m)
else
some (0, m)
set_option maxHeartbeats 4000000 in
theorem oj_X12_canGoOn_140 {xs : List Int32} {d : Nat} {S : QS} {L : QL} {Q : QO → QS → Prop} {m : MM} {y1 : Int} {v0 : Value} {v1 : Value}  {rz : Int} {rm : MM}
  (hd : 1 ≤ d) (R : Rp S m) (l0 : q_lo L 0 = some v0) (f0 : q_is 2 v0 68) (l1 : q_lo L 1 = some v1) (f1 : q_is 0 v1 y1)
  (hQ : Ext m rm → ∀ o S1, Rp S1 rm → q_out 0 o rz → Q o S1)
  (h : fj_X12_canGoOn_140 y1 m = some (rz, rm)) : Go xs d qM_X12_canGoOn 140 L [] S Q := by
  unfold fj_X12_canGoOn_140 at h
  refine go_aload_n (n := 0) (by decide +kernel) l0 f0 ?_
  refine go_getf (x := 250) (ci := 13) (kf := 95) (fin := 1) (t := 2) (by decide +kernel) (by decide +kernel) (by decide +kernel) R f0 (fx_k (c := 13) R (by decide +kernel)) fun v_25 f_26 => ?_
  have f_27 := q_is_eq (b := 145) f_26 (fx_v R (by decide +kernel)).symm
  refine go_iload_n (n := 1) (by decide +kernel) l1 f1 ?_
  obtain ⟨g_30, h⟩ := gd_s h
  obtain ⟨x_32, e_33, h⟩ := lx_s h
  refine go_iald (kd := 100) (by decide +kernel) rfl R f_27 f1 (fx_k (c := 100) R (by decide +kernel)) (fx_x (a := 145) (ln := 12) R (by decide +kernel) g_30) fun v_28 f_29 => ?_
  have f_31 := q_is_eq f_29 e_33
  refine go_if (c := .ne) (o := 7) (t := 153) (P := ¬ (x_32 = 0)) (by decide +kernel) (by decide +kernel) f_31 (Iff.rfl) (fun hp_34 => ?_) (fun hp_34 => ?_)
  · have h := it_f hp_34 h
    refine go_iconst (n := 0) (z := 0) (by decide +kernel) (by decide) fun v_35 f_36 => ?_
    cases h
    exact go_iret (by decide +kernel) rfl (Or.inr ⟨rfl, by decide⟩) f_36 (hQ (Ext.rf _) _ _ R (q_out_v (by decide) f_36))
  · have h := it_n hp_34 h
    refine go_iconst (n := 1) (z := 1) (by decide +kernel) (by decide) fun v_37 f_38 => ?_
    refine go_goto (o := 4) (t := 154) (by decide +kernel) (by decide +kernel) ?_
    cases h
    exact go_iret (by decide +kernel) rfl (Or.inr ⟨rfl, by decide⟩) f_38 (hQ (Ext.rf _) _ _ R (q_out_v (by decide) f_38))
noncomputable def fj_X12_canGoOn_100 (y1 : Int) (m : MM) : Option (Int × MM) := gd (0 ≤ y1 ∧ y1 < 12) <| lx (m 145 y1) fun x_20 =>
if x_20 = 3 then
lx (m 143 y1) fun x_45 =>
bp (fm_X12_hasChild x_45 m) fun x_48 =>
if x_48 = 0 then
up m 145 y1 0 fun m_62 =>
lx (m_62 144 y1) fun x_75 =>
up m_62 144 y1 (w32 (x_75 + 1)) fun m_81 =>
fj_X12_canGoOn_140 y1 m_81
else
fj_X12_canGoOn_140 y1 m
else
fj_X12_canGoOn_140 y1 m
set_option maxHeartbeats 4000000 in
theorem oj_X12_canGoOn_100 {xs : List Int32} {d : Nat} {S : QS} {L : QL} {Q : QO → QS → Prop} {m : MM} {y1 : Int} {v0 : Value} {v1 : Value}  {rz : Int} {rm : MM}
  (hd : 1 ≤ d) (R : Rp S m) (l0 : q_lo L 0 = some v0) (f0 : q_is 2 v0 68) (l1 : q_lo L 1 = some v1) (f1 : q_is 0 v1 y1)
  (hQ : Ext m rm → ∀ o S1, Rp S1 rm → q_out 0 o rz → Q o S1)
  (h : fj_X12_canGoOn_100 y1 m = some (rz, rm)) : Go xs d qM_X12_canGoOn 100 L [] S Q := by
  unfold fj_X12_canGoOn_100 at h
  refine go_aload_n (n := 0) (by decide +kernel) l0 f0 ?_
  refine go_getf (x := 250) (ci := 13) (kf := 95) (fin := 1) (t := 2) (by decide +kernel) (by decide +kernel) (by decide +kernel) R f0 (fx_k (c := 13) R (by decide +kernel)) fun v_13 f_14 => ?_
  have f_15 := q_is_eq (b := 145) f_14 (fx_v R (by decide +kernel)).symm
  refine go_iload_n (n := 1) (by decide +kernel) l1 f1 ?_
  obtain ⟨g_18, h⟩ := gd_s h
  obtain ⟨x_20, e_21, h⟩ := lx_s h
  refine go_iald (kd := 100) (by decide +kernel) rfl R f_15 f1 (fx_k (c := 100) R (by decide +kernel)) (fx_x (a := 145) (ln := 12) R (by decide +kernel) g_18) fun v_16 f_17 => ?_
  have f_19 := q_is_eq f_17 e_21
  refine go_iconst (n := 3) (z := 3) (by decide +kernel) (by decide) fun v_22 f_23 => ?_
  refine go_icmp (c := .ne) (o := 33) (t := 140) (P := ¬ (x_20 = 3)) (by decide +kernel) (by decide +kernel) f_19 f_23 (Iff.rfl) (fun hp_24 => ?_) (fun hp_24 => ?_)
  · have h := it_f hp_24 h
    exact oj_X12_canGoOn_140 hd R l0 f0 l1 f1 hQ h
  · have h := it_n hp_24 h
    refine go_aload_n (n := 0) (by decide +kernel) l0 f0 ?_
    refine go_aload_n (n := 0) (by decide +kernel) l0 f0 ?_
    refine go_getf (x := 244) (ci := 13) (kf := 93) (fin := 1) (t := 2) (by decide +kernel) (by decide +kernel) (by decide +kernel) R f0 (fx_k (c := 13) R (by decide +kernel)) fun v_39 f_40 => ?_
    have f_41 := q_is_eq (b := 143) f_40 (fx_v R (by decide +kernel)).symm
    refine go_iload_n (n := 1) (by decide +kernel) l1 f1 ?_
    obtain ⟨x_45, e_46, h⟩ := lx_s h
    refine go_iald (kd := 100) (by decide +kernel) rfl R f_41 f1 (fx_k (c := 100) R (by decide +kernel)) (fx_x (a := 143) (ln := 12) R (by decide +kernel) g_18) fun v_42 f_43 => ?_
    have f_44 := q_is_eq f_43 e_46
    obtain ⟨x_48, hc_47, h⟩ := bp_s h
    refine go_callV (x := 500) (mi := 234) (n := 1) (ci := 13) (as := [v_42]) (rest := []) (by decide +kernel) (by decide +kernel) rfl rfl (q_sum8 _ (Nat.le_of_ble_eq_true rfl)) R f0 (fx_k (c := 13) R (by decide +kernel)) (om_X12_hasChild (Nat.le_trans (by decide) hd) R f0 f_44 hc_47) (fun _ S_52 q_55 => ?_) (fun _ _ qq => kr_x qq)
    refine kr_z (by decide) q_55 fun v_50 f_51 R_53 E_54 => ?_
    refine go_if (c := .ne) (o := 20) (t := 140) (P := ¬ (x_48 = 0)) (by decide +kernel) (by decide +kernel) f_51 (Iff.rfl) (fun hp_56 => ?_) (fun hp_56 => ?_)
    · have h := it_f hp_56 h
      exact oj_X12_canGoOn_140 hd R_53 l0 f0 l1 f1 hQ h
    · have h := it_n hp_56 h
      refine go_aload_n (n := 0) (by decide +kernel) l0 f0 ?_
      refine go_getf (x := 250) (ci := 13) (kf := 95) (fin := 1) (t := 2) (by decide +kernel) (by decide +kernel) (by decide +kernel) R_53 f0 (fx_k (c := 13) R_53 (by decide +kernel)) fun v_57 f_58 => ?_
      have f_59 := q_is_eq (b := 145) f_58 (fx_v R_53 (by decide +kernel)).symm
      refine go_iload_n (n := 1) (by decide +kernel) l1 f1 ?_
      refine go_iconst (n := 0) (z := 0) (by decide +kernel) (by decide) fun v_60 f_61 => ?_
      obtain ⟨m_62, e_63, h⟩ := up_s h
      refine go_iast (kd := 100) (by decide +kernel) rfl R_53 f_59 f1 f_61 (fx_k (c := 100) R_53 (by decide +kernel)) (fx_x (a := 145) (ln := 12) R_53 (by decide +kernel) g_18) e_63 (fx_a R_53.2 (fx_k (c := 100) R_53 (by decide +kernel)) (And.left (fx_x (a := 145) (ln := 12) R_53 (by decide +kernel) g_18)) (by decide +kernel)) fun S_64 R_65 E_66 => ?_
      have E_68 := E_66
      refine go_aload_n (n := 0) (by decide +kernel) l0 f0 ?_
      refine go_getf (x := 247) (ci := 13) (kf := 94) (fin := 1) (t := 2) (by decide +kernel) (by decide +kernel) (by decide +kernel) R_65 f0 (fx_k (c := 13) R_65 (by decide +kernel)) fun v_69 f_70 => ?_
      have f_71 := q_is_eq (b := 144) f_70 (fx_v R_65 (by decide +kernel)).symm
      refine go_iload_n (n := 1) (by decide +kernel) l1 f1 ?_
      refine go_dup2 (by decide +kernel) f1 (Or.inl rfl) f_71 (Or.inr rfl) ?_
      obtain ⟨x_75, e_76, h⟩ := lx_s h
      refine go_iald (kd := 100) (by decide +kernel) rfl R_65 f_71 f1 (fx_k (c := 100) R_65 (by decide +kernel)) (fx_x (a := 144) (ln := 12) R_65 (by decide +kernel) g_18) fun v_72 f_73 => ?_
      have f_74 := q_is_eq f_73 e_76
      refine go_iconst (n := 1) (z := 1) (by decide +kernel) (by decide) fun v_77 f_78 => ?_
      refine go_iadd (by decide +kernel) f_74 f_78 fun v_79 f_80 => ?_
      obtain ⟨m_81, e_82, h⟩ := up_s h
      refine go_iast (kd := 100) (by decide +kernel) rfl R_65 f_71 f1 f_80 (fx_k (c := 100) R_65 (by decide +kernel)) (fx_x (a := 144) (ln := 12) R_65 (by decide +kernel) g_18) e_82 (fx_a R_65.2 (fx_k (c := 100) R_65 (by decide +kernel)) (And.left (fx_x (a := 144) (ln := 12) R_65 (by decide +kernel) g_18)) (by decide +kernel)) fun S_83 R_84 E_85 => ?_
      have E_87 := Ext.tr E_68 E_85
      exact oj_X12_canGoOn_140 hd R_84 l0 f0 l1 f1 (fun b => hQ (Ext.tr E_87 b)) h
noncomputable def fm_X12_canGoOn (p1 : Int) (m0 : MM) : Option (Int × MM) := gd (0 ≤ p1 ∧ p1 < 12) <| lx (m0 145 p1) fun x_8 =>
if x_8 = 2 then
lx (m0 146 p1) fun x_97 =>
gd (0 ≤ x_97 ∧ x_97 < 4) <| lx (m0 156 x_97) fun x_103 =>
lx (m0 155 x_97) fun x_117 =>
if x_103 < x_117 then
lx (m0 147 p1) fun x_140 =>
gd (0 ≤ w32 ((w32 (2048 * x_97)) + x_103) ∧ w32 ((w32 (2048 * x_97)) + x_103) < 8192) <| lx (m0 157 (w32 ((w32 (2048 * x_97)) + x_103))) fun x_161 =>
gd (0 ≤ x_140 ∧ x_140 < 6) <| up m0 142 x_140 x_161 fun m_164 =>
lx (m_164 156 x_97) fun x_177 =>
up m_164 156 x_97 (w32 (x_177 + 1)) fun m_183 =>
up m_183 145 p1 0 fun m_195 =>
lx (m_195 144 p1) fun x_208 =>
up m_195 144 p1 (w32 (x_208 + 1)) fun m_214 =>
fj_X12_canGoOn_140 p1 m_214
else
fj_X12_canGoOn_100 p1 m0
else
fj_X12_canGoOn_100 p1 m0
set_option maxHeartbeats 4000000 in
theorem om_X12_canGoOn {xs : List Int32} {d : Nat} {S : QS} {m0 : MM} {p1 : Int} {v0 : Value} {v1 : Value} {rz : Int} {rm : MM}
  (hd : 2 ≤ d) (R : Rp S m0) (f0 : q_is 2 v0 68) (f1 : q_is 0 v1 p1)
  (h : fm_X12_canGoOn p1 m0 = some (rz, rm)) : Mt xs d 241 [v0, v1] S (Cr 0 m0 rm rz) := by
  obtain ⟨d, rfl⟩ : ∃ e, d = e + 1 := ⟨d - 1, by omega⟩
  have hd : 1 ≤ d := Nat.le_of_succ_le_succ hd
  refine Mt.of (M := qM_X12_canGoOn) rfl (by rw [sl_1 (q_is_cat f0 (Or.inr rfl)), sl_1 (q_is_cat f1 (Or.inl rfl)), sl_0]; decide) ?_
  rw [la_1 (q_is_cat f0 (Or.inr rfl)), la_1 (q_is_cat f1 (Or.inl rfl)), la_0]
  obtain ⟨L, hL⟩ : ∃ L : QL, L = [(0, v0), (0 + 1, v1)] := ⟨_, rfl⟩
  rw [← hL]
  have l0 : q_lo L 0 = some v0 := by rw [hL]; rfl
  have l1 : q_lo L 1 = some v1 := by rw [hL]; rfl
  have hQ : Ext m0 rm → ∀ o S1, Rp S1 rm → q_out 0 o rz → (Cr 0 m0 rm rz) o S1 := fun a o S1 b e => ⟨b, a, e⟩
  unfold fm_X12_canGoOn at h
  refine go_aload_n (n := 0) (by decide +kernel) l0 f0 ?_
  refine go_getf (x := 250) (ci := 13) (kf := 95) (fin := 1) (t := 2) (by decide +kernel) (by decide +kernel) (by decide +kernel) R f0 (fx_k (c := 13) R (by decide +kernel)) fun v_1 f_2 => ?_
  have f_3 := q_is_eq (b := 145) f_2 (fx_v R (by decide +kernel)).symm
  refine go_iload_n (n := 1) (by decide +kernel) l1 f1 ?_
  obtain ⟨g_6, h⟩ := gd_s h
  obtain ⟨x_8, e_9, h⟩ := lx_s h
  refine go_iald (kd := 100) (by decide +kernel) rfl R f_3 f1 (fx_k (c := 100) R (by decide +kernel)) (fx_x (a := 145) (ln := 12) R (by decide +kernel) g_6) fun v_4 f_5 => ?_
  have f_7 := q_is_eq f_5 e_9
  refine go_iconst (n := 2) (z := 2) (by decide +kernel) (by decide) fun v_10 f_11 => ?_
  refine go_icmp (c := .ne) (o := 93) (t := 100) (P := ¬ (x_8 = 2)) (by decide +kernel) (by decide +kernel) f_7 f_11 (Iff.rfl) (fun hp_12 => ?_) (fun hp_12 => ?_)
  · have h := it_f hp_12 h
    exact oj_X12_canGoOn_100 hd R l0 f0 l1 f1 hQ h
  · have h := it_n hp_12 h
    refine go_aload_n (n := 0) (by decide +kernel) l0 f0 ?_
    refine go_getf (x := 284) (ci := 13) (kf := 108) (fin := 1) (t := 2) (by decide +kernel) (by decide +kernel) (by decide +kernel) R f0 (fx_k (c := 13) R (by decide +kernel)) fun v_88 f_89 => ?_
    have f_90 := q_is_eq (b := 156) f_89 (fx_v R (by decide +kernel)).symm
    refine go_aload_n (n := 0) (by decide +kernel) l0 f0 ?_
    refine go_getf (x := 253) (ci := 13) (kf := 96) (fin := 1) (t := 2) (by decide +kernel) (by decide +kernel) (by decide +kernel) R f0 (fx_k (c := 13) R (by decide +kernel)) fun v_91 f_92 => ?_
    have f_93 := q_is_eq (b := 146) f_92 (fx_v R (by decide +kernel)).symm
    refine go_iload_n (n := 1) (by decide +kernel) l1 f1 ?_
    obtain ⟨x_97, e_98, h⟩ := lx_s h
    refine go_iald (kd := 100) (by decide +kernel) rfl R f_93 f1 (fx_k (c := 100) R (by decide +kernel)) (fx_x (a := 146) (ln := 12) R (by decide +kernel) g_6) fun v_94 f_95 => ?_
    have f_96 := q_is_eq f_95 e_98
    obtain ⟨g_101, h⟩ := gd_s h
    obtain ⟨x_103, e_104, h⟩ := lx_s h
    refine go_iald (kd := 100) (by decide +kernel) rfl R f_90 f_96 (fx_k (c := 100) R (by decide +kernel)) (fx_x (a := 156) (ln := 4) R (by decide +kernel) g_101) fun v_99 f_100 => ?_
    have f_102 := q_is_eq f_100 e_104
    refine go_aload_n (n := 0) (by decide +kernel) l0 f0 ?_
    refine go_getf (x := 281) (ci := 13) (kf := 107) (fin := 1) (t := 2) (by decide +kernel) (by decide +kernel) (by decide +kernel) R f0 (fx_k (c := 13) R (by decide +kernel)) fun v_105 f_106 => ?_
    have f_107 := q_is_eq (b := 155) f_106 (fx_v R (by decide +kernel)).symm
    refine go_aload_n (n := 0) (by decide +kernel) l0 f0 ?_
    refine go_getf (x := 253) (ci := 13) (kf := 96) (fin := 1) (t := 2) (by decide +kernel) (by decide +kernel) (by decide +kernel) R f0 (fx_k (c := 13) R (by decide +kernel)) fun v_108 f_109 => ?_
    have f_110 := q_is_eq (b := 146) f_109 (fx_v R (by decide +kernel)).symm
    refine go_iload_n (n := 1) (by decide +kernel) l1 f1 ?_
    refine go_iald (kd := 100) (by decide +kernel) rfl R f_110 f1 (fx_k (c := 100) R (by decide +kernel)) (fx_x (a := 146) (ln := 12) R (by decide +kernel) g_6) fun v_111 f_112 => ?_
    have f_113 := q_is_eq f_112 e_98
    obtain ⟨x_117, e_118, h⟩ := lx_s h
    refine go_iald (kd := 100) (by decide +kernel) rfl R f_107 f_113 (fx_k (c := 100) R (by decide +kernel)) (fx_x (a := 155) (ln := 4) R (by decide +kernel) g_101) fun v_114 f_115 => ?_
    have f_116 := q_is_eq f_115 e_118
    refine go_icmp (c := .ge) (o := 68) (t := 100) (P := ¬ (x_103 < x_117)) (by decide +kernel) (by decide +kernel) f_102 f_116 (Int.not_lt.symm) (fun hp_119 => ?_) (fun hp_119 => ?_)
    · have h := it_f hp_119 h
      exact oj_X12_canGoOn_100 hd R l0 f0 l1 f1 hQ h
    · have h := it_n hp_119 h
      refine go_aload_n (n := 0) (by decide +kernel) l0 f0 ?_
      refine go_getf (x := 253) (ci := 13) (kf := 96) (fin := 1) (t := 2) (by decide +kernel) (by decide +kernel) (by decide +kernel) R f0 (fx_k (c := 13) R (by decide +kernel)) fun v_120 f_121 => ?_
      have f_122 := q_is_eq (b := 146) f_121 (fx_v R (by decide +kernel)).symm
      refine go_iload_n (n := 1) (by decide +kernel) l1 f1 ?_
      refine go_iald (kd := 100) (by decide +kernel) rfl R f_122 f1 (fx_k (c := 100) R (by decide +kernel)) (fx_x (a := 146) (ln := 12) R (by decide +kernel) g_6) fun v_123 f_124 => ?_
      have f_125 := q_is_eq f_124 e_98
      refine go_istore_n (n := 2) (by decide +kernel) (by decide +kernel) f_125 fun L_126 l_127 kp_128 => ?_
      have l_129 := kp_128 0 _ l0 (by decide) (Or.inl (by decide))
      have l_130 := kp_128 1 _ l1 (by decide) (Or.inr (q_is_cat f1 (Or.inl rfl)))
      refine go_aload_n (n := 0) (by decide +kernel) l_129 f0 ?_
      refine go_getf (x := 241) (ci := 13) (kf := 90) (fin := 1) (t := 2) (by decide +kernel) (by decide +kernel) (by decide +kernel) R f0 (fx_k (c := 13) R (by decide +kernel)) fun v_131 f_132 => ?_
      have f_133 := q_is_eq (b := 142) f_132 (fx_v R (by decide +kernel)).symm
      refine go_aload_n (n := 0) (by decide +kernel) l_129 f0 ?_
      refine go_getf (x := 256) (ci := 13) (kf := 97) (fin := 1) (t := 2) (by decide +kernel) (by decide +kernel) (by decide +kernel) R f0 (fx_k (c := 13) R (by decide +kernel)) fun v_134 f_135 => ?_
      have f_136 := q_is_eq (b := 147) f_135 (fx_v R (by decide +kernel)).symm
      refine go_iload_n (n := 1) (by decide +kernel) l_130 f1 ?_
      obtain ⟨x_140, e_141, h⟩ := lx_s h
      refine go_iald (kd := 100) (by decide +kernel) rfl R f_136 f1 (fx_k (c := 100) R (by decide +kernel)) (fx_x (a := 147) (ln := 12) R (by decide +kernel) g_6) fun v_137 f_138 => ?_
      have f_139 := q_is_eq f_138 e_141
      refine go_aload_n (n := 0) (by decide +kernel) l_129 f0 ?_
      refine go_getf (x := 287) (ci := 13) (kf := 109) (fin := 1) (t := 2) (by decide +kernel) (by decide +kernel) (by decide +kernel) R f0 (fx_k (c := 13) R (by decide +kernel)) fun v_142 f_143 => ?_
      have f_144 := q_is_eq (b := 157) f_143 (fx_v R (by decide +kernel)).symm
      refine go_sipush (n := 2048) (z := 2048) (by decide +kernel) (by decide) fun v_145 f_146 => ?_
      refine go_iload_n (n := 2) (by decide +kernel) l_127 f_125 ?_
      refine go_imul (by decide +kernel) f_146 f_125 fun v_147 f_148 => ?_
      refine go_aload_n (n := 0) (by decide +kernel) l_129 f0 ?_
      refine go_getf (x := 284) (ci := 13) (kf := 108) (fin := 1) (t := 2) (by decide +kernel) (by decide +kernel) (by decide +kernel) R f0 (fx_k (c := 13) R (by decide +kernel)) fun v_149 f_150 => ?_
      have f_151 := q_is_eq (b := 156) f_150 (fx_v R (by decide +kernel)).symm
      refine go_iload_n (n := 2) (by decide +kernel) l_127 f_125 ?_
      refine go_iald (kd := 100) (by decide +kernel) rfl R f_151 f_125 (fx_k (c := 100) R (by decide +kernel)) (fx_x (a := 156) (ln := 4) R (by decide +kernel) g_101) fun v_152 f_153 => ?_
      have f_154 := q_is_eq f_153 e_104
      refine go_iadd (by decide +kernel) f_148 f_154 fun v_155 f_156 => ?_
      obtain ⟨g_159, h⟩ := gd_s h
      obtain ⟨x_161, e_162, h⟩ := lx_s h
      refine go_iald (kd := 100) (by decide +kernel) rfl R f_144 f_156 (fx_k (c := 100) R (by decide +kernel)) (fx_x (a := 157) (ln := 8192) R (by decide +kernel) g_159) fun v_157 f_158 => ?_
      have f_160 := q_is_eq f_158 e_162
      obtain ⟨g_163, h⟩ := gd_s h
      obtain ⟨m_164, e_165, h⟩ := up_s h
      refine go_iast (kd := 100) (by decide +kernel) rfl R f_133 f_139 f_160 (fx_k (c := 100) R (by decide +kernel)) (fx_x (a := 142) (ln := 6) R (by decide +kernel) g_163) e_165 (fx_a R.2 (fx_k (c := 100) R (by decide +kernel)) (And.left (fx_x (a := 142) (ln := 6) R (by decide +kernel) g_163)) (by decide +kernel)) fun S_166 R_167 E_168 => ?_
      have E_170 := E_168
      refine go_aload_n (n := 0) (by decide +kernel) l_129 f0 ?_
      refine go_getf (x := 284) (ci := 13) (kf := 108) (fin := 1) (t := 2) (by decide +kernel) (by decide +kernel) (by decide +kernel) R_167 f0 (fx_k (c := 13) R_167 (by decide +kernel)) fun v_171 f_172 => ?_
      have f_173 := q_is_eq (b := 156) f_172 (fx_v R_167 (by decide +kernel)).symm
      refine go_iload_n (n := 2) (by decide +kernel) l_127 f_125 ?_
      refine go_dup2 (by decide +kernel) f_125 (Or.inl rfl) f_173 (Or.inr rfl) ?_
      obtain ⟨x_177, e_178, h⟩ := lx_s h
      refine go_iald (kd := 100) (by decide +kernel) rfl R_167 f_173 f_125 (fx_k (c := 100) R_167 (by decide +kernel)) (fx_x (a := 156) (ln := 4) R_167 (by decide +kernel) g_101) fun v_174 f_175 => ?_
      have f_176 := q_is_eq f_175 e_178
      refine go_iconst (n := 1) (z := 1) (by decide +kernel) (by decide) fun v_179 f_180 => ?_
      refine go_iadd (by decide +kernel) f_176 f_180 fun v_181 f_182 => ?_
      obtain ⟨m_183, e_184, h⟩ := up_s h
      refine go_iast (kd := 100) (by decide +kernel) rfl R_167 f_173 f_125 f_182 (fx_k (c := 100) R_167 (by decide +kernel)) (fx_x (a := 156) (ln := 4) R_167 (by decide +kernel) g_101) e_184 (fx_a R_167.2 (fx_k (c := 100) R_167 (by decide +kernel)) (And.left (fx_x (a := 156) (ln := 4) R_167 (by decide +kernel) g_101)) (by decide +kernel)) fun S_185 R_186 E_187 => ?_
      have E_189 := Ext.tr E_170 E_187
      refine go_aload_n (n := 0) (by decide +kernel) l_129 f0 ?_
      refine go_getf (x := 250) (ci := 13) (kf := 95) (fin := 1) (t := 2) (by decide +kernel) (by decide +kernel) (by decide +kernel) R_186 f0 (fx_k (c := 13) R_186 (by decide +kernel)) fun v_190 f_191 => ?_
      have f_192 := q_is_eq (b := 145) f_191 (fx_v R_186 (by decide +kernel)).symm
      refine go_iload_n (n := 1) (by decide +kernel) l_130 f1 ?_
      refine go_iconst (n := 0) (z := 0) (by decide +kernel) (by decide) fun v_193 f_194 => ?_
      obtain ⟨m_195, e_196, h⟩ := up_s h
      refine go_iast (kd := 100) (by decide +kernel) rfl R_186 f_192 f1 f_194 (fx_k (c := 100) R_186 (by decide +kernel)) (fx_x (a := 145) (ln := 12) R_186 (by decide +kernel) g_6) e_196 (fx_a R_186.2 (fx_k (c := 100) R_186 (by decide +kernel)) (And.left (fx_x (a := 145) (ln := 12) R_186 (by decide +kernel) g_6)) (by decide +kernel)) fun S_197 R_198 E_199 => ?_
      have E_201 := Ext.tr E_189 E_199
      refine go_aload_n (n := 0) (by decide +kernel) l_129 f0 ?_
      refine go_getf (x := 247) (ci := 13) (kf := 94) (fin := 1) (t := 2) (by decide +kernel) (by decide +kernel) (by decide +kernel) R_198 f0 (fx_k (c := 13) R_198 (by decide +kernel)) fun v_202 f_203 => ?_
      have f_204 := q_is_eq (b := 144) f_203 (fx_v R_198 (by decide +kernel)).symm
      refine go_iload_n (n := 1) (by decide +kernel) l_130 f1 ?_
      refine go_dup2 (by decide +kernel) f1 (Or.inl rfl) f_204 (Or.inr rfl) ?_
      obtain ⟨x_208, e_209, h⟩ := lx_s h
      refine go_iald (kd := 100) (by decide +kernel) rfl R_198 f_204 f1 (fx_k (c := 100) R_198 (by decide +kernel)) (fx_x (a := 144) (ln := 12) R_198 (by decide +kernel) g_6) fun v_205 f_206 => ?_
      have f_207 := q_is_eq f_206 e_209
      refine go_iconst (n := 1) (z := 1) (by decide +kernel) (by decide) fun v_210 f_211 => ?_
      refine go_iadd (by decide +kernel) f_207 f_211 fun v_212 f_213 => ?_
      obtain ⟨m_214, e_215, h⟩ := up_s h
      refine go_iast (kd := 100) (by decide +kernel) rfl R_198 f_204 f1 f_213 (fx_k (c := 100) R_198 (by decide +kernel)) (fx_x (a := 144) (ln := 12) R_198 (by decide +kernel) g_6) e_215 (fx_a R_198.2 (fx_k (c := 100) R_198 (by decide +kernel)) (And.left (fx_x (a := 144) (ln := 12) R_198 (by decide +kernel) g_6)) (by decide +kernel)) fun S_216 R_217 E_218 => ?_
      have E_220 := Ext.tr E_201 E_218
      refine go_goto (o := 43) (t := 140) (by decide +kernel) (by decide +kernel) ?_
      exact oj_X12_canGoOn_140 hd R_217 l_129 f0 l_130 f1 (fun b => hQ (Ext.tr E_220 b)) h
end DF31
