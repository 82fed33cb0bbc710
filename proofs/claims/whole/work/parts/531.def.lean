/-! Methods as functions (written by wip/whole/dec.py), 31: X12_does, X12_canGoOn. -/
section DF31
noncomputable def fm_X12_does (p1 : Int) (m0 : MM) : Option (Int × MM) := lx (m0 68 88) fun x_7 =>
gd (0 ≤ x_7 ∧ x_7 < 30) <| lx (m0 80 x_7) fun x_13 =>
lx (m0 68 89) fun x_18 =>
bp (fm_X12_code x_13 x_18 m0) fun x_21 =>
gd (0 ≤ p1 ∧ p1 < 12) <| lx (m0 144 p1) fun x_36 =>
lx (w32 (x_21 + x_36)) fun x_40 =>
gd (0 ≤ x_40 ∧ x_40 < 480) <| lx (m0 72 x_40) fun x_55 =>
lx (m0 73 x_40) fun x_69 =>
lx (m0 71 x_40) fun x_84 =>
if x_84 = 0 then
gd (0 ≤ x_55 ∧ x_55 < 6) <| up m0 142 x_55 x_69 fun m_92 =>
lx (m_92 144 p1) fun x_104 =>
up m_92 144 p1 (w32 (x_104 + 1)) fun m_110 =>
some (0, m_110)
else if x_84 = 1 then
gd (0 ≤ x_55 ∧ x_55 < 6) <| lx (m0 142 x_55) fun x_128 =>
gd (0 ≤ x_69 ∧ x_69 < 6) <| lx (m0 142 x_69) fun x_137 =>
up m0 142 x_55 (Int.tmod (w32 (x_128 + x_137)) 1000) fun m_145 =>
lx (m_145 144 p1) fun x_157 =>
up m_145 144 p1 (w32 (x_157 + 1)) fun m_163 =>
some (0, m_163)
else if x_84 = 2 then
gd (0 ≤ x_69 ∧ x_69 < 6) <| lx (m0 142 x_69) fun x_182 =>
bd (fm_X12_commands 8 x_55 x_182 m0) fun x_185 m_186 =>
bd (fm_X12_awaits p1 1 x_185 x_69 m_186) fun x_195 m_196 =>
some (0, m_196)
else if x_84 = 3 then
bd (fm_X12_commands 9 x_55 0 m0) fun x_213 m_214 =>
bd (fm_X12_awaits p1 1 x_213 (-1) m_214) fun x_225 m_226 =>
some (0, m_226)
else if x_84 = 4 then
bd (fm_X12_awaits p1 2 x_55 x_69 m0) fun x_239 m_240 =>
some (0, m_240)
else if x_84 = 5 then
gd (0 ≤ x_69 ∧ x_69 < 6) <| lx (m0 142 x_69) fun x_261 =>
bd (fm_X12_commands 10 x_55 x_261 m0) fun x_264 m_265 =>
bd (fm_X12_awaits p1 1 x_264 x_69 m_265) fun x_274 m_275 =>
some (0, m_275)
else if x_84 = 6 then
gd (0 ≤ x_55 ∧ x_55 < 6) <| lx (m0 142 x_55) fun x_295 =>
if x_295 = 0 then
up m0 144 p1 x_69 fun m_314 =>
some (0, m_314)
else
up m0 144 p1 (w32 (x_36 + 1)) fun m_308 =>
some (0, m_308)
else if x_84 = 7 then
up m0 144 p1 x_55 fun m_325 =>
some (0, m_325)
else if x_84 = 8 then
up m0 144 p1 (w32 (x_36 + 1)) fun m_343 =>
lx (m_343 143 p1) fun x_355 =>
bd (fm_X12_begins x_55 x_355 m_343) fun x_358 m_359 =>
some (0, m_359)
else if x_84 = 9 then
up m0 145 p1 3 fun m_374 =>
some (0, m_374)
else if x_84 = 10 then
up m0 144 p1 (w32 (x_36 + 1)) fun m_392 =>
bd (fm_X12_races p1 x_55 m_392) fun x_399 m_400 =>
some (0, m_400)
else if x_84 = 11 then
bd (fm_X12_wins p1 m0) fun x_411 m_412 =>
some (0, m_412)
else 
bd (fm_X12_doesMore p1 x_84 x_55 x_69 m0) fun x_427 m_428 =>
some (0, m_428)
set_option maxHeartbeats 4000000 in
theorem om_X12_does {xs : List Int32} {d : Nat} {S : QS} {m0 : MM} {p1 : Int} {v0 : Value} {v1 : Value} {rz : Int} {rm : MM}
  (hd : 10 ≤ d) (R : Rp S m0) (f0 : q_is 2 v0 68) (f1 : q_is 0 v1 p1)
  (h : fm_X12_does p1 m0 = some (rz, rm)) : Mt xs d 239 [v0, v1] S (Cr 9 m0 rm rz) := by
  obtain ⟨d, rfl⟩ : ∃ e, d = e + 1 := ⟨d - 1, by omega⟩
  have hd : 9 ≤ d := Nat.le_of_succ_le_succ hd
  refine Mt.of (M := qM_X12_does) rfl (by rw [sl_1 (q_is_cat f0 (Or.inr rfl)), sl_1 (q_is_cat f1 (Or.inl rfl)), sl_0]; decide) ?_
  rw [la_1 (q_is_cat f0 (Or.inr rfl)), la_1 (q_is_cat f1 (Or.inl rfl)), la_0]
  obtain ⟨L, hL⟩ : ∃ L : QL, L = [(0, v0), (0 + 1, v1)] := ⟨_, rfl⟩
  rw [← hL]
  have l0 : q_lo L 0 = some v0 := by rw [hL]; rfl
  have l1 : q_lo L 1 = some v1 := by rw [hL]; rfl
  have hQ : Ext m0 rm → ∀ o S1, Rp S1 rm → q_out 9 o rz → (Cr 9 m0 rm rz) o S1 := fun a o S1 b e => ⟨b, a, e⟩
  unfold fm_X12_does at h
  refine go_aload_n (n := 0) (by decide +kernel) l0 f0 ?_
  refine go_getf (x := 43) (ci := 13) (kf := 13) (fin := 1) (t := 2) (by decide +kernel) (by decide +kernel) (by decide +kernel) R f0 (fx_k (c := 13) R (by decide +kernel)) fun v_1 f_2 => ?_
  have f_3 := q_is_eq (b := 80) f_2 (fx_v R (by decide +kernel)).symm
  refine go_aload_n (n := 0) (by decide +kernel) l0 f0 ?_
  obtain ⟨x_7, e_8, h⟩ := lx_s h
  refine go_getf (x := 387) (ci := 13) (kf := 88) (fin := 0) (t := 0) (by decide +kernel) (by decide +kernel) (by decide +kernel) R f0 (fx_k (c := 13) R (by decide +kernel)) fun v_4 f_5 => ?_
  have f_6 := q_is_eq f_5 e_8
  obtain ⟨g_11, h⟩ := gd_s h
  obtain ⟨x_13, e_14, h⟩ := lx_s h
  refine go_iald (kd := 100) (by decide +kernel) rfl R f_3 f_6 (fx_k (c := 100) R (by decide +kernel)) (fx_x (a := 80) (ln := 30) R (by decide +kernel) g_11) fun v_9 f_10 => ?_
  have f_12 := q_is_eq f_10 e_14
  refine go_aload_n (n := 0) (by decide +kernel) l0 f0 ?_
  obtain ⟨x_18, e_19, h⟩ := lx_s h
  refine go_getf (x := 471) (ci := 13) (kf := 89) (fin := 0) (t := 0) (by decide +kernel) (by decide +kernel) (by decide +kernel) R f0 (fx_k (c := 13) R (by decide +kernel)) fun v_15 f_16 => ?_
  have f_17 := q_is_eq f_16 e_19
  obtain ⟨x_21, hc_20, h⟩ := bp_s h
  refine go_callS (x := 327) (mi := 196) (n := 2) (b := 0) (as := [v_9, v_15]) (rest := []) (by decide +kernel) (by decide +kernel) rfl rfl (q_sum8 _ (Nat.le_of_ble_eq_true rfl)) (om_X12_code (Nat.le_trans (by decide) hd) R f_12 f_17 hc_20) (fun _ S_25 q_28 => ?_) (fun _ _ qq => kr_x qq)
  refine kr_z (by decide) q_28 fun v_23 f_24 R_26 E_27 => ?_
  refine go_aload_n (n := 0) (by decide +kernel) l0 f0 ?_
  refine go_getf (x := 247) (ci := 13) (kf := 94) (fin := 1) (t := 2) (by decide +kernel) (by decide +kernel) (by decide +kernel) R_26 f0 (fx_k (c := 13) R_26 (by decide +kernel)) fun v_29 f_30 => ?_
  have f_31 := q_is_eq (b := 144) f_30 (fx_v R_26 (by decide +kernel)).symm
  refine go_iload_n (n := 1) (by decide +kernel) l1 f1 ?_
  obtain ⟨g_34, h⟩ := gd_s h
  obtain ⟨x_36, e_37, h⟩ := lx_s h
  refine go_iald (kd := 100) (by decide +kernel) rfl R_26 f_31 f1 (fx_k (c := 100) R_26 (by decide +kernel)) (fx_x (a := 144) (ln := 12) R_26 (by decide +kernel) g_34) fun v_32 f_33 => ?_
  have f_35 := q_is_eq f_33 e_37
  refine go_iadd (by decide +kernel) f_24 f_35 fun v_38 f_39 => ?_
  obtain ⟨x_40, e_41, h⟩ := lx_s h
  have f_42 := q_is_eq f_39 e_41
  refine go_istore_n (n := 2) (by decide +kernel) (by decide +kernel) f_42 fun L_43 l_44 kp_45 => ?_
  have l_46 := kp_45 0 _ l0 (by decide) (Or.inl (by decide))
  have l_47 := kp_45 1 _ l1 (by decide) (Or.inr (q_is_cat f1 (Or.inl rfl)))
  refine go_aload_n (n := 0) (by decide +kernel) l_46 f0 ?_
  refine go_getf (x := 19) (ci := 13) (kf := 4) (fin := 1) (t := 2) (by decide +kernel) (by decide +kernel) (by decide +kernel) R_26 f0 (fx_k (c := 13) R_26 (by decide +kernel)) fun v_48 f_49 => ?_
  have f_50 := q_is_eq (b := 72) f_49 (fx_v R_26 (by decide +kernel)).symm
  refine go_iload_n (n := 2) (by decide +kernel) l_44 f_42 ?_
  obtain ⟨g_53, h⟩ := gd_s h
  obtain ⟨x_55, e_56, h⟩ := lx_s h
  refine go_iald (kd := 100) (by decide +kernel) rfl R_26 f_50 f_42 (fx_k (c := 100) R_26 (by decide +kernel)) (fx_x (a := 72) (ln := 480) R_26 (by decide +kernel) g_53) fun v_51 f_52 => ?_
  have f_54 := q_is_eq f_52 e_56
  refine go_istore_n (n := 3) (by decide +kernel) (by decide +kernel) f_54 fun L_57 l_58 kp_59 => ?_
  have l_60 := kp_59 0 _ l_46 (by decide) (Or.inl (by decide))
  have l_61 := kp_59 1 _ l_47 (by decide) (Or.inl (by decide))
  have l_62 := kp_59 2 _ l_44 (by decide) (Or.inr (q_is_cat f_42 (Or.inl rfl)))
  refine go_aload_n (n := 0) (by decide +kernel) l_60 f0 ?_
  refine go_getf (x := 22) (ci := 13) (kf := 5) (fin := 1) (t := 2) (by decide +kernel) (by decide +kernel) (by decide +kernel) R_26 f0 (fx_k (c := 13) R_26 (by decide +kernel)) fun v_63 f_64 => ?_
  have f_65 := q_is_eq (b := 73) f_64 (fx_v R_26 (by decide +kernel)).symm
  refine go_iload_n (n := 2) (by decide +kernel) l_62 f_42 ?_
  obtain ⟨x_69, e_70, h⟩ := lx_s h
  refine go_iald (kd := 100) (by decide +kernel) rfl R_26 f_65 f_42 (fx_k (c := 100) R_26 (by decide +kernel)) (fx_x (a := 73) (ln := 480) R_26 (by decide +kernel) g_53) fun v_66 f_67 => ?_
  have f_68 := q_is_eq f_67 e_70
  refine go_istore (n := 4) (by decide +kernel) (by decide +kernel) f_68 fun L_71 l_72 kp_73 => ?_
  have l_74 := kp_73 0 _ l_60 (by decide) (Or.inl (by decide))
  have l_75 := kp_73 1 _ l_61 (by decide) (Or.inl (by decide))
  have l_76 := kp_73 2 _ l_62 (by decide) (Or.inl (by decide))
  have l_77 := kp_73 3 _ l_58 (by decide) (Or.inr (q_is_cat f_54 (Or.inl rfl)))
  refine go_aload_n (n := 0) (by decide +kernel) l_74 f0 ?_
  refine go_getf (x := 16) (ci := 13) (kf := 3) (fin := 1) (t := 2) (by decide +kernel) (by decide +kernel) (by decide +kernel) R_26 f0 (fx_k (c := 13) R_26 (by decide +kernel)) fun v_78 f_79 => ?_
  have f_80 := q_is_eq (b := 71) f_79 (fx_v R_26 (by decide +kernel)).symm
  refine go_iload_n (n := 2) (by decide +kernel) l_76 f_42 ?_
  obtain ⟨x_84, e_85, h⟩ := lx_s h
  refine go_iald (kd := 100) (by decide +kernel) rfl R_26 f_80 f_42 (fx_k (c := 100) R_26 (by decide +kernel)) (fx_x (a := 71) (ln := 480) R_26 (by decide +kernel) g_53) fun v_81 f_82 => ?_
  have f_83 := q_is_eq f_82 e_85
  by_cases hp_87 : x_84 = 0
  · have h := it_t hp_87 h
    refine go_tsin (dflt := 303) (lo := 0) (hi := 11) (offs := #[63, 84, 121, 146, 164, 176, 201, 232, 242, 266, 276, 295]) (o := 63) (t := 108) (by decide +kernel) f_83 (by omega) (by omega) (by rw [hp_87]; decide) (by decide +kernel) ?_
    refine go_aload_n (n := 0) (by decide +kernel) l_74 f0 ?_
    refine go_getf (x := 241) (ci := 13) (kf := 90) (fin := 1) (t := 2) (by decide +kernel) (by decide +kernel) (by decide +kernel) R_26 f0 (fx_k (c := 13) R_26 (by decide +kernel)) fun v_88 f_89 => ?_
    have f_90 := q_is_eq (b := 142) f_89 (fx_v R_26 (by decide +kernel)).symm
    refine go_iload_n (n := 3) (by decide +kernel) l_77 f_54 ?_
    refine go_iload (n := 4) (by decide +kernel) l_72 f_68 ?_
    obtain ⟨g_91, h⟩ := gd_s h
    obtain ⟨m_92, e_93, h⟩ := up_s h
    refine go_iast (kd := 100) (by decide +kernel) rfl R_26 f_90 f_54 f_68 (fx_k (c := 100) R_26 (by decide +kernel)) (fx_x (a := 142) (ln := 6) R_26 (by decide +kernel) g_91) e_93 (fx_a R_26.2 (fx_k (c := 100) R_26 (by decide +kernel)) (And.left (fx_x (a := 142) (ln := 6) R_26 (by decide +kernel) g_91)) (by decide +kernel)) fun S_94 R_95 E_96 => ?_
    have E_97 := E_96
    refine go_aload_n (n := 0) (by decide +kernel) l_74 f0 ?_
    refine go_getf (x := 247) (ci := 13) (kf := 94) (fin := 1) (t := 2) (by decide +kernel) (by decide +kernel) (by decide +kernel) R_95 f0 (fx_k (c := 13) R_95 (by decide +kernel)) fun v_98 f_99 => ?_
    have f_100 := q_is_eq (b := 144) f_99 (fx_v R_95 (by decide +kernel)).symm
    refine go_iload_n (n := 1) (by decide +kernel) l_75 f1 ?_
    refine go_dup2 (by decide +kernel) f1 (Or.inl rfl) f_100 (Or.inr rfl) ?_
    obtain ⟨x_104, e_105, h⟩ := lx_s h
    refine go_iald (kd := 100) (by decide +kernel) rfl R_95 f_100 f1 (fx_k (c := 100) R_95 (by decide +kernel)) (fx_x (a := 144) (ln := 12) R_95 (by decide +kernel) g_34) fun v_101 f_102 => ?_
    have f_103 := q_is_eq f_102 e_105
    refine go_iconst (n := 1) (z := 1) (by decide +kernel) (by decide) fun v_106 f_107 => ?_
    refine go_iadd (by decide +kernel) f_103 f_107 fun v_108 f_109 => ?_
    obtain ⟨m_110, e_111, h⟩ := up_s h
    refine go_iast (kd := 100) (by decide +kernel) rfl R_95 f_100 f1 f_109 (fx_k (c := 100) R_95 (by decide +kernel)) (fx_x (a := 144) (ln := 12) R_95 (by decide +kernel) g_34) e_111 (fx_a R_95.2 (fx_k (c := 100) R_95 (by decide +kernel)) (And.left (fx_x (a := 144) (ln := 12) R_95 (by decide +kernel) g_34)) (by decide +kernel)) fun S_112 R_113 E_114 => ?_
    have E_115 := Ext.tr E_97 E_114
    refine go_goto (o := 236) (t := 362) (by decide +kernel) (by decide +kernel) ?_
    cases h
    exact go_vret (by decide +kernel) rfl (hQ E_115 _ _ R_113 q_out_n)
  have h := it_f hp_87 h
  by_cases hp_117 : x_84 = 1
  · have h := it_t hp_117 h
    refine go_tsin (dflt := 303) (lo := 0) (hi := 11) (offs := #[63, 84, 121, 146, 164, 176, 201, 232, 242, 266, 276, 295]) (o := 84) (t := 129) (by decide +kernel) f_83 (by omega) (by omega) (by rw [hp_117]; decide) (by decide +kernel) ?_
    refine go_aload_n (n := 0) (by decide +kernel) l_74 f0 ?_
    refine go_getf (x := 241) (ci := 13) (kf := 90) (fin := 1) (t := 2) (by decide +kernel) (by decide +kernel) (by decide +kernel) R_26 f0 (fx_k (c := 13) R_26 (by decide +kernel)) fun v_118 f_119 => ?_
    have f_120 := q_is_eq (b := 142) f_119 (fx_v R_26 (by decide +kernel)).symm
    refine go_iload_n (n := 3) (by decide +kernel) l_77 f_54 ?_
    refine go_aload_n (n := 0) (by decide +kernel) l_74 f0 ?_
    refine go_getf (x := 241) (ci := 13) (kf := 90) (fin := 1) (t := 2) (by decide +kernel) (by decide +kernel) (by decide +kernel) R_26 f0 (fx_k (c := 13) R_26 (by decide +kernel)) fun v_121 f_122 => ?_
    have f_123 := q_is_eq (b := 142) f_122 (fx_v R_26 (by decide +kernel)).symm
    refine go_iload_n (n := 3) (by decide +kernel) l_77 f_54 ?_
    obtain ⟨g_126, h⟩ := gd_s h
    obtain ⟨x_128, e_129, h⟩ := lx_s h
    refine go_iald (kd := 100) (by decide +kernel) rfl R_26 f_123 f_54 (fx_k (c := 100) R_26 (by decide +kernel)) (fx_x (a := 142) (ln := 6) R_26 (by decide +kernel) g_126) fun v_124 f_125 => ?_
    have f_127 := q_is_eq f_125 e_129
    refine go_aload_n (n := 0) (by decide +kernel) l_74 f0 ?_
    refine go_getf (x := 241) (ci := 13) (kf := 90) (fin := 1) (t := 2) (by decide +kernel) (by decide +kernel) (by decide +kernel) R_26 f0 (fx_k (c := 13) R_26 (by decide +kernel)) fun v_130 f_131 => ?_
    have f_132 := q_is_eq (b := 142) f_131 (fx_v R_26 (by decide +kernel)).symm
    refine go_iload (n := 4) (by decide +kernel) l_72 f_68 ?_
    obtain ⟨g_135, h⟩ := gd_s h
    obtain ⟨x_137, e_138, h⟩ := lx_s h
    refine go_iald (kd := 100) (by decide +kernel) rfl R_26 f_132 f_68 (fx_k (c := 100) R_26 (by decide +kernel)) (fx_x (a := 142) (ln := 6) R_26 (by decide +kernel) g_135) fun v_133 f_134 => ?_
    have f_136 := q_is_eq f_134 e_138
    refine go_iadd (by decide +kernel) f_127 f_136 fun v_139 f_140 => ?_
    refine go_sipush (n := 1000) (z := 1000) (by decide +kernel) (by decide) fun v_141 f_142 => ?_
    refine go_irem (by decide +kernel) f_140 f_142 (by decide) fun v_143 f_144 => ?_
    obtain ⟨m_145, e_146, h⟩ := up_s h
    refine go_iast (kd := 100) (by decide +kernel) rfl R_26 f_120 f_54 f_144 (fx_k (c := 100) R_26 (by decide +kernel)) (fx_x (a := 142) (ln := 6) R_26 (by decide +kernel) g_126) e_146 (fx_a R_26.2 (fx_k (c := 100) R_26 (by decide +kernel)) (And.left (fx_x (a := 142) (ln := 6) R_26 (by decide +kernel) g_126)) (by decide +kernel)) fun S_147 R_148 E_149 => ?_
    have E_150 := E_149
    refine go_aload_n (n := 0) (by decide +kernel) l_74 f0 ?_
    refine go_getf (x := 247) (ci := 13) (kf := 94) (fin := 1) (t := 2) (by decide +kernel) (by decide +kernel) (by decide +kernel) R_148 f0 (fx_k (c := 13) R_148 (by decide +kernel)) fun v_151 f_152 => ?_
    have f_153 := q_is_eq (b := 144) f_152 (fx_v R_148 (by decide +kernel)).symm
    refine go_iload_n (n := 1) (by decide +kernel) l_75 f1 ?_
    refine go_dup2 (by decide +kernel) f1 (Or.inl rfl) f_153 (Or.inr rfl) ?_
    obtain ⟨x_157, e_158, h⟩ := lx_s h
    refine go_iald (kd := 100) (by decide +kernel) rfl R_148 f_153 f1 (fx_k (c := 100) R_148 (by decide +kernel)) (fx_x (a := 144) (ln := 12) R_148 (by decide +kernel) g_34) fun v_154 f_155 => ?_
    have f_156 := q_is_eq f_155 e_158
    refine go_iconst (n := 1) (z := 1) (by decide +kernel) (by decide) fun v_159 f_160 => ?_
    refine go_iadd (by decide +kernel) f_156 f_160 fun v_161 f_162 => ?_
    obtain ⟨m_163, e_164, h⟩ := up_s h
    refine go_iast (kd := 100) (by decide +kernel) rfl R_148 f_153 f1 f_162 (fx_k (c := 100) R_148 (by decide +kernel)) (fx_x (a := 144) (ln := 12) R_148 (by decide +kernel) g_34) e_164 (fx_a R_148.2 (fx_k (c := 100) R_148 (by decide +kernel)) (And.left (fx_x (a := 144) (ln := 12) R_148 (by decide +kernel) g_34)) (by decide +kernel)) fun S_165 R_166 E_167 => ?_
    have E_168 := Ext.tr E_150 E_167
    refine go_goto (o := 199) (t := 362) (by decide +kernel) (by decide +kernel) ?_
    cases h
    exact go_vret (by decide +kernel) rfl (hQ E_168 _ _ R_166 q_out_n)
  have h := it_f hp_117 h
  by_cases hp_170 : x_84 = 2
  · have h := it_t hp_170 h
    refine go_tsin (dflt := 303) (lo := 0) (hi := 11) (offs := #[63, 84, 121, 146, 164, 176, 201, 232, 242, 266, 276, 295]) (o := 121) (t := 166) (by decide +kernel) f_83 (by omega) (by omega) (by rw [hp_170]; decide) (by decide +kernel) ?_
    refine go_aload_n (n := 0) (by decide +kernel) l_74 f0 ?_
    refine go_iload_n (n := 1) (by decide +kernel) l_75 f1 ?_
    refine go_iconst (n := 1) (z := 1) (by decide +kernel) (by decide) fun v_171 f_172 => ?_
    refine go_aload_n (n := 0) (by decide +kernel) l_74 f0 ?_
    refine go_bipush (n := 8) (z := 8) (by decide +kernel) (by decide) fun v_173 f_174 => ?_
    refine go_iload_n (n := 3) (by decide +kernel) l_77 f_54 ?_
    refine go_aload_n (n := 0) (by decide +kernel) l_74 f0 ?_
    refine go_getf (x := 241) (ci := 13) (kf := 90) (fin := 1) (t := 2) (by decide +kernel) (by decide +kernel) (by decide +kernel) R_26 f0 (fx_k (c := 13) R_26 (by decide +kernel)) fun v_175 f_176 => ?_
    have f_177 := q_is_eq (b := 142) f_176 (fx_v R_26 (by decide +kernel)).symm
    refine go_iload (n := 4) (by decide +kernel) l_72 f_68 ?_
    obtain ⟨g_180, h⟩ := gd_s h
    obtain ⟨x_182, e_183, h⟩ := lx_s h
    refine go_iald (kd := 100) (by decide +kernel) rfl R_26 f_177 f_68 (fx_k (c := 100) R_26 (by decide +kernel)) (fx_x (a := 142) (ln := 6) R_26 (by decide +kernel) g_180) fun v_178 f_179 => ?_
    have f_181 := q_is_eq f_179 e_183
    obtain ⟨x_185, m_186, hc_184, h⟩ := bd_s h
    refine go_callV (x := 425) (mi := 221) (n := 3) (ci := 13) (as := [v_173, v_51, v_178]) (rest := [v_171, v1, v0]) (by decide +kernel) (by decide +kernel) rfl rfl (q_sum8 _ (Nat.le_of_ble_eq_true rfl)) R_26 f0 (fx_k (c := 13) R_26 (by decide +kernel)) (om_X12_commands (Nat.le_trans (by decide) hd) R_26 f0 f_174 f_54 f_181 hc_184) (fun _ S_189 q_192 => ?_) (fun _ _ qq => kr_x qq)
    refine kr_z (by decide) q_192 fun v_187 f_188 R_190 E_191 => ?_
    have E_193 := E_191
    refine go_iload (n := 4) (by decide +kernel) l_72 f_68 ?_
    obtain ⟨x_195, m_196, hc_194, h⟩ := bd_s h
    refine go_callV (x := 461) (mi := 235) (n := 4) (ci := 13) (as := [v1, v_171, v_187, v_66]) (rest := []) (by decide +kernel) (by decide +kernel) rfl rfl (q_sum8 _ (Nat.le_of_ble_eq_true rfl)) R_190 f0 (fx_k (c := 13) R_190 (by decide +kernel)) (om_X12_awaits (Nat.le_trans (by decide) hd) R_190 f0 f1 f_172 f_188 f_68 hc_194) (fun _ S_199 q_202 => ?_) (fun _ _ qq => kr_x qq)
    refine kr_v q_202 fun R_200 E_201 => ?_
    have E_203 := Ext.tr E_193 E_201
    refine go_goto (o := 174) (t := 362) (by decide +kernel) (by decide +kernel) ?_
    cases h
    exact go_vret (by decide +kernel) rfl (hQ E_203 _ _ R_200 q_out_n)
  have h := it_f hp_170 h
  by_cases hp_205 : x_84 = 3
  · have h := it_t hp_205 h
    refine go_tsin (dflt := 303) (lo := 0) (hi := 11) (offs := #[63, 84, 121, 146, 164, 176, 201, 232, 242, 266, 276, 295]) (o := 146) (t := 191) (by decide +kernel) f_83 (by omega) (by omega) (by rw [hp_205]; decide) (by decide +kernel) ?_
    refine go_aload_n (n := 0) (by decide +kernel) l_74 f0 ?_
    refine go_iload_n (n := 1) (by decide +kernel) l_75 f1 ?_
    refine go_iconst (n := 1) (z := 1) (by decide +kernel) (by decide) fun v_206 f_207 => ?_
    refine go_aload_n (n := 0) (by decide +kernel) l_74 f0 ?_
    refine go_bipush (n := 9) (z := 9) (by decide +kernel) (by decide) fun v_208 f_209 => ?_
    refine go_iload_n (n := 3) (by decide +kernel) l_77 f_54 ?_
    refine go_iconst (n := 0) (z := 0) (by decide +kernel) (by decide) fun v_210 f_211 => ?_
    obtain ⟨x_213, m_214, hc_212, h⟩ := bd_s h
    refine go_callV (x := 425) (mi := 221) (n := 3) (ci := 13) (as := [v_208, v_51, v_210]) (rest := [v_206, v1, v0]) (by decide +kernel) (by decide +kernel) rfl rfl (q_sum8 _ (Nat.le_of_ble_eq_true rfl)) R_26 f0 (fx_k (c := 13) R_26 (by decide +kernel)) (om_X12_commands (Nat.le_trans (by decide) hd) R_26 f0 f_209 f_54 f_211 hc_212) (fun _ S_217 q_220 => ?_) (fun _ _ qq => kr_x qq)
    refine kr_z (by decide) q_220 fun v_215 f_216 R_218 E_219 => ?_
    have E_221 := E_219
    refine go_iconst (n := (-1)) (z := (-1)) (by decide +kernel) (by decide) fun v_222 f_223 => ?_
    obtain ⟨x_225, m_226, hc_224, h⟩ := bd_s h
    refine go_callV (x := 461) (mi := 235) (n := 4) (ci := 13) (as := [v1, v_206, v_215, v_222]) (rest := []) (by decide +kernel) (by decide +kernel) rfl rfl (q_sum8 _ (Nat.le_of_ble_eq_true rfl)) R_218 f0 (fx_k (c := 13) R_218 (by decide +kernel)) (om_X12_awaits (Nat.le_trans (by decide) hd) R_218 f0 f1 f_207 f_216 f_223 hc_224) (fun _ S_229 q_232 => ?_) (fun _ _ qq => kr_x qq)
    refine kr_v q_232 fun R_230 E_231 => ?_
    have E_233 := Ext.tr E_221 E_231
    refine go_goto (o := 156) (t := 362) (by decide +kernel) (by decide +kernel) ?_
    cases h
    exact go_vret (by decide +kernel) rfl (hQ E_233 _ _ R_230 q_out_n)
  have h := it_f hp_205 h
  by_cases hp_235 : x_84 = 4
  · have h := it_t hp_235 h
    refine go_tsin (dflt := 303) (lo := 0) (hi := 11) (offs := #[63, 84, 121, 146, 164, 176, 201, 232, 242, 266, 276, 295]) (o := 164) (t := 209) (by decide +kernel) f_83 (by omega) (by omega) (by rw [hp_235]; decide) (by decide +kernel) ?_
    refine go_aload_n (n := 0) (by decide +kernel) l_74 f0 ?_
    refine go_iload_n (n := 1) (by decide +kernel) l_75 f1 ?_
    refine go_iconst (n := 2) (z := 2) (by decide +kernel) (by decide) fun v_236 f_237 => ?_
    refine go_iload_n (n := 3) (by decide +kernel) l_77 f_54 ?_
    refine go_iload (n := 4) (by decide +kernel) l_72 f_68 ?_
    obtain ⟨x_239, m_240, hc_238, h⟩ := bd_s h
    refine go_callV (x := 461) (mi := 235) (n := 4) (ci := 13) (as := [v1, v_236, v_51, v_66]) (rest := []) (by decide +kernel) (by decide +kernel) rfl rfl (q_sum8 _ (Nat.le_of_ble_eq_true rfl)) R_26 f0 (fx_k (c := 13) R_26 (by decide +kernel)) (om_X12_awaits (Nat.le_trans (by decide) hd) R_26 f0 f1 f_237 f_54 f_68 hc_238) (fun _ S_243 q_246 => ?_) (fun _ _ qq => kr_x qq)
    refine kr_v q_246 fun R_244 E_245 => ?_
    have E_247 := E_245
    refine go_goto (o := 144) (t := 362) (by decide +kernel) (by decide +kernel) ?_
    cases h
    exact go_vret (by decide +kernel) rfl (hQ E_247 _ _ R_244 q_out_n)
  have h := it_f hp_235 h
  by_cases hp_249 : x_84 = 5
  · have h := it_t hp_249 h
    refine go_tsin (dflt := 303) (lo := 0) (hi := 11) (offs := #[63, 84, 121, 146, 164, 176, 201, 232, 242, 266, 276, 295]) (o := 176) (t := 221) (by decide +kernel) f_83 (by omega) (by omega) (by rw [hp_249]; decide) (by decide +kernel) ?_
    refine go_aload_n (n := 0) (by decide +kernel) l_74 f0 ?_
    refine go_iload_n (n := 1) (by decide +kernel) l_75 f1 ?_
    refine go_iconst (n := 1) (z := 1) (by decide +kernel) (by decide) fun v_250 f_251 => ?_
    refine go_aload_n (n := 0) (by decide +kernel) l_74 f0 ?_
    refine go_bipush (n := 10) (z := 10) (by decide +kernel) (by decide) fun v_252 f_253 => ?_
    refine go_iload_n (n := 3) (by decide +kernel) l_77 f_54 ?_
    refine go_aload_n (n := 0) (by decide +kernel) l_74 f0 ?_
    refine go_getf (x := 241) (ci := 13) (kf := 90) (fin := 1) (t := 2) (by decide +kernel) (by decide +kernel) (by decide +kernel) R_26 f0 (fx_k (c := 13) R_26 (by decide +kernel)) fun v_254 f_255 => ?_
    have f_256 := q_is_eq (b := 142) f_255 (fx_v R_26 (by decide +kernel)).symm
    refine go_iload (n := 4) (by decide +kernel) l_72 f_68 ?_
    obtain ⟨g_259, h⟩ := gd_s h
    obtain ⟨x_261, e_262, h⟩ := lx_s h
    refine go_iald (kd := 100) (by decide +kernel) rfl R_26 f_256 f_68 (fx_k (c := 100) R_26 (by decide +kernel)) (fx_x (a := 142) (ln := 6) R_26 (by decide +kernel) g_259) fun v_257 f_258 => ?_
    have f_260 := q_is_eq f_258 e_262
    obtain ⟨x_264, m_265, hc_263, h⟩ := bd_s h
    refine go_callV (x := 425) (mi := 221) (n := 3) (ci := 13) (as := [v_252, v_51, v_257]) (rest := [v_250, v1, v0]) (by decide +kernel) (by decide +kernel) rfl rfl (q_sum8 _ (Nat.le_of_ble_eq_true rfl)) R_26 f0 (fx_k (c := 13) R_26 (by decide +kernel)) (om_X12_commands (Nat.le_trans (by decide) hd) R_26 f0 f_253 f_54 f_260 hc_263) (fun _ S_268 q_271 => ?_) (fun _ _ qq => kr_x qq)
    refine kr_z (by decide) q_271 fun v_266 f_267 R_269 E_270 => ?_
    have E_272 := E_270
    refine go_iload (n := 4) (by decide +kernel) l_72 f_68 ?_
    obtain ⟨x_274, m_275, hc_273, h⟩ := bd_s h
    refine go_callV (x := 461) (mi := 235) (n := 4) (ci := 13) (as := [v1, v_250, v_266, v_66]) (rest := []) (by decide +kernel) (by decide +kernel) rfl rfl (q_sum8 _ (Nat.le_of_ble_eq_true rfl)) R_269 f0 (fx_k (c := 13) R_269 (by decide +kernel)) (om_X12_awaits (Nat.le_trans (by decide) hd) R_269 f0 f1 f_251 f_267 f_68 hc_273) (fun _ S_278 q_281 => ?_) (fun _ _ qq => kr_x qq)
    refine kr_v q_281 fun R_279 E_280 => ?_
    have E_282 := Ext.tr E_272 E_280
    refine go_goto (o := 119) (t := 362) (by decide +kernel) (by decide +kernel) ?_
    cases h
    exact go_vret (by decide +kernel) rfl (hQ E_282 _ _ R_279 q_out_n)
  have h := it_f hp_249 h
  by_cases hp_284 : x_84 = 6
  · have h := it_t hp_284 h
    refine go_tsin (dflt := 303) (lo := 0) (hi := 11) (offs := #[63, 84, 121, 146, 164, 176, 201, 232, 242, 266, 276, 295]) (o := 201) (t := 246) (by decide +kernel) f_83 (by omega) (by omega) (by rw [hp_284]; decide) (by decide +kernel) ?_
    refine go_aload_n (n := 0) (by decide +kernel) l_74 f0 ?_
    refine go_getf (x := 247) (ci := 13) (kf := 94) (fin := 1) (t := 2) (by decide +kernel) (by decide +kernel) (by decide +kernel) R_26 f0 (fx_k (c := 13) R_26 (by decide +kernel)) fun v_285 f_286 => ?_
    have f_287 := q_is_eq (b := 144) f_286 (fx_v R_26 (by decide +kernel)).symm
    refine go_iload_n (n := 1) (by decide +kernel) l_75 f1 ?_
    refine go_aload_n (n := 0) (by decide +kernel) l_74 f0 ?_
    refine go_getf (x := 241) (ci := 13) (kf := 90) (fin := 1) (t := 2) (by decide +kernel) (by decide +kernel) (by decide +kernel) R_26 f0 (fx_k (c := 13) R_26 (by decide +kernel)) fun v_288 f_289 => ?_
    have f_290 := q_is_eq (b := 142) f_289 (fx_v R_26 (by decide +kernel)).symm
    refine go_iload_n (n := 3) (by decide +kernel) l_77 f_54 ?_
    obtain ⟨g_293, h⟩ := gd_s h
    obtain ⟨x_295, e_296, h⟩ := lx_s h
    refine go_iald (kd := 100) (by decide +kernel) rfl R_26 f_290 f_54 (fx_k (c := 100) R_26 (by decide +kernel)) (fx_x (a := 142) (ln := 6) R_26 (by decide +kernel) g_293) fun v_291 f_292 => ?_
    have f_294 := q_is_eq f_292 e_296
    refine go_if (c := .ne) (o := 8) (t := 265) (P := ¬ (x_295 = 0)) (by decide +kernel) (by decide +kernel) f_294 (Iff.rfl) (fun hp_297 => ?_) (fun hp_297 => ?_)
    · have h := it_f hp_297 h
      refine go_aload_n (n := 0) (by decide +kernel) l_74 f0 ?_
      refine go_getf (x := 247) (ci := 13) (kf := 94) (fin := 1) (t := 2) (by decide +kernel) (by decide +kernel) (by decide +kernel) R_26 f0 (fx_k (c := 13) R_26 (by decide +kernel)) fun v_298 f_299 => ?_
      have f_300 := q_is_eq (b := 144) f_299 (fx_v R_26 (by decide +kernel)).symm
      refine go_iload_n (n := 1) (by decide +kernel) l_75 f1 ?_
      refine go_iald (kd := 100) (by decide +kernel) rfl R_26 f_300 f1 (fx_k (c := 100) R_26 (by decide +kernel)) (fx_x (a := 144) (ln := 12) R_26 (by decide +kernel) g_34) fun v_301 f_302 => ?_
      have f_303 := q_is_eq f_302 e_37
      refine go_iconst (n := 1) (z := 1) (by decide +kernel) (by decide) fun v_304 f_305 => ?_
      refine go_iadd (by decide +kernel) f_303 f_305 fun v_306 f_307 => ?_
      obtain ⟨m_308, e_309, h⟩ := up_s h
      refine go_iast (kd := 100) (by decide +kernel) rfl R_26 f_287 f1 f_307 (fx_k (c := 100) R_26 (by decide +kernel)) (fx_x (a := 144) (ln := 12) R_26 (by decide +kernel) g_34) e_309 (fx_a R_26.2 (fx_k (c := 100) R_26 (by decide +kernel)) (And.left (fx_x (a := 144) (ln := 12) R_26 (by decide +kernel) g_34)) (by decide +kernel)) fun S_310 R_311 E_312 => ?_
      have E_313 := E_312
      refine go_goto (o := 88) (t := 362) (by decide +kernel) (by decide +kernel) ?_
      cases h
      exact go_vret (by decide +kernel) rfl (hQ E_313 _ _ R_311 q_out_n)
    · have h := it_n hp_297 h
      refine go_iload (n := 4) (by decide +kernel) l_72 f_68 ?_
      refine go_goto (o := 11) (t := 273) (by decide +kernel) (by decide +kernel) ?_
      obtain ⟨m_314, e_315, h⟩ := up_s h
      refine go_iast (kd := 100) (by decide +kernel) rfl R_26 f_287 f1 f_68 (fx_k (c := 100) R_26 (by decide +kernel)) (fx_x (a := 144) (ln := 12) R_26 (by decide +kernel) g_34) e_315 (fx_a R_26.2 (fx_k (c := 100) R_26 (by decide +kernel)) (And.left (fx_x (a := 144) (ln := 12) R_26 (by decide +kernel) g_34)) (by decide +kernel)) fun S_316 R_317 E_318 => ?_
      have E_319 := E_318
      refine go_goto (o := 88) (t := 362) (by decide +kernel) (by decide +kernel) ?_
      cases h
      exact go_vret (by decide +kernel) rfl (hQ E_319 _ _ R_317 q_out_n)
  have h := it_f hp_284 h
  by_cases hp_321 : x_84 = 7
  · have h := it_t hp_321 h
    refine go_tsin (dflt := 303) (lo := 0) (hi := 11) (offs := #[63, 84, 121, 146, 164, 176, 201, 232, 242, 266, 276, 295]) (o := 232) (t := 277) (by decide +kernel) f_83 (by omega) (by omega) (by rw [hp_321]; decide) (by decide +kernel) ?_
    refine go_aload_n (n := 0) (by decide +kernel) l_74 f0 ?_
    refine go_getf (x := 247) (ci := 13) (kf := 94) (fin := 1) (t := 2) (by decide +kernel) (by decide +kernel) (by decide +kernel) R_26 f0 (fx_k (c := 13) R_26 (by decide +kernel)) fun v_322 f_323 => ?_
    have f_324 := q_is_eq (b := 144) f_323 (fx_v R_26 (by decide +kernel)).symm
    refine go_iload_n (n := 1) (by decide +kernel) l_75 f1 ?_
    refine go_iload_n (n := 3) (by decide +kernel) l_77 f_54 ?_
    obtain ⟨m_325, e_326, h⟩ := up_s h
    refine go_iast (kd := 100) (by decide +kernel) rfl R_26 f_324 f1 f_54 (fx_k (c := 100) R_26 (by decide +kernel)) (fx_x (a := 144) (ln := 12) R_26 (by decide +kernel) g_34) e_326 (fx_a R_26.2 (fx_k (c := 100) R_26 (by decide +kernel)) (And.left (fx_x (a := 144) (ln := 12) R_26 (by decide +kernel) g_34)) (by decide +kernel)) fun S_327 R_328 E_329 => ?_
    have E_330 := E_329
    refine go_goto (o := 78) (t := 362) (by decide +kernel) (by decide +kernel) ?_
    cases h
    exact go_vret (by decide +kernel) rfl (hQ E_330 _ _ R_328 q_out_n)
  have h := it_f hp_321 h
  by_cases hp_332 : x_84 = 8
  · have h := it_t hp_332 h
    refine go_tsin (dflt := 303) (lo := 0) (hi := 11) (offs := #[63, 84, 121, 146, 164, 176, 201, 232, 242, 266, 276, 295]) (o := 242) (t := 287) (by decide +kernel) f_83 (by omega) (by omega) (by rw [hp_332]; decide) (by decide +kernel) ?_
    refine go_aload_n (n := 0) (by decide +kernel) l_74 f0 ?_
    refine go_getf (x := 247) (ci := 13) (kf := 94) (fin := 1) (t := 2) (by decide +kernel) (by decide +kernel) (by decide +kernel) R_26 f0 (fx_k (c := 13) R_26 (by decide +kernel)) fun v_333 f_334 => ?_
    have f_335 := q_is_eq (b := 144) f_334 (fx_v R_26 (by decide +kernel)).symm
    refine go_iload_n (n := 1) (by decide +kernel) l_75 f1 ?_
    refine go_dup2 (by decide +kernel) f1 (Or.inl rfl) f_335 (Or.inr rfl) ?_
    refine go_iald (kd := 100) (by decide +kernel) rfl R_26 f_335 f1 (fx_k (c := 100) R_26 (by decide +kernel)) (fx_x (a := 144) (ln := 12) R_26 (by decide +kernel) g_34) fun v_336 f_337 => ?_
    have f_338 := q_is_eq f_337 e_37
    refine go_iconst (n := 1) (z := 1) (by decide +kernel) (by decide) fun v_339 f_340 => ?_
    refine go_iadd (by decide +kernel) f_338 f_340 fun v_341 f_342 => ?_
    obtain ⟨m_343, e_344, h⟩ := up_s h
    refine go_iast (kd := 100) (by decide +kernel) rfl R_26 f_335 f1 f_342 (fx_k (c := 100) R_26 (by decide +kernel)) (fx_x (a := 144) (ln := 12) R_26 (by decide +kernel) g_34) e_344 (fx_a R_26.2 (fx_k (c := 100) R_26 (by decide +kernel)) (And.left (fx_x (a := 144) (ln := 12) R_26 (by decide +kernel) g_34)) (by decide +kernel)) fun S_345 R_346 E_347 => ?_
    have E_348 := E_347
    refine go_aload_n (n := 0) (by decide +kernel) l_74 f0 ?_
    refine go_iload_n (n := 3) (by decide +kernel) l_77 f_54 ?_
    refine go_aload_n (n := 0) (by decide +kernel) l_74 f0 ?_
    refine go_getf (x := 244) (ci := 13) (kf := 93) (fin := 1) (t := 2) (by decide +kernel) (by decide +kernel) (by decide +kernel) R_346 f0 (fx_k (c := 13) R_346 (by decide +kernel)) fun v_349 f_350 => ?_
    have f_351 := q_is_eq (b := 143) f_350 (fx_v R_346 (by decide +kernel)).symm
    refine go_iload_n (n := 1) (by decide +kernel) l_75 f1 ?_
    obtain ⟨x_355, e_356, h⟩ := lx_s h
    refine go_iald (kd := 100) (by decide +kernel) rfl R_346 f_351 f1 (fx_k (c := 100) R_346 (by decide +kernel)) (fx_x (a := 143) (ln := 12) R_346 (by decide +kernel) g_34) fun v_352 f_353 => ?_
    have f_354 := q_is_eq f_353 e_356
    obtain ⟨x_358, m_359, hc_357, h⟩ := bd_s h
    refine go_callV (x := 455) (mi := 223) (n := 2) (ci := 13) (as := [v_51, v_352]) (rest := []) (by decide +kernel) (by decide +kernel) rfl rfl (q_sum8 _ (Nat.le_of_ble_eq_true rfl)) R_346 f0 (fx_k (c := 13) R_346 (by decide +kernel)) (om_X12_begins (Nat.le_trans (by decide) hd) R_346 f0 f_54 f_354 hc_357) (fun _ S_362 q_365 => ?_) (fun _ _ qq => kr_x qq)
    refine kr_v q_365 fun R_363 E_364 => ?_
    have E_366 := Ext.tr E_348 E_364
    refine go_goto (o := 54) (t := 362) (by decide +kernel) (by decide +kernel) ?_
    cases h
    exact go_vret (by decide +kernel) rfl (hQ E_366 _ _ R_363 q_out_n)
  have h := it_f hp_332 h
  by_cases hp_368 : x_84 = 9
  · have h := it_t hp_368 h
    refine go_tsin (dflt := 303) (lo := 0) (hi := 11) (offs := #[63, 84, 121, 146, 164, 176, 201, 232, 242, 266, 276, 295]) (o := 266) (t := 311) (by decide +kernel) f_83 (by omega) (by omega) (by rw [hp_368]; decide) (by decide +kernel) ?_
    refine go_aload_n (n := 0) (by decide +kernel) l_74 f0 ?_
    refine go_getf (x := 250) (ci := 13) (kf := 95) (fin := 1) (t := 2) (by decide +kernel) (by decide +kernel) (by decide +kernel) R_26 f0 (fx_k (c := 13) R_26 (by decide +kernel)) fun v_369 f_370 => ?_
    have f_371 := q_is_eq (b := 145) f_370 (fx_v R_26 (by decide +kernel)).symm
    refine go_iload_n (n := 1) (by decide +kernel) l_75 f1 ?_
    refine go_iconst (n := 3) (z := 3) (by decide +kernel) (by decide) fun v_372 f_373 => ?_
    obtain ⟨m_374, e_375, h⟩ := up_s h
    refine go_iast (kd := 100) (by decide +kernel) rfl R_26 f_371 f1 f_373 (fx_k (c := 100) R_26 (by decide +kernel)) (fx_x (a := 145) (ln := 12) R_26 (by decide +kernel) g_34) e_375 (fx_a R_26.2 (fx_k (c := 100) R_26 (by decide +kernel)) (And.left (fx_x (a := 145) (ln := 12) R_26 (by decide +kernel) g_34)) (by decide +kernel)) fun S_376 R_377 E_378 => ?_
    have E_379 := E_378
    refine go_goto (o := 44) (t := 362) (by decide +kernel) (by decide +kernel) ?_
    cases h
    exact go_vret (by decide +kernel) rfl (hQ E_379 _ _ R_377 q_out_n)
  have h := it_f hp_368 h
  by_cases hp_381 : x_84 = 10
  · have h := it_t hp_381 h
    refine go_tsin (dflt := 303) (lo := 0) (hi := 11) (offs := #[63, 84, 121, 146, 164, 176, 201, 232, 242, 266, 276, 295]) (o := 276) (t := 321) (by decide +kernel) f_83 (by omega) (by omega) (by rw [hp_381]; decide) (by decide +kernel) ?_
    refine go_aload_n (n := 0) (by decide +kernel) l_74 f0 ?_
    refine go_getf (x := 247) (ci := 13) (kf := 94) (fin := 1) (t := 2) (by decide +kernel) (by decide +kernel) (by decide +kernel) R_26 f0 (fx_k (c := 13) R_26 (by decide +kernel)) fun v_382 f_383 => ?_
    have f_384 := q_is_eq (b := 144) f_383 (fx_v R_26 (by decide +kernel)).symm
    refine go_iload_n (n := 1) (by decide +kernel) l_75 f1 ?_
    refine go_dup2 (by decide +kernel) f1 (Or.inl rfl) f_384 (Or.inr rfl) ?_
    refine go_iald (kd := 100) (by decide +kernel) rfl R_26 f_384 f1 (fx_k (c := 100) R_26 (by decide +kernel)) (fx_x (a := 144) (ln := 12) R_26 (by decide +kernel) g_34) fun v_385 f_386 => ?_
    have f_387 := q_is_eq f_386 e_37
    refine go_iconst (n := 1) (z := 1) (by decide +kernel) (by decide) fun v_388 f_389 => ?_
    refine go_iadd (by decide +kernel) f_387 f_389 fun v_390 f_391 => ?_
    obtain ⟨m_392, e_393, h⟩ := up_s h
    refine go_iast (kd := 100) (by decide +kernel) rfl R_26 f_384 f1 f_391 (fx_k (c := 100) R_26 (by decide +kernel)) (fx_x (a := 144) (ln := 12) R_26 (by decide +kernel) g_34) e_393 (fx_a R_26.2 (fx_k (c := 100) R_26 (by decide +kernel)) (And.left (fx_x (a := 144) (ln := 12) R_26 (by decide +kernel) g_34)) (by decide +kernel)) fun S_394 R_395 E_396 => ?_
    have E_397 := E_396
    refine go_aload_n (n := 0) (by decide +kernel) l_74 f0 ?_
    refine go_iload_n (n := 1) (by decide +kernel) l_75 f1 ?_
    refine go_iload_n (n := 3) (by decide +kernel) l_77 f_54 ?_
    obtain ⟨x_399, m_400, hc_398, h⟩ := bd_s h
    refine go_callV (x := 474) (mi := 233) (n := 2) (ci := 13) (as := [v1, v_51]) (rest := []) (by decide +kernel) (by decide +kernel) rfl rfl (q_sum8 _ (Nat.le_of_ble_eq_true rfl)) R_395 f0 (fx_k (c := 13) R_395 (by decide +kernel)) (om_X12_races (Nat.le_trans (by decide) hd) R_395 f0 f1 f_54 hc_398) (fun _ S_403 q_406 => ?_) (fun _ _ qq => kr_x qq)
    refine kr_v q_406 fun R_404 E_405 => ?_
    have E_407 := Ext.tr E_397 E_405
    refine go_goto (o := 25) (t := 362) (by decide +kernel) (by decide +kernel) ?_
    cases h
    exact go_vret (by decide +kernel) rfl (hQ E_407 _ _ R_404 q_out_n)
  have h := it_f hp_381 h
  by_cases hp_409 : x_84 = 11
  · have h := it_t hp_409 h
    refine go_tsin (dflt := 303) (lo := 0) (hi := 11) (offs := #[63, 84, 121, 146, 164, 176, 201, 232, 242, 266, 276, 295]) (o := 295) (t := 340) (by decide +kernel) f_83 (by omega) (by omega) (by rw [hp_409]; decide) (by decide +kernel) ?_
    refine go_aload_n (n := 0) (by decide +kernel) l_74 f0 ?_
    refine go_iload_n (n := 1) (by decide +kernel) l_75 f1 ?_
    obtain ⟨x_411, m_412, hc_410, h⟩ := bd_s h
    refine go_callV (x := 477) (mi := 232) (n := 1) (ci := 13) (as := [v1]) (rest := []) (by decide +kernel) (by decide +kernel) rfl rfl (q_sum8 _ (Nat.le_of_ble_eq_true rfl)) R_26 f0 (fx_k (c := 13) R_26 (by decide +kernel)) (om_X12_wins (Nat.le_trans (by decide) hd) R_26 f0 f1 hc_410) (fun _ S_415 q_418 => ?_) (fun _ _ qq => kr_x qq)
    refine kr_v q_418 fun R_416 E_417 => ?_
    have E_419 := E_417
    refine go_goto (o := 17) (t := 362) (by decide +kernel) (by decide +kernel) ?_
    cases h
    exact go_vret (by decide +kernel) rfl (hQ E_419 _ _ R_416 q_out_n)
  have h := it_f hp_409 h
  refine go_tsout (dflt := 303) (lo := 0) (hi := 11) (offs := #[63, 84, 121, 146, 164, 176, 201, 232, 242, 266, 276, 295]) (t := 348) (by decide +kernel) f_83 (by omega) (by decide +kernel) ?_
  refine go_aload_n (n := 0) (by decide +kernel) l_74 f0 ?_
  refine go_iload_n (n := 1) (by decide +kernel) l_75 f1 ?_
  refine go_aload_n (n := 0) (by decide +kernel) l_74 f0 ?_
  refine go_getf (x := 16) (ci := 13) (kf := 3) (fin := 1) (t := 2) (by decide +kernel) (by decide +kernel) (by decide +kernel) R_26 f0 (fx_k (c := 13) R_26 (by decide +kernel)) fun v_420 f_421 => ?_
  have f_422 := q_is_eq (b := 71) f_421 (fx_v R_26 (by decide +kernel)).symm
  refine go_iload_n (n := 2) (by decide +kernel) l_76 f_42 ?_
  refine go_iald (kd := 100) (by decide +kernel) rfl R_26 f_422 f_42 (fx_k (c := 100) R_26 (by decide +kernel)) (fx_x (a := 71) (ln := 480) R_26 (by decide +kernel) g_53) fun v_423 f_424 => ?_
  have f_425 := q_is_eq f_424 e_85
  refine go_iload_n (n := 3) (by decide +kernel) l_77 f_54 ?_
  refine go_iload (n := 4) (by decide +kernel) l_72 f_68 ?_
  obtain ⟨x_427, m_428, hc_426, h⟩ := bd_s h
  refine go_callV (x := 480) (mi := 240) (n := 4) (ci := 13) (as := [v1, v_423, v_51, v_66]) (rest := []) (by decide +kernel) (by decide +kernel) rfl rfl (q_sum8 _ (Nat.le_of_ble_eq_true rfl)) R_26 f0 (fx_k (c := 13) R_26 (by decide +kernel)) (om_X12_doesMore (Nat.le_trans (by decide) hd) R_26 f0 f1 f_425 f_54 f_68 hc_426) (fun _ S_431 q_434 => ?_) (fun _ _ qq => kr_x qq)
  refine kr_v q_434 fun R_432 E_433 => ?_
  have E_435 := E_433
  cases h
  exact go_vret (by decide +kernel) rfl (hQ E_435 _ _ R_432 q_out_n)
noncomputable def fj_X12_canGoOn_140 (y1 : Int) (m : MM) : Option (Int × MM) := gd (0 ≤ y1 ∧ y1 < 12) <| lx (m 145 y1) fun x_32 =>
if x_32 = 0 then
some (1, m)
else
some (0, m)
set_option maxHeartbeats 4000000 in
theorem oj_X12_canGoOn_140 {xs : List Int32} {d : Nat} {S : QS} {L : QL} {Q : QO → QS → Prop} {m : MM} {y1 : Int} {v0 : Value} {v1 : Value}  {rz : Int} {rm : MM}
  (hd : 1 ≤ d) (R : Rp S m) (l0 : q_lo L 0 = some v0) (f0 : q_is 2 v0 68) (l1 : q_lo L 1 = some v1) (f1 : q_is 0 v1 y1)
  (hQ : Ext m rm → ∀ o S1, Rp S1 rm → q_out 0 o rz → Q o S1)
  (h : fj_X12_canGoOn_140 y1 m = some (rz, rm)) : Go xs d qM_X12_canGoOn 140 L [] S Q := by
  unfold fj_X12_canGoOn_140 at h
  refine go_aload_n (n := 0) (by decide +kernel) l0 f0 ?_
  refine go_getf (x := 250) (ci := 13) (kf := 95) (fin := 1) (t := 2) (by decide +kernel) (by decide +kernel) (by decide +kernel) R f0 (fx_k (c := 13) R (by decide +kernel)) fun v_25 f_26 => ?_
  have f_27 := q_is_eq (b := 145) f_26 (fx_v R (by decide +kernel)).symm
  refine go_iload_n (n := 1) (by decide +kernel) l1 f1 ?_
  obtain ⟨g_30, h⟩ := gd_s h
  obtain ⟨x_32, e_33, h⟩ := lx_s h
  refine go_iald (kd := 100) (by decide +kernel) rfl R f_27 f1 (fx_k (c := 100) R (by decide +kernel)) (fx_x (a := 145) (ln := 12) R (by decide +kernel) g_30) fun v_28 f_29 => ?_
  have f_31 := q_is_eq f_29 e_33
  refine go_if (c := .ne) (o := 7) (t := 153) (P := ¬ (x_32 = 0)) (by decide +kernel) (by decide +kernel) f_31 (Iff.rfl) (fun hp_34 => ?_) (fun hp_34 => ?_)
  · have h := it_f hp_34 h
    refine go_iconst (n := 0) (z := 0) (by decide +kernel) (by decide) fun v_35 f_36 => ?_
    cases h
    exact go_iret (by decide +kernel) rfl (Or.inr ⟨rfl, by decide⟩) f_36 (hQ (Ext.rf _) _ _ R (q_out_v (by decide) f_36))
  · have h := it_n hp_34 h
    refine go_iconst (n := 1) (z := 1) (by decide +kernel) (by decide) fun v_37 f_38 => ?_
    refine go_goto (o := 4) (t := 154) (by decide +kernel) (by decide +kernel) ?_
    cases h
    exact go_iret (by decide +kernel) rfl (Or.inr ⟨rfl, by decide⟩) f_38 (hQ (Ext.rf _) _ _ R (q_out_v (by decide) f_38))
noncomputable def fj_X12_canGoOn_100 (y1 : Int) (m : MM) : Option (Int × MM) := gd (0 ≤ y1 ∧ y1 < 12) <| lx (m 145 y1) fun x_20 =>
if x_20 = 3 then
lx (m 143 y1) fun x_45 =>
bp (fm_X12_hasChild x_45 m) fun x_48 =>
if x_48 = 0 then
up m 145 y1 0 fun m_62 =>
lx (m_62 144 y1) fun x_74 =>
up m_62 144 y1 (w32 (x_74 + 1)) fun m_80 =>
fj_X12_canGoOn_140 y1 m_80
else
fj_X12_canGoOn_140 y1 m
else
fj_X12_canGoOn_140 y1 m
set_option maxHeartbeats 4000000 in
theorem oj_X12_canGoOn_100 {xs : List Int32} {d : Nat} {S : QS} {L : QL} {Q : QO → QS → Prop} {m : MM} {y1 : Int} {v0 : Value} {v1 : Value}  {rz : Int} {rm : MM}
  (hd : 1 ≤ d) (R : Rp S m) (l0 : q_lo L 0 = some v0) (f0 : q_is 2 v0 68) (l1 : q_lo L 1 = some v1) (f1 : q_is 0 v1 y1)
  (hQ : Ext m rm → ∀ o S1, Rp S1 rm → q_out 0 o rz → Q o S1)
  (h : fj_X12_canGoOn_100 y1 m = some (rz, rm)) : Go xs d qM_X12_canGoOn 100 L [] S Q := by
  unfold fj_X12_canGoOn_100 at h
  refine go_aload_n (n := 0) (by decide +kernel) l0 f0 ?_
  refine go_getf (x := 250) (ci := 13) (kf := 95) (fin := 1) (t := 2) (by decide +kernel) (by decide +kernel) (by decide +kernel) R f0 (fx_k (c := 13) R (by decide +kernel)) fun v_13 f_14 => ?_
  have f_15 := q_is_eq (b := 145) f_14 (fx_v R (by decide +kernel)).symm
  refine go_iload_n (n := 1) (by decide +kernel) l1 f1 ?_
  obtain ⟨g_18, h⟩ := gd_s h
  obtain ⟨x_20, e_21, h⟩ := lx_s h
  refine go_iald (kd := 100) (by decide +kernel) rfl R f_15 f1 (fx_k (c := 100) R (by decide +kernel)) (fx_x (a := 145) (ln := 12) R (by decide +kernel) g_18) fun v_16 f_17 => ?_
  have f_19 := q_is_eq f_17 e_21
  refine go_iconst (n := 3) (z := 3) (by decide +kernel) (by decide) fun v_22 f_23 => ?_
  refine go_icmp (c := .ne) (o := 33) (t := 140) (P := ¬ (x_20 = 3)) (by decide +kernel) (by decide +kernel) f_19 f_23 (Iff.rfl) (fun hp_24 => ?_) (fun hp_24 => ?_)
  · have h := it_f hp_24 h
    exact oj_X12_canGoOn_140 hd R l0 f0 l1 f1 hQ h
  · have h := it_n hp_24 h
    refine go_aload_n (n := 0) (by decide +kernel) l0 f0 ?_
    refine go_aload_n (n := 0) (by decide +kernel) l0 f0 ?_
    refine go_getf (x := 244) (ci := 13) (kf := 93) (fin := 1) (t := 2) (by decide +kernel) (by decide +kernel) (by decide +kernel) R f0 (fx_k (c := 13) R (by decide +kernel)) fun v_39 f_40 => ?_
    have f_41 := q_is_eq (b := 143) f_40 (fx_v R (by decide +kernel)).symm
    refine go_iload_n (n := 1) (by decide +kernel) l1 f1 ?_
    obtain ⟨x_45, e_46, h⟩ := lx_s h
    refine go_iald (kd := 100) (by decide +kernel) rfl R f_41 f1 (fx_k (c := 100) R (by decide +kernel)) (fx_x (a := 143) (ln := 12) R (by decide +kernel) g_18) fun v_42 f_43 => ?_
    have f_44 := q_is_eq f_43 e_46
    obtain ⟨x_48, hc_47, h⟩ := bp_s h
    refine go_callV (x := 500) (mi := 234) (n := 1) (ci := 13) (as := [v_42]) (rest := []) (by decide +kernel) (by decide +kernel) rfl rfl (q_sum8 _ (Nat.le_of_ble_eq_true rfl)) R f0 (fx_k (c := 13) R (by decide +kernel)) (om_X12_hasChild (Nat.le_trans (by decide) hd) R f0 f_44 hc_47) (fun _ S_52 q_55 => ?_) (fun _ _ qq => kr_x qq)
    refine kr_z (by decide) q_55 fun v_50 f_51 R_53 E_54 => ?_
    refine go_if (c := .ne) (o := 20) (t := 140) (P := ¬ (x_48 = 0)) (by decide +kernel) (by decide +kernel) f_51 (Iff.rfl) (fun hp_56 => ?_) (fun hp_56 => ?_)
    · have h := it_f hp_56 h
      exact oj_X12_canGoOn_140 hd R_53 l0 f0 l1 f1 hQ h
    · have h := it_n hp_56 h
      refine go_aload_n (n := 0) (by decide +kernel) l0 f0 ?_
      refine go_getf (x := 250) (ci := 13) (kf := 95) (fin := 1) (t := 2) (by decide +kernel) (by decide +kernel) (by decide +kernel) R_53 f0 (fx_k (c := 13) R_53 (by decide +kernel)) fun v_57 f_58 => ?_
      have f_59 := q_is_eq (b := 145) f_58 (fx_v R_53 (by decide +kernel)).symm
      refine go_iload_n (n := 1) (by decide +kernel) l1 f1 ?_
      refine go_iconst (n := 0) (z := 0) (by decide +kernel) (by decide) fun v_60 f_61 => ?_
      obtain ⟨m_62, e_63, h⟩ := up_s h
      refine go_iast (kd := 100) (by decide +kernel) rfl R_53 f_59 f1 f_61 (fx_k (c := 100) R_53 (by decide +kernel)) (fx_x (a := 145) (ln := 12) R_53 (by decide +kernel) g_18) e_63 (fx_a R_53.2 (fx_k (c := 100) R_53 (by decide +kernel)) (And.left (fx_x (a := 145) (ln := 12) R_53 (by decide +kernel) g_18)) (by decide +kernel)) fun S_64 R_65 E_66 => ?_
      have E_67 := E_66
      refine go_aload_n (n := 0) (by decide +kernel) l0 f0 ?_
      refine go_getf (x := 247) (ci := 13) (kf := 94) (fin := 1) (t := 2) (by decide +kernel) (by decide +kernel) (by decide +kernel) R_65 f0 (fx_k (c := 13) R_65 (by decide +kernel)) fun v_68 f_69 => ?_
      have f_70 := q_is_eq (b := 144) f_69 (fx_v R_65 (by decide +kernel)).symm
      refine go_iload_n (n := 1) (by decide +kernel) l1 f1 ?_
      refine go_dup2 (by decide +kernel) f1 (Or.inl rfl) f_70 (Or.inr rfl) ?_
      obtain ⟨x_74, e_75, h⟩ := lx_s h
      refine go_iald (kd := 100) (by decide +kernel) rfl R_65 f_70 f1 (fx_k (c := 100) R_65 (by decide +kernel)) (fx_x (a := 144) (ln := 12) R_65 (by decide +kernel) g_18) fun v_71 f_72 => ?_
      have f_73 := q_is_eq f_72 e_75
      refine go_iconst (n := 1) (z := 1) (by decide +kernel) (by decide) fun v_76 f_77 => ?_
      refine go_iadd (by decide +kernel) f_73 f_77 fun v_78 f_79 => ?_
      obtain ⟨m_80, e_81, h⟩ := up_s h
      refine go_iast (kd := 100) (by decide +kernel) rfl R_65 f_70 f1 f_79 (fx_k (c := 100) R_65 (by decide +kernel)) (fx_x (a := 144) (ln := 12) R_65 (by decide +kernel) g_18) e_81 (fx_a R_65.2 (fx_k (c := 100) R_65 (by decide +kernel)) (And.left (fx_x (a := 144) (ln := 12) R_65 (by decide +kernel) g_18)) (by decide +kernel)) fun S_82 R_83 E_84 => ?_
      have E_85 := Ext.tr E_67 E_84
      exact oj_X12_canGoOn_140 hd R_83 l0 f0 l1 f1 (fun b => hQ (Ext.tr E_85 b)) h
noncomputable def fm_X12_canGoOn (p1 : Int) (m0 : MM) : Option (Int × MM) := gd (0 ≤ p1 ∧ p1 < 12) <| lx (m0 145 p1) fun x_8 =>
if x_8 = 2 then
lx (m0 146 p1) fun x_95 =>
gd (0 ≤ x_95 ∧ x_95 < 4) <| lx (m0 156 x_95) fun x_101 =>
lx (m0 155 x_95) fun x_115 =>
if x_101 < x_115 then
lx (m0 147 p1) fun x_138 =>
gd (0 ≤ w32 ((w32 (2048 * x_95)) + x_101) ∧ w32 ((w32 (2048 * x_95)) + x_101) < 8192) <| lx (m0 157 (w32 ((w32 (2048 * x_95)) + x_101))) fun x_159 =>
gd (0 ≤ x_138 ∧ x_138 < 6) <| up m0 142 x_138 x_159 fun m_162 =>
lx (m_162 156 x_95) fun x_174 =>
up m_162 156 x_95 (w32 (x_174 + 1)) fun m_180 =>
up m_180 145 p1 0 fun m_191 =>
lx (m_191 144 p1) fun x_203 =>
up m_191 144 p1 (w32 (x_203 + 1)) fun m_209 =>
fj_X12_canGoOn_140 p1 m_209
else
fj_X12_canGoOn_100 p1 m0
else
fj_X12_canGoOn_100 p1 m0
set_option maxHeartbeats 4000000 in
theorem om_X12_canGoOn {xs : List Int32} {d : Nat} {S : QS} {m0 : MM} {p1 : Int} {v0 : Value} {v1 : Value} {rz : Int} {rm : MM}
  (hd : 2 ≤ d) (R : Rp S m0) (f0 : q_is 2 v0 68) (f1 : q_is 0 v1 p1)
  (h : fm_X12_canGoOn p1 m0 = some (rz, rm)) : Mt xs d 241 [v0, v1] S (Cr 0 m0 rm rz) := by
  obtain ⟨d, rfl⟩ : ∃ e, d = e + 1 := ⟨d - 1, by omega⟩
  have hd : 1 ≤ d := Nat.le_of_succ_le_succ hd
  refine Mt.of (M := qM_X12_canGoOn) rfl (by rw [sl_1 (q_is_cat f0 (Or.inr rfl)), sl_1 (q_is_cat f1 (Or.inl rfl)), sl_0]; decide) ?_
  rw [la_1 (q_is_cat f0 (Or.inr rfl)), la_1 (q_is_cat f1 (Or.inl rfl)), la_0]
  obtain ⟨L, hL⟩ : ∃ L : QL, L = [(0, v0), (0 + 1, v1)] := ⟨_, rfl⟩
  rw [← hL]
  have l0 : q_lo L 0 = some v0 := by rw [hL]; rfl
  have l1 : q_lo L 1 = some v1 := by rw [hL]; rfl
  have hQ : Ext m0 rm → ∀ o S1, Rp S1 rm → q_out 0 o rz → (Cr 0 m0 rm rz) o S1 := fun a o S1 b e => ⟨b, a, e⟩
  unfold fm_X12_canGoOn at h
  refine go_aload_n (n := 0) (by decide +kernel) l0 f0 ?_
  refine go_getf (x := 250) (ci := 13) (kf := 95) (fin := 1) (t := 2) (by decide +kernel) (by decide +kernel) (by decide +kernel) R f0 (fx_k (c := 13) R (by decide +kernel)) fun v_1 f_2 => ?_
  have f_3 := q_is_eq (b := 145) f_2 (fx_v R (by decide +kernel)).symm
  refine go_iload_n (n := 1) (by decide +kernel) l1 f1 ?_
  obtain ⟨g_6, h⟩ := gd_s h
  obtain ⟨x_8, e_9, h⟩ := lx_s h
  refine go_iald (kd := 100) (by decide +kernel) rfl R f_3 f1 (fx_k (c := 100) R (by decide +kernel)) (fx_x (a := 145) (ln := 12) R (by decide +kernel) g_6) fun v_4 f_5 => ?_
  have f_7 := q_is_eq f_5 e_9
  refine go_iconst (n := 2) (z := 2) (by decide +kernel) (by decide) fun v_10 f_11 => ?_
  refine go_icmp (c := .ne) (o := 93) (t := 100) (P := ¬ (x_8 = 2)) (by decide +kernel) (by decide +kernel) f_7 f_11 (Iff.rfl) (fun hp_12 => ?_) (fun hp_12 => ?_)
  · have h := it_f hp_12 h
    exact oj_X12_canGoOn_100 hd R l0 f0 l1 f1 hQ h
  · have h := it_n hp_12 h
    refine go_aload_n (n := 0) (by decide +kernel) l0 f0 ?_
    refine go_getf (x := 284) (ci := 13) (kf := 108) (fin := 1) (t := 2) (by decide +kernel) (by decide +kernel) (by decide +kernel) R f0 (fx_k (c := 13) R (by decide +kernel)) fun v_86 f_87 => ?_
    have f_88 := q_is_eq (b := 156) f_87 (fx_v R (by decide +kernel)).symm
    refine go_aload_n (n := 0) (by decide +kernel) l0 f0 ?_
    refine go_getf (x := 253) (ci := 13) (kf := 96) (fin := 1) (t := 2) (by decide +kernel) (by decide +kernel) (by decide +kernel) R f0 (fx_k (c := 13) R (by decide +kernel)) fun v_89 f_90 => ?_
    have f_91 := q_is_eq (b := 146) f_90 (fx_v R (by decide +kernel)).symm
    refine go_iload_n (n := 1) (by decide +kernel) l1 f1 ?_
    obtain ⟨x_95, e_96, h⟩ := lx_s h
    refine go_iald (kd := 100) (by decide +kernel) rfl R f_91 f1 (fx_k (c := 100) R (by decide +kernel)) (fx_x (a := 146) (ln := 12) R (by decide +kernel) g_6) fun v_92 f_93 => ?_
    have f_94 := q_is_eq f_93 e_96
    obtain ⟨g_99, h⟩ := gd_s h
    obtain ⟨x_101, e_102, h⟩ := lx_s h
    refine go_iald (kd := 100) (by decide +kernel) rfl R f_88 f_94 (fx_k (c := 100) R (by decide +kernel)) (fx_x (a := 156) (ln := 4) R (by decide +kernel) g_99) fun v_97 f_98 => ?_
    have f_100 := q_is_eq f_98 e_102
    refine go_aload_n (n := 0) (by decide +kernel) l0 f0 ?_
    refine go_getf (x := 281) (ci := 13) (kf := 107) (fin := 1) (t := 2) (by decide +kernel) (by decide +kernel) (by decide +kernel) R f0 (fx_k (c := 13) R (by decide +kernel)) fun v_103 f_104 => ?_
    have f_105 := q_is_eq (b := 155) f_104 (fx_v R (by decide +kernel)).symm
    refine go_aload_n (n := 0) (by decide +kernel) l0 f0 ?_
    refine go_getf (x := 253) (ci := 13) (kf := 96) (fin := 1) (t := 2) (by decide +kernel) (by decide +kernel) (by decide +kernel) R f0 (fx_k (c := 13) R (by decide +kernel)) fun v_106 f_107 => ?_
    have f_108 := q_is_eq (b := 146) f_107 (fx_v R (by decide +kernel)).symm
    refine go_iload_n (n := 1) (by decide +kernel) l1 f1 ?_
    refine go_iald (kd := 100) (by decide +kernel) rfl R f_108 f1 (fx_k (c := 100) R (by decide +kernel)) (fx_x (a := 146) (ln := 12) R (by decide +kernel) g_6) fun v_109 f_110 => ?_
    have f_111 := q_is_eq f_110 e_96
    obtain ⟨x_115, e_116, h⟩ := lx_s h
    refine go_iald (kd := 100) (by decide +kernel) rfl R f_105 f_111 (fx_k (c := 100) R (by decide +kernel)) (fx_x (a := 155) (ln := 4) R (by decide +kernel) g_99) fun v_112 f_113 => ?_
    have f_114 := q_is_eq f_113 e_116
    refine go_icmp (c := .ge) (o := 68) (t := 100) (P := ¬ (x_101 < x_115)) (by decide +kernel) (by decide +kernel) f_100 f_114 (Int.not_lt.symm) (fun hp_117 => ?_) (fun hp_117 => ?_)
    · have h := it_f hp_117 h
      exact oj_X12_canGoOn_100 hd R l0 f0 l1 f1 hQ h
    · have h := it_n hp_117 h
      refine go_aload_n (n := 0) (by decide +kernel) l0 f0 ?_
      refine go_getf (x := 253) (ci := 13) (kf := 96) (fin := 1) (t := 2) (by decide +kernel) (by decide +kernel) (by decide +kernel) R f0 (fx_k (c := 13) R (by decide +kernel)) fun v_118 f_119 => ?_
      have f_120 := q_is_eq (b := 146) f_119 (fx_v R (by decide +kernel)).symm
      refine go_iload_n (n := 1) (by decide +kernel) l1 f1 ?_
      refine go_iald (kd := 100) (by decide +kernel) rfl R f_120 f1 (fx_k (c := 100) R (by decide +kernel)) (fx_x (a := 146) (ln := 12) R (by decide +kernel) g_6) fun v_121 f_122 => ?_
      have f_123 := q_is_eq f_122 e_96
      refine go_istore_n (n := 2) (by decide +kernel) (by decide +kernel) f_123 fun L_124 l_125 kp_126 => ?_
      have l_127 := kp_126 0 _ l0 (by decide) (Or.inl (by decide))
      have l_128 := kp_126 1 _ l1 (by decide) (Or.inr (q_is_cat f1 (Or.inl rfl)))
      refine go_aload_n (n := 0) (by decide +kernel) l_127 f0 ?_
      refine go_getf (x := 241) (ci := 13) (kf := 90) (fin := 1) (t := 2) (by decide +kernel) (by decide +kernel) (by decide +kernel) R f0 (fx_k (c := 13) R (by decide +kernel)) fun v_129 f_130 => ?_
      have f_131 := q_is_eq (b := 142) f_130 (fx_v R (by decide +kernel)).symm
      refine go_aload_n (n := 0) (by decide +kernel) l_127 f0 ?_
      refine go_getf (x := 256) (ci := 13) (kf := 97) (fin := 1) (t := 2) (by decide +kernel) (by decide +kernel) (by decide +kernel) R f0 (fx_k (c := 13) R (by decide +kernel)) fun v_132 f_133 => ?_
      have f_134 := q_is_eq (b := 147) f_133 (fx_v R (by decide +kernel)).symm
      refine go_iload_n (n := 1) (by decide +kernel) l_128 f1 ?_
      obtain ⟨x_138, e_139, h⟩ := lx_s h
      refine go_iald (kd := 100) (by decide +kernel) rfl R f_134 f1 (fx_k (c := 100) R (by decide +kernel)) (fx_x (a := 147) (ln := 12) R (by decide +kernel) g_6) fun v_135 f_136 => ?_
      have f_137 := q_is_eq f_136 e_139
      refine go_aload_n (n := 0) (by decide +kernel) l_127 f0 ?_
      refine go_getf (x := 287) (ci := 13) (kf := 109) (fin := 1) (t := 2) (by decide +kernel) (by decide +kernel) (by decide +kernel) R f0 (fx_k (c := 13) R (by decide +kernel)) fun v_140 f_141 => ?_
      have f_142 := q_is_eq (b := 157) f_141 (fx_v R (by decide +kernel)).symm
      refine go_sipush (n := 2048) (z := 2048) (by decide +kernel) (by decide) fun v_143 f_144 => ?_
      refine go_iload_n (n := 2) (by decide +kernel) l_125 f_123 ?_
      refine go_imul (by decide +kernel) f_144 f_123 fun v_145 f_146 => ?_
      refine go_aload_n (n := 0) (by decide +kernel) l_127 f0 ?_
      refine go_getf (x := 284) (ci := 13) (kf := 108) (fin := 1) (t := 2) (by decide +kernel) (by decide +kernel) (by decide +kernel) R f0 (fx_k (c := 13) R (by decide +kernel)) fun v_147 f_148 => ?_
      have f_149 := q_is_eq (b := 156) f_148 (fx_v R (by decide +kernel)).symm
      refine go_iload_n (n := 2) (by decide +kernel) l_125 f_123 ?_
      refine go_iald (kd := 100) (by decide +kernel) rfl R f_149 f_123 (fx_k (c := 100) R (by decide +kernel)) (fx_x (a := 156) (ln := 4) R (by decide +kernel) g_99) fun v_150 f_151 => ?_
      have f_152 := q_is_eq f_151 e_102
      refine go_iadd (by decide +kernel) f_146 f_152 fun v_153 f_154 => ?_
      obtain ⟨g_157, h⟩ := gd_s h
      obtain ⟨x_159, e_160, h⟩ := lx_s h
      refine go_iald (kd := 100) (by decide +kernel) rfl R f_142 f_154 (fx_k (c := 100) R (by decide +kernel)) (fx_x (a := 157) (ln := 8192) R (by decide +kernel) g_157) fun v_155 f_156 => ?_
      have f_158 := q_is_eq f_156 e_160
      obtain ⟨g_161, h⟩ := gd_s h
      obtain ⟨m_162, e_163, h⟩ := up_s h
      refine go_iast (kd := 100) (by decide +kernel) rfl R f_131 f_137 f_158 (fx_k (c := 100) R (by decide +kernel)) (fx_x (a := 142) (ln := 6) R (by decide +kernel) g_161) e_163 (fx_a R.2 (fx_k (c := 100) R (by decide +kernel)) (And.left (fx_x (a := 142) (ln := 6) R (by decide +kernel) g_161)) (by decide +kernel)) fun S_164 R_165 E_166 => ?_
      have E_167 := E_166
      refine go_aload_n (n := 0) (by decide +kernel) l_127 f0 ?_
      refine go_getf (x := 284) (ci := 13) (kf := 108) (fin := 1) (t := 2) (by decide +kernel) (by decide +kernel) (by decide +kernel) R_165 f0 (fx_k (c := 13) R_165 (by decide +kernel)) fun v_168 f_169 => ?_
      have f_170 := q_is_eq (b := 156) f_169 (fx_v R_165 (by decide +kernel)).symm
      refine go_iload_n (n := 2) (by decide +kernel) l_125 f_123 ?_
      refine go_dup2 (by decide +kernel) f_123 (Or.inl rfl) f_170 (Or.inr rfl) ?_
      obtain ⟨x_174, e_175, h⟩ := lx_s h
      refine go_iald (kd := 100) (by decide +kernel) rfl R_165 f_170 f_123 (fx_k (c := 100) R_165 (by decide +kernel)) (fx_x (a := 156) (ln := 4) R_165 (by decide +kernel) g_99) fun v_171 f_172 => ?_
      have f_173 := q_is_eq f_172 e_175
      refine go_iconst (n := 1) (z := 1) (by decide +kernel) (by decide) fun v_176 f_177 => ?_
      refine go_iadd (by decide +kernel) f_173 f_177 fun v_178 f_179 => ?_
      obtain ⟨m_180, e_181, h⟩ := up_s h
      refine go_iast (kd := 100) (by decide +kernel) rfl R_165 f_170 f_123 f_179 (fx_k (c := 100) R_165 (by decide +kernel)) (fx_x (a := 156) (ln := 4) R_165 (by decide +kernel) g_99) e_181 (fx_a R_165.2 (fx_k (c := 100) R_165 (by decide +kernel)) (And.left (fx_x (a := 156) (ln := 4) R_165 (by decide +kernel) g_99)) (by decide +kernel)) fun S_182 R_183 E_184 => ?_
      have E_185 := Ext.tr E_167 E_184
      refine go_aload_n (n := 0) (by decide +kernel) l_127 f0 ?_
      refine go_getf (x := 250) (ci := 13) (kf := 95) (fin := 1) (t := 2) (by decide +kernel) (by decide +kernel) (by decide +kernel) R_183 f0 (fx_k (c := 13) R_183 (by decide +kernel)) fun v_186 f_187 => ?_
      have f_188 := q_is_eq (b := 145) f_187 (fx_v R_183 (by decide +kernel)).symm
      refine go_iload_n (n := 1) (by decide +kernel) l_128 f1 ?_
      refine go_iconst (n := 0) (z := 0) (by decide +kernel) (by decide) fun v_189 f_190 => ?_
      obtain ⟨m_191, e_192, h⟩ := up_s h
      refine go_iast (kd := 100) (by decide +kernel) rfl R_183 f_188 f1 f_190 (fx_k (c := 100) R_183 (by decide +kernel)) (fx_x (a := 145) (ln := 12) R_183 (by decide +kernel) g_6) e_192 (fx_a R_183.2 (fx_k (c := 100) R_183 (by decide +kernel)) (And.left (fx_x (a := 145) (ln := 12) R_183 (by decide +kernel) g_6)) (by decide +kernel)) fun S_193 R_194 E_195 => ?_
      have E_196 := Ext.tr E_185 E_195
      refine go_aload_n (n := 0) (by decide +kernel) l_127 f0 ?_
      refine go_getf (x := 247) (ci := 13) (kf := 94) (fin := 1) (t := 2) (by decide +kernel) (by decide +kernel) (by decide +kernel) R_194 f0 (fx_k (c := 13) R_194 (by decide +kernel)) fun v_197 f_198 => ?_
      have f_199 := q_is_eq (b := 144) f_198 (fx_v R_194 (by decide +kernel)).symm
      refine go_iload_n (n := 1) (by decide +kernel) l_128 f1 ?_
      refine go_dup2 (by decide +kernel) f1 (Or.inl rfl) f_199 (Or.inr rfl) ?_
      obtain ⟨x_203, e_204, h⟩ := lx_s h
      refine go_iald (kd := 100) (by decide +kernel) rfl R_194 f_199 f1 (fx_k (c := 100) R_194 (by decide +kernel)) (fx_x (a := 144) (ln := 12) R_194 (by decide +kernel) g_6) fun v_200 f_201 => ?_
      have f_202 := q_is_eq f_201 e_204
      refine go_iconst (n := 1) (z := 1) (by decide +kernel) (by decide) fun v_205 f_206 => ?_
      refine go_iadd (by decide +kernel) f_202 f_206 fun v_207 f_208 => ?_
      obtain ⟨m_209, e_210, h⟩ := up_s h
      refine go_iast (kd := 100) (by decide +kernel) rfl R_194 f_199 f1 f_208 (fx_k (c := 100) R_194 (by decide +kernel)) (fx_x (a := 144) (ln := 12) R_194 (by decide +kernel) g_6) e_210 (fx_a R_194.2 (fx_k (c := 100) R_194 (by decide +kernel)) (And.left (fx_x (a := 144) (ln := 12) R_194 (by decide +kernel) g_6)) (by decide +kernel)) fun S_211 R_212 E_213 => ?_
      have E_214 := Ext.tr E_196 E_213
      refine go_goto (o := 43) (t := 140) (by decide +kernel) (by decide +kernel) ?_
      exact oj_X12_canGoOn_140 hd R_212 l_127 f0 l_128 f1 (fun b => hQ (Ext.tr E_214 b)) h
end DF31
