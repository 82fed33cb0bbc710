/-! Methods as functions (written by wip/whole/dec.py), 28: X12_begins, X12_removes, X12_endsRun, X12_endsBranch, X12_failsBranch, X12_lets. -/
section DF28
noncomputable def fm_X12_begins (p1 p2 : Int) (m0 : MM) : Option (Int × MM) := lx (m0 68 91) fun x_4 =>
if x_4 = 12 then
bd (fm_X12_spins m0) fun x_183 m_184 =>
some (0, m_184)
else
lx (m0 68 92) fun x_18 =>
gd (0 ≤ x_4 ∧ x_4 < 12) <| up m0 143 x_4 x_18 fun m_21 =>
lx (m_21 68 92) fun x_34 =>
gd (0 ≤ x_34 ∧ x_34 < 196608) <| up m_21 152 x_34 p2 fun m_37 =>
lx (m_37 68 92) fun x_47 =>
up m_37 68 92 (w32 (x_47 + 1)) fun m_53 =>
lx (m_53 68 91) fun x_66 =>
gd (0 ≤ x_66 ∧ x_66 < 12) <| up m_53 144 x_66 p1 fun m_69 =>
lx (m_69 68 91) fun x_82 =>
gd (0 ≤ x_82 ∧ x_82 < 12) <| up m_69 145 x_82 0 fun m_87 =>
lx (m_87 68 91) fun x_100 =>
gd (0 ≤ x_100 ∧ x_100 < 12) <| up m_87 148 x_100 (-1) fun m_105 =>
lx (m_105 68 91) fun x_118 =>
gd (0 ≤ x_118 ∧ x_118 < 12) <| up m_105 149 x_118 (-1) fun m_123 =>
lx (m_123 68 91) fun x_136 =>
gd (0 ≤ x_136 ∧ x_136 < 12) <| up m_123 150 x_136 0 fun m_141 =>
lx (m_141 68 91) fun x_154 =>
gd (0 ≤ x_154 ∧ x_154 < 12) <| up m_141 151 x_154 0 fun m_159 =>
lx (m_159 68 91) fun x_169 =>
up m_159 68 91 (w32 (x_169 + 1)) fun m_175 =>
some (0, m_175)
set_option maxHeartbeats 4000000 in
theorem om_X12_begins {xs : List Int32} {d : Nat} {S : QS} {m0 : MM} {p1 p2 : Int} {v0 : Value} {v1 : Value} {v2 : Value} {rz : Int} {rm : MM}
  (hd : 2 ≤ d) (R : Rp S m0) (f0 : q_is 2 v0 68) (f1 : q_is 0 v1 p1) (f2 : q_is 0 v2 p2)
  (h : fm_X12_begins p1 p2 m0 = some (rz, rm)) : Mt xs d 223 [v0, v1, v2] S (Cr 9 m0 rm rz) := by
  obtain ⟨d, rfl⟩ : ∃ e, d = e + 1 := ⟨d - 1, by omega⟩
  have hd : 1 ≤ d := Nat.le_of_succ_le_succ hd
  refine Mt.of (M := qM_X12_begins) rfl (by rw [sl_1 (q_is_cat f0 (Or.inr rfl)), sl_1 (q_is_cat f1 (Or.inl rfl)), sl_1 (q_is_cat f2 (Or.inl rfl)), sl_0]; decide) ?_
  rw [la_1 (q_is_cat f0 (Or.inr rfl)), la_1 (q_is_cat f1 (Or.inl rfl)), la_1 (q_is_cat f2 (Or.inl rfl)), la_0]
  obtain ⟨L, hL⟩ : ∃ L : QL, L = [(0, v0), (0 + 1, v1), (0 + 1 + 1, v2)] := ⟨_, rfl⟩
  rw [← hL]
  have l0 : q_lo L 0 = some v0 := by rw [hL]; rfl
  have l1 : q_lo L 1 = some v1 := by rw [hL]; rfl
  have l2 : q_lo L 2 = some v2 := by rw [hL]; rfl
  have hQ : Ext m0 rm → ∀ o S1, Rp S1 rm → q_out 9 o rz → (Cr 9 m0 rm rz) o S1 := fun a o S1 b e => ⟨b, a, e⟩
  unfold fm_X12_begins at h
  refine go_aload_n (n := 0) (by decide +kernel) l0 f0 ?_
  obtain ⟨x_4, e_5, h⟩ := lx_s h
  refine go_getf (x := 368) (ci := 13) (kf := 91) (fin := 0) (t := 0) (by decide +kernel) (by decide +kernel) (by decide +kernel) R f0 (fx_k (c := 13) R (by decide +kernel)) fun v_1 f_2 => ?_
  have f_3 := q_is_eq f_2 e_5
  refine go_bipush (n := 12) (z := 12) (by decide +kernel) (by decide) fun v_6 f_7 => ?_
  refine go_icmp (c := .ne) (o := 8) (t := 14) (P := ¬ (x_4 = 12)) (by decide +kernel) (by decide +kernel) f_3 f_7 (Iff.rfl) (fun hp_8 => ?_) (fun hp_8 => ?_)
  · have h := it_f hp_8 h
    refine go_aload_n (n := 0) (by decide +kernel) l0 f0 ?_
    refine go_getf (x := 244) (ci := 13) (kf := 93) (fin := 1) (t := 2) (by decide +kernel) (by decide +kernel) (by decide +kernel) R f0 (fx_k (c := 13) R (by decide +kernel)) fun v_9 f_10 => ?_
    have f_11 := q_is_eq (b := 143) f_10 (fx_v R (by decide +kernel)).symm
    refine go_aload_n (n := 0) (by decide +kernel) l0 f0 ?_
    refine go_getf (x := 368) (ci := 13) (kf := 91) (fin := 0) (t := 0) (by decide +kernel) (by decide +kernel) (by decide +kernel) R f0 (fx_k (c := 13) R (by decide +kernel)) fun v_12 f_13 => ?_
    have f_14 := q_is_eq f_13 e_5
    refine go_aload_n (n := 0) (by decide +kernel) l0 f0 ?_
    obtain ⟨x_18, e_19, h⟩ := lx_s h
    refine go_getf (x := 422) (ci := 13) (kf := 92) (fin := 0) (t := 0) (by decide +kernel) (by decide +kernel) (by decide +kernel) R f0 (fx_k (c := 13) R (by decide +kernel)) fun v_15 f_16 => ?_
    have f_17 := q_is_eq f_16 e_19
    obtain ⟨g_20, h⟩ := gd_s h
    obtain ⟨m_21, e_22, h⟩ := up_s h
    refine go_iast (kd := 100) (by decide +kernel) rfl R f_11 f_14 f_17 (fx_k (c := 100) R (by decide +kernel)) (fx_x (a := 143) (ln := 12) R (by decide +kernel) g_20) e_22 (fx_a R.2 (fx_k (c := 100) R (by decide +kernel)) (And.left (fx_x (a := 143) (ln := 12) R (by decide +kernel) g_20)) (by decide +kernel)) fun S_23 R_24 E_25 => ?_
    have E_27 := E_25
    refine go_aload_n (n := 0) (by decide +kernel) l0 f0 ?_
    refine go_getf (x := 272) (ci := 13) (kf := 102) (fin := 1) (t := 2) (by decide +kernel) (by decide +kernel) (by decide +kernel) R_24 f0 (fx_k (c := 13) R_24 (by decide +kernel)) fun v_28 f_29 => ?_
    have f_30 := q_is_eq (b := 152) f_29 (fx_v R_24 (by decide +kernel)).symm
    refine go_aload_n (n := 0) (by decide +kernel) l0 f0 ?_
    obtain ⟨x_34, e_35, h⟩ := lx_s h
    refine go_getf (x := 422) (ci := 13) (kf := 92) (fin := 0) (t := 0) (by decide +kernel) (by decide +kernel) (by decide +kernel) R_24 f0 (fx_k (c := 13) R_24 (by decide +kernel)) fun v_31 f_32 => ?_
    have f_33 := q_is_eq f_32 e_35
    refine go_iload_n (n := 2) (by decide +kernel) l2 f2 ?_
    obtain ⟨g_36, h⟩ := gd_s h
    obtain ⟨m_37, e_38, h⟩ := up_s h
    refine go_iast (kd := 100) (by decide +kernel) rfl R_24 f_30 f_33 f2 (fx_k (c := 100) R_24 (by decide +kernel)) (fx_x (a := 152) (ln := 196608) R_24 (by decide +kernel) g_36) e_38 (fx_a R_24.2 (fx_k (c := 100) R_24 (by decide +kernel)) (And.left (fx_x (a := 152) (ln := 196608) R_24 (by decide +kernel) g_36)) (by decide +kernel)) fun S_39 R_40 E_41 => ?_
    have E_43 := Ext.tr E_27 E_41
    refine go_aload_n (n := 0) (by decide +kernel) l0 f0 ?_
    refine go_dup (by decide +kernel) f0 (Or.inr rfl) ?_
    obtain ⟨x_47, e_48, h⟩ := lx_s h
    refine go_getf (x := 422) (ci := 13) (kf := 92) (fin := 0) (t := 0) (by decide +kernel) (by decide +kernel) (by decide +kernel) R_40 f0 (fx_k (c := 13) R_40 (by decide +kernel)) fun v_44 f_45 => ?_
    have f_46 := q_is_eq f_45 e_48
    refine go_iconst (n := 1) (z := 1) (by decide +kernel) (by decide) fun v_49 f_50 => ?_
    refine go_iadd (by decide +kernel) f_46 f_50 fun v_51 f_52 => ?_
    obtain ⟨m_53, e_54, h⟩ := up_s h
    refine go_putf (x := 422) (ci := 13) (kf := 92) (fin := 0) (zt := 0) (by decide +kernel) (by decide +kernel) (by decide) (by decide +kernel) (by decide) (Or.inl rfl) R_40 f0 f_52 (fun hq => absurd hq (by decide)) (fx_k (c := 13) R_40 (by decide +kernel)) e_54 (fx_f (j := 92) R_40.2 (fx_k (c := 13) R_40 (by decide +kernel)) (by decide +kernel)) fun S_55 R_56 E_57 => ?_
    have E_59 := Ext.tr E_43 E_57
    refine go_aload_n (n := 0) (by decide +kernel) l0 f0 ?_
    refine go_getf (x := 247) (ci := 13) (kf := 94) (fin := 1) (t := 2) (by decide +kernel) (by decide +kernel) (by decide +kernel) R_56 f0 (fx_k (c := 13) R_56 (by decide +kernel)) fun v_60 f_61 => ?_
    have f_62 := q_is_eq (b := 144) f_61 (fx_v R_56 (by decide +kernel)).symm
    refine go_aload_n (n := 0) (by decide +kernel) l0 f0 ?_
    obtain ⟨x_66, e_67, h⟩ := lx_s h
    refine go_getf (x := 368) (ci := 13) (kf := 91) (fin := 0) (t := 0) (by decide +kernel) (by decide +kernel) (by decide +kernel) R_56 f0 (fx_k (c := 13) R_56 (by decide +kernel)) fun v_63 f_64 => ?_
    have f_65 := q_is_eq f_64 e_67
    refine go_iload_n (n := 1) (by decide +kernel) l1 f1 ?_
    obtain ⟨g_68, h⟩ := gd_s h
    obtain ⟨m_69, e_70, h⟩ := up_s h
    refine go_iast (kd := 100) (by decide +kernel) rfl R_56 f_62 f_65 f1 (fx_k (c := 100) R_56 (by decide +kernel)) (fx_x (a := 144) (ln := 12) R_56 (by decide +kernel) g_68) e_70 (fx_a R_56.2 (fx_k (c := 100) R_56 (by decide +kernel)) (And.left (fx_x (a := 144) (ln := 12) R_56 (by decide +kernel) g_68)) (by decide +kernel)) fun S_71 R_72 E_73 => ?_
    have E_75 := Ext.tr E_59 E_73
    refine go_aload_n (n := 0) (by decide +kernel) l0 f0 ?_
    refine go_getf (x := 250) (ci := 13) (kf := 95) (fin := 1) (t := 2) (by decide +kernel) (by decide +kernel) (by decide +kernel) R_72 f0 (fx_k (c := 13) R_72 (by decide +kernel)) fun v_76 f_77 => ?_
    have f_78 := q_is_eq (b := 145) f_77 (fx_v R_72 (by decide +kernel)).symm
    refine go_aload_n (n := 0) (by decide +kernel) l0 f0 ?_
    obtain ⟨x_82, e_83, h⟩ := lx_s h
    refine go_getf (x := 368) (ci := 13) (kf := 91) (fin := 0) (t := 0) (by decide +kernel) (by decide +kernel) (by decide +kernel) R_72 f0 (fx_k (c := 13) R_72 (by decide +kernel)) fun v_79 f_80 => ?_
    have f_81 := q_is_eq f_80 e_83
    refine go_iconst (n := 0) (z := 0) (by decide +kernel) (by decide) fun v_84 f_85 => ?_
    obtain ⟨g_86, h⟩ := gd_s h
    obtain ⟨m_87, e_88, h⟩ := up_s h
    refine go_iast (kd := 100) (by decide +kernel) rfl R_72 f_78 f_81 f_85 (fx_k (c := 100) R_72 (by decide +kernel)) (fx_x (a := 145) (ln := 12) R_72 (by decide +kernel) g_86) e_88 (fx_a R_72.2 (fx_k (c := 100) R_72 (by decide +kernel)) (And.left (fx_x (a := 145) (ln := 12) R_72 (by decide +kernel) g_86)) (by decide +kernel)) fun S_89 R_90 E_91 => ?_
    have E_93 := Ext.tr E_75 E_91
    refine go_aload_n (n := 0) (by decide +kernel) l0 f0 ?_
    refine go_getf (x := 259) (ci := 13) (kf := 98) (fin := 1) (t := 2) (by decide +kernel) (by decide +kernel) (by decide +kernel) R_90 f0 (fx_k (c := 13) R_90 (by decide +kernel)) fun v_94 f_95 => ?_
    have f_96 := q_is_eq (b := 148) f_95 (fx_v R_90 (by decide +kernel)).symm
    refine go_aload_n (n := 0) (by decide +kernel) l0 f0 ?_
    obtain ⟨x_100, e_101, h⟩ := lx_s h
    refine go_getf (x := 368) (ci := 13) (kf := 91) (fin := 0) (t := 0) (by decide +kernel) (by decide +kernel) (by decide +kernel) R_90 f0 (fx_k (c := 13) R_90 (by decide +kernel)) fun v_97 f_98 => ?_
    have f_99 := q_is_eq f_98 e_101
    refine go_iconst (n := (-1)) (z := (-1)) (by decide +kernel) (by decide) fun v_102 f_103 => ?_
    obtain ⟨g_104, h⟩ := gd_s h
    obtain ⟨m_105, e_106, h⟩ := up_s h
    refine go_iast (kd := 100) (by decide +kernel) rfl R_90 f_96 f_99 f_103 (fx_k (c := 100) R_90 (by decide +kernel)) (fx_x (a := 148) (ln := 12) R_90 (by decide +kernel) g_104) e_106 (fx_a R_90.2 (fx_k (c := 100) R_90 (by decide +kernel)) (And.left (fx_x (a := 148) (ln := 12) R_90 (by decide +kernel) g_104)) (by decide +kernel)) fun S_107 R_108 E_109 => ?_
    have E_111 := Ext.tr E_93 E_109
    refine go_aload_n (n := 0) (by decide +kernel) l0 f0 ?_
    refine go_getf (x := 262) (ci := 13) (kf := 99) (fin := 1) (t := 2) (by decide +kernel) (by decide +kernel) (by decide +kernel) R_108 f0 (fx_k (c := 13) R_108 (by decide +kernel)) fun v_112 f_113 => ?_
    have f_114 := q_is_eq (b := 149) f_113 (fx_v R_108 (by decide +kernel)).symm
    refine go_aload_n (n := 0) (by decide +kernel) l0 f0 ?_
    obtain ⟨x_118, e_119, h⟩ := lx_s h
    refine go_getf (x := 368) (ci := 13) (kf := 91) (fin := 0) (t := 0) (by decide +kernel) (by decide +kernel) (by decide +kernel) R_108 f0 (fx_k (c := 13) R_108 (by decide +kernel)) fun v_115 f_116 => ?_
    have f_117 := q_is_eq f_116 e_119
    refine go_iconst (n := (-1)) (z := (-1)) (by decide +kernel) (by decide) fun v_120 f_121 => ?_
    obtain ⟨g_122, h⟩ := gd_s h
    obtain ⟨m_123, e_124, h⟩ := up_s h
    refine go_iast (kd := 100) (by decide +kernel) rfl R_108 f_114 f_117 f_121 (fx_k (c := 100) R_108 (by decide +kernel)) (fx_x (a := 149) (ln := 12) R_108 (by decide +kernel) g_122) e_124 (fx_a R_108.2 (fx_k (c := 100) R_108 (by decide +kernel)) (And.left (fx_x (a := 149) (ln := 12) R_108 (by decide +kernel) g_122)) (by decide +kernel)) fun S_125 R_126 E_127 => ?_
    have E_129 := Ext.tr E_111 E_127
    refine go_aload_n (n := 0) (by decide +kernel) l0 f0 ?_
    refine go_getf (x := 265) (ci := 13) (kf := 100) (fin := 1) (t := 2) (by decide +kernel) (by decide +kernel) (by decide +kernel) R_126 f0 (fx_k (c := 13) R_126 (by decide +kernel)) fun v_130 f_131 => ?_
    have f_132 := q_is_eq (b := 150) f_131 (fx_v R_126 (by decide +kernel)).symm
    refine go_aload_n (n := 0) (by decide +kernel) l0 f0 ?_
    obtain ⟨x_136, e_137, h⟩ := lx_s h
    refine go_getf (x := 368) (ci := 13) (kf := 91) (fin := 0) (t := 0) (by decide +kernel) (by decide +kernel) (by decide +kernel) R_126 f0 (fx_k (c := 13) R_126 (by decide +kernel)) fun v_133 f_134 => ?_
    have f_135 := q_is_eq f_134 e_137
    refine go_iconst (n := 0) (z := 0) (by decide +kernel) (by decide) fun v_138 f_139 => ?_
    obtain ⟨g_140, h⟩ := gd_s h
    obtain ⟨m_141, e_142, h⟩ := up_s h
    refine go_iast (kd := 100) (by decide +kernel) rfl R_126 f_132 f_135 f_139 (fx_k (c := 100) R_126 (by decide +kernel)) (fx_x (a := 150) (ln := 12) R_126 (by decide +kernel) g_140) e_142 (fx_a R_126.2 (fx_k (c := 100) R_126 (by decide +kernel)) (And.left (fx_x (a := 150) (ln := 12) R_126 (by decide +kernel) g_140)) (by decide +kernel)) fun S_143 R_144 E_145 => ?_
    have E_147 := Ext.tr E_129 E_145
    refine go_aload_n (n := 0) (by decide +kernel) l0 f0 ?_
    refine go_getf (x := 268) (ci := 13) (kf := 101) (fin := 1) (t := 2) (by decide +kernel) (by decide +kernel) (by decide +kernel) R_144 f0 (fx_k (c := 13) R_144 (by decide +kernel)) fun v_148 f_149 => ?_
    have f_150 := q_is_eq (b := 151) f_149 (fx_v R_144 (by decide +kernel)).symm
    refine go_aload_n (n := 0) (by decide +kernel) l0 f0 ?_
    obtain ⟨x_154, e_155, h⟩ := lx_s h
    refine go_getf (x := 368) (ci := 13) (kf := 91) (fin := 0) (t := 0) (by decide +kernel) (by decide +kernel) (by decide +kernel) R_144 f0 (fx_k (c := 13) R_144 (by decide +kernel)) fun v_151 f_152 => ?_
    have f_153 := q_is_eq f_152 e_155
    refine go_iconst (n := 0) (z := 0) (by decide +kernel) (by decide) fun v_156 f_157 => ?_
    obtain ⟨g_158, h⟩ := gd_s h
    obtain ⟨m_159, e_160, h⟩ := up_s h
    refine go_bast (kd := 102) (by decide +kernel) rfl R_144 f_150 f_153 f_157 (by decide) (fx_k (c := 102) R_144 (by decide +kernel)) (fx_x (a := 151) (ln := 12) R_144 (by decide +kernel) g_158) e_160 (fx_a R_144.2 (fx_k (c := 102) R_144 (by decide +kernel)) (And.left (fx_x (a := 151) (ln := 12) R_144 (by decide +kernel) g_158)) (by decide +kernel)) fun S_161 R_162 E_163 => ?_
    have E_165 := Ext.tr E_147 E_163
    refine go_aload_n (n := 0) (by decide +kernel) l0 f0 ?_
    refine go_dup (by decide +kernel) f0 (Or.inr rfl) ?_
    obtain ⟨x_169, e_170, h⟩ := lx_s h
    refine go_getf (x := 368) (ci := 13) (kf := 91) (fin := 0) (t := 0) (by decide +kernel) (by decide +kernel) (by decide +kernel) R_162 f0 (fx_k (c := 13) R_162 (by decide +kernel)) fun v_166 f_167 => ?_
    have f_168 := q_is_eq f_167 e_170
    refine go_iconst (n := 1) (z := 1) (by decide +kernel) (by decide) fun v_171 f_172 => ?_
    refine go_iadd (by decide +kernel) f_168 f_172 fun v_173 f_174 => ?_
    obtain ⟨m_175, e_176, h⟩ := up_s h
    refine go_putf (x := 368) (ci := 13) (kf := 91) (fin := 0) (zt := 0) (by decide +kernel) (by decide +kernel) (by decide) (by decide +kernel) (by decide) (Or.inl rfl) R_162 f0 f_174 (fun hq => absurd hq (by decide)) (fx_k (c := 13) R_162 (by decide +kernel)) e_176 (fx_f (j := 91) R_162.2 (fx_k (c := 13) R_162 (by decide +kernel)) (by decide +kernel)) fun S_177 R_178 E_179 => ?_
    have E_181 := Ext.tr E_165 E_179
    cases h
    exact go_vret (by decide +kernel) rfl (hQ E_181 _ _ R_178 q_out_n)
  · have h := it_n hp_8 h
    refine go_aload_n (n := 0) (by decide +kernel) l0 f0 ?_
    obtain ⟨x_183, m_184, hc_182, h⟩ := bd_s h
    refine go_callV (x := 419) (mi := 217) (n := 0) (ci := 13) (as := []) (rest := []) (by decide +kernel) (by decide +kernel) rfl rfl (q_sum8 _ (Nat.le_of_ble_eq_true rfl)) R f0 (fx_k (c := 13) R (by decide +kernel)) (om_X12_spins (Nat.le_trans (by decide) hd) R f0 hc_182) (fun _ S_187 q_190 => ?_) (fun _ _ qq => kr_x qq)
    refine kr_v q_190 fun R_188 E_189 => ?_
    have E_193 := E_189
    cases h
    exact go_vret (by decide +kernel) rfl (hQ E_193 _ _ R_188 q_out_n)
noncomputable def fl_X12_removes_12 : Nat → Int → MM → Option (Int × MM)
  | 0, _, _ => none
  | n + 1, y2, m => lx (m 68 91) fun x_24 =>
if y2 < x_24 then
gd (0 ≤ w32 (y2 + 1) ∧ w32 (y2 + 1) < 12) <| lx (m 143 (w32 (y2 + 1))) fun x_41 =>
gd (0 ≤ y2 ∧ y2 < 12) <| up m 143 y2 x_41 fun m_44 =>
lx (m_44 144 (w32 (y2 + 1))) fun x_64 =>
up m_44 144 y2 x_64 fun m_66 =>
lx (m_66 145 (w32 (y2 + 1))) fun x_86 =>
up m_66 145 y2 x_86 fun m_88 =>
lx (m_88 146 (w32 (y2 + 1))) fun x_108 =>
up m_88 146 y2 x_108 fun m_110 =>
lx (m_110 147 (w32 (y2 + 1))) fun x_130 =>
up m_110 147 y2 x_130 fun m_132 =>
lx (m_132 148 (w32 (y2 + 1))) fun x_152 =>
up m_132 148 y2 x_152 fun m_154 =>
lx (m_154 149 (w32 (y2 + 1))) fun x_174 =>
up m_154 149 y2 x_174 fun m_176 =>
lx (m_176 150 (w32 (y2 + 1))) fun x_196 =>
up m_176 150 y2 x_196 fun m_198 =>
lx (m_198 151 (w32 (y2 + 1))) fun x_218 =>
gd (x_218 = 0 ∨ x_218 = 1) <| up m_198 151 y2 x_218 fun m_221 =>
lx (w32 (y2 + 1)) fun x_233 =>
fl_X12_removes_12 n x_233 m_221
else
some (0, m)
set_option maxHeartbeats 4000000 in
theorem ol_X12_removes_12 {xs : List Int32} {d : Nat} {Q : QO → QS → Prop} {mb : MM} {rz : Int} {rm : MM}
  (hd : 0 ≤ d)
  (hQ : Ext mb rm → ∀ o S1, Rp S1 rm → q_out 9 o rz → Q o S1) :
  ∀ (n : Nat) {m : MM} {S : QS} {L : QL} {y2 : Int} {v0 : Value} {v2 : Value} , Ext mb m → fl_X12_removes_12 n y2 m = some (rz, rm) → Rp S m → q_lo L 0 = some v0 → q_is 2 v0 68 → q_lo L 2 = some v2 → q_is 0 v2 y2 → Go xs d qM_X12_removes 12 L [] S Q := by
  intro n
  induction n with
  | zero => intro m S L y2 v0 v2; intro E h R l0 f0 l2 f2; cases h
  | succ n ih0 =>
    intro m S L y2 v0 v2; intro E h R l0 f0 l2 f2
    have ih : ∀ mq : MM, Ext mb mq → ∀ {z2 : Int} {Sq : QS} {Lq : QL} {u0 : Value} {u2 : Value}, fl_X12_removes_12 n z2 mq = some (rz, rm) → Rp Sq mq → q_lo Lq 0 = some u0 → q_is 2 u0 68 → q_lo Lq 2 = some u2 → q_is 0 u2 z2 → Go xs d qM_X12_removes 12 Lq [] Sq Q := fun mq b => by intros; exact ih0 b ‹_› ‹_› ‹_› ‹_› ‹_› ‹_›
    unfold fl_X12_removes_12 at h
    refine go_iload_n (n := 2) (by decide +kernel) l2 f2 ?_
    refine go_aload_n (n := 0) (by decide +kernel) l0 f0 ?_
    obtain ⟨x_24, e_25, h⟩ := lx_s h
    refine go_getf (x := 368) (ci := 13) (kf := 91) (fin := 0) (t := 0) (by decide +kernel) (by decide +kernel) (by decide +kernel) R f0 (fx_k (c := 13) R (by decide +kernel)) fun v_21 f_22 => ?_
    have f_23 := q_is_eq f_22 e_25
    refine go_icmp (c := .ge) (o := 135) (t := 152) (P := ¬ (y2 < x_24)) (by decide +kernel) (by decide +kernel) f2 f_23 (Int.not_lt.symm) (fun hp_26 => ?_) (fun hp_26 => ?_)
    · have h := it_f hp_26 h
      cases h
      exact go_vret (by decide +kernel) rfl (hQ E _ _ R q_out_n)
    · have h := it_n hp_26 h
      refine go_aload_n (n := 0) (by decide +kernel) l0 f0 ?_
      refine go_getf (x := 244) (ci := 13) (kf := 93) (fin := 1) (t := 2) (by decide +kernel) (by decide +kernel) (by decide +kernel) R f0 (fx_k (c := 13) R (by decide +kernel)) fun v_27 f_28 => ?_
      have f_29 := q_is_eq (b := 143) f_28 (fx_v R (by decide +kernel)).symm
      refine go_iload_n (n := 2) (by decide +kernel) l2 f2 ?_
      refine go_aload_n (n := 0) (by decide +kernel) l0 f0 ?_
      refine go_getf (x := 244) (ci := 13) (kf := 93) (fin := 1) (t := 2) (by decide +kernel) (by decide +kernel) (by decide +kernel) R f0 (fx_k (c := 13) R (by decide +kernel)) fun v_30 f_31 => ?_
      have f_32 := q_is_eq (b := 143) f_31 (fx_v R (by decide +kernel)).symm
      refine go_iload_n (n := 2) (by decide +kernel) l2 f2 ?_
      refine go_iconst (n := 1) (z := 1) (by decide +kernel) (by decide) fun v_33 f_34 => ?_
      refine go_iadd (by decide +kernel) f2 f_34 fun v_35 f_36 => ?_
      obtain ⟨g_39, h⟩ := gd_s h
      obtain ⟨x_41, e_42, h⟩ := lx_s h
      refine go_iald (kd := 100) (by decide +kernel) rfl R f_32 f_36 (fx_k (c := 100) R (by decide +kernel)) (fx_x (a := 143) (ln := 12) R (by decide +kernel) g_39) fun v_37 f_38 => ?_
      have f_40 := q_is_eq f_38 e_42
      obtain ⟨g_43, h⟩ := gd_s h
      obtain ⟨m_44, e_45, h⟩ := up_s h
      refine go_iast (kd := 100) (by decide +kernel) rfl R f_29 f2 f_40 (fx_k (c := 100) R (by decide +kernel)) (fx_x (a := 143) (ln := 12) R (by decide +kernel) g_43) e_45 (fx_a R.2 (fx_k (c := 100) R (by decide +kernel)) (And.left (fx_x (a := 143) (ln := 12) R (by decide +kernel) g_43)) (by decide +kernel)) fun S_46 R_47 E_48 => ?_
      have E_50 := Ext.tr E E_48
      refine go_aload_n (n := 0) (by decide +kernel) l0 f0 ?_
      refine go_getf (x := 247) (ci := 13) (kf := 94) (fin := 1) (t := 2) (by decide +kernel) (by decide +kernel) (by decide +kernel) R_47 f0 (fx_k (c := 13) R_47 (by decide +kernel)) fun v_51 f_52 => ?_
      have f_53 := q_is_eq (b := 144) f_52 (fx_v R_47 (by decide +kernel)).symm
      refine go_iload_n (n := 2) (by decide +kernel) l2 f2 ?_
      refine go_aload_n (n := 0) (by decide +kernel) l0 f0 ?_
      refine go_getf (x := 247) (ci := 13) (kf := 94) (fin := 1) (t := 2) (by decide +kernel) (by decide +kernel) (by decide +kernel) R_47 f0 (fx_k (c := 13) R_47 (by decide +kernel)) fun v_54 f_55 => ?_
      have f_56 := q_is_eq (b := 144) f_55 (fx_v R_47 (by decide +kernel)).symm
      refine go_iload_n (n := 2) (by decide +kernel) l2 f2 ?_
      refine go_iconst (n := 1) (z := 1) (by decide +kernel) (by decide) fun v_57 f_58 => ?_
      refine go_iadd (by decide +kernel) f2 f_58 fun v_59 f_60 => ?_
      obtain ⟨x_64, e_65, h⟩ := lx_s h
      refine go_iald (kd := 100) (by decide +kernel) rfl R_47 f_56 f_60 (fx_k (c := 100) R_47 (by decide +kernel)) (fx_x (a := 144) (ln := 12) R_47 (by decide +kernel) g_39) fun v_61 f_62 => ?_
      have f_63 := q_is_eq f_62 e_65
      obtain ⟨m_66, e_67, h⟩ := up_s h
      refine go_iast (kd := 100) (by decide +kernel) rfl R_47 f_53 f2 f_63 (fx_k (c := 100) R_47 (by decide +kernel)) (fx_x (a := 144) (ln := 12) R_47 (by decide +kernel) g_43) e_67 (fx_a R_47.2 (fx_k (c := 100) R_47 (by decide +kernel)) (And.left (fx_x (a := 144) (ln := 12) R_47 (by decide +kernel) g_43)) (by decide +kernel)) fun S_68 R_69 E_70 => ?_
      have E_72 := Ext.tr E_50 E_70
      refine go_aload_n (n := 0) (by decide +kernel) l0 f0 ?_
      refine go_getf (x := 250) (ci := 13) (kf := 95) (fin := 1) (t := 2) (by decide +kernel) (by decide +kernel) (by decide +kernel) R_69 f0 (fx_k (c := 13) R_69 (by decide +kernel)) fun v_73 f_74 => ?_
      have f_75 := q_is_eq (b := 145) f_74 (fx_v R_69 (by decide +kernel)).symm
      refine go_iload_n (n := 2) (by decide +kernel) l2 f2 ?_
      refine go_aload_n (n := 0) (by decide +kernel) l0 f0 ?_
      refine go_getf (x := 250) (ci := 13) (kf := 95) (fin := 1) (t := 2) (by decide +kernel) (by decide +kernel) (by decide +kernel) R_69 f0 (fx_k (c := 13) R_69 (by decide +kernel)) fun v_76 f_77 => ?_
      have f_78 := q_is_eq (b := 145) f_77 (fx_v R_69 (by decide +kernel)).symm
      refine go_iload_n (n := 2) (by decide +kernel) l2 f2 ?_
      refine go_iconst (n := 1) (z := 1) (by decide +kernel) (by decide) fun v_79 f_80 => ?_
      refine go_iadd (by decide +kernel) f2 f_80 fun v_81 f_82 => ?_
      obtain ⟨x_86, e_87, h⟩ := lx_s h
      refine go_iald (kd := 100) (by decide +kernel) rfl R_69 f_78 f_82 (fx_k (c := 100) R_69 (by decide +kernel)) (fx_x (a := 145) (ln := 12) R_69 (by decide +kernel) g_39) fun v_83 f_84 => ?_
      have f_85 := q_is_eq f_84 e_87
      obtain ⟨m_88, e_89, h⟩ := up_s h
      refine go_iast (kd := 100) (by decide +kernel) rfl R_69 f_75 f2 f_85 (fx_k (c := 100) R_69 (by decide +kernel)) (fx_x (a := 145) (ln := 12) R_69 (by decide +kernel) g_43) e_89 (fx_a R_69.2 (fx_k (c := 100) R_69 (by decide +kernel)) (And.left (fx_x (a := 145) (ln := 12) R_69 (by decide +kernel) g_43)) (by decide +kernel)) fun S_90 R_91 E_92 => ?_
      have E_94 := Ext.tr E_72 E_92
      refine go_aload_n (n := 0) (by decide +kernel) l0 f0 ?_
      refine go_getf (x := 253) (ci := 13) (kf := 96) (fin := 1) (t := 2) (by decide +kernel) (by decide +kernel) (by decide +kernel) R_91 f0 (fx_k (c := 13) R_91 (by decide +kernel)) fun v_95 f_96 => ?_
      have f_97 := q_is_eq (b := 146) f_96 (fx_v R_91 (by decide +kernel)).symm
      refine go_iload_n (n := 2) (by decide +kernel) l2 f2 ?_
      refine go_aload_n (n := 0) (by decide +kernel) l0 f0 ?_
      refine go_getf (x := 253) (ci := 13) (kf := 96) (fin := 1) (t := 2) (by decide +kernel) (by decide +kernel) (by decide +kernel) R_91 f0 (fx_k (c := 13) R_91 (by decide +kernel)) fun v_98 f_99 => ?_
      have f_100 := q_is_eq (b := 146) f_99 (fx_v R_91 (by decide +kernel)).symm
      refine go_iload_n (n := 2) (by decide +kernel) l2 f2 ?_
      refine go_iconst (n := 1) (z := 1) (by decide +kernel) (by decide) fun v_101 f_102 => ?_
      refine go_iadd (by decide +kernel) f2 f_102 fun v_103 f_104 => ?_
      obtain ⟨x_108, e_109, h⟩ := lx_s h
      refine go_iald (kd := 100) (by decide +kernel) rfl R_91 f_100 f_104 (fx_k (c := 100) R_91 (by decide +kernel)) (fx_x (a := 146) (ln := 12) R_91 (by decide +kernel) g_39) fun v_105 f_106 => ?_
      have f_107 := q_is_eq f_106 e_109
      obtain ⟨m_110, e_111, h⟩ := up_s h
      refine go_iast (kd := 100) (by decide +kernel) rfl R_91 f_97 f2 f_107 (fx_k (c := 100) R_91 (by decide +kernel)) (fx_x (a := 146) (ln := 12) R_91 (by decide +kernel) g_43) e_111 (fx_a R_91.2 (fx_k (c := 100) R_91 (by decide +kernel)) (And.left (fx_x (a := 146) (ln := 12) R_91 (by decide +kernel) g_43)) (by decide +kernel)) fun S_112 R_113 E_114 => ?_
      have E_116 := Ext.tr E_94 E_114
      refine go_aload_n (n := 0) (by decide +kernel) l0 f0 ?_
      refine go_getf (x := 256) (ci := 13) (kf := 97) (fin := 1) (t := 2) (by decide +kernel) (by decide +kernel) (by decide +kernel) R_113 f0 (fx_k (c := 13) R_113 (by decide +kernel)) fun v_117 f_118 => ?_
      have f_119 := q_is_eq (b := 147) f_118 (fx_v R_113 (by decide +kernel)).symm
      refine go_iload_n (n := 2) (by decide +kernel) l2 f2 ?_
      refine go_aload_n (n := 0) (by decide +kernel) l0 f0 ?_
      refine go_getf (x := 256) (ci := 13) (kf := 97) (fin := 1) (t := 2) (by decide +kernel) (by decide +kernel) (by decide +kernel) R_113 f0 (fx_k (c := 13) R_113 (by decide +kernel)) fun v_120 f_121 => ?_
      have f_122 := q_is_eq (b := 147) f_121 (fx_v R_113 (by decide +kernel)).symm
      refine go_iload_n (n := 2) (by decide +kernel) l2 f2 ?_
      refine go_iconst (n := 1) (z := 1) (by decide +kernel) (by decide) fun v_123 f_124 => ?_
      refine go_iadd (by decide +kernel) f2 f_124 fun v_125 f_126 => ?_
      obtain ⟨x_130, e_131, h⟩ := lx_s h
      refine go_iald (kd := 100) (by decide +kernel) rfl R_113 f_122 f_126 (fx_k (c := 100) R_113 (by decide +kernel)) (fx_x (a := 147) (ln := 12) R_113 (by decide +kernel) g_39) fun v_127 f_128 => ?_
      have f_129 := q_is_eq f_128 e_131
      obtain ⟨m_132, e_133, h⟩ := up_s h
      refine go_iast (kd := 100) (by decide +kernel) rfl R_113 f_119 f2 f_129 (fx_k (c := 100) R_113 (by decide +kernel)) (fx_x (a := 147) (ln := 12) R_113 (by decide +kernel) g_43) e_133 (fx_a R_113.2 (fx_k (c := 100) R_113 (by decide +kernel)) (And.left (fx_x (a := 147) (ln := 12) R_113 (by decide +kernel) g_43)) (by decide +kernel)) fun S_134 R_135 E_136 => ?_
      have E_138 := Ext.tr E_116 E_136
      refine go_aload_n (n := 0) (by decide +kernel) l0 f0 ?_
      refine go_getf (x := 259) (ci := 13) (kf := 98) (fin := 1) (t := 2) (by decide +kernel) (by decide +kernel) (by decide +kernel) R_135 f0 (fx_k (c := 13) R_135 (by decide +kernel)) fun v_139 f_140 => ?_
      have f_141 := q_is_eq (b := 148) f_140 (fx_v R_135 (by decide +kernel)).symm
      refine go_iload_n (n := 2) (by decide +kernel) l2 f2 ?_
      refine go_aload_n (n := 0) (by decide +kernel) l0 f0 ?_
      refine go_getf (x := 259) (ci := 13) (kf := 98) (fin := 1) (t := 2) (by decide +kernel) (by decide +kernel) (by decide +kernel) R_135 f0 (fx_k (c := 13) R_135 (by decide +kernel)) fun v_142 f_143 => ?_
      have f_144 := q_is_eq (b := 148) f_143 (fx_v R_135 (by decide +kernel)).symm
      refine go_iload_n (n := 2) (by decide +kernel) l2 f2 ?_
      refine go_iconst (n := 1) (z := 1) (by decide +kernel) (by decide) fun v_145 f_146 => ?_
      refine go_iadd (by decide +kernel) f2 f_146 fun v_147 f_148 => ?_
      obtain ⟨x_152, e_153, h⟩ := lx_s h
      refine go_iald (kd := 100) (by decide +kernel) rfl R_135 f_144 f_148 (fx_k (c := 100) R_135 (by decide +kernel)) (fx_x (a := 148) (ln := 12) R_135 (by decide +kernel) g_39) fun v_149 f_150 => ?_
      have f_151 := q_is_eq f_150 e_153
      obtain ⟨m_154, e_155, h⟩ := up_s h
      refine go_iast (kd := 100) (by decide +kernel) rfl R_135 f_141 f2 f_151 (fx_k (c := 100) R_135 (by decide +kernel)) (fx_x (a := 148) (ln := 12) R_135 (by decide +kernel) g_43) e_155 (fx_a R_135.2 (fx_k (c := 100) R_135 (by decide +kernel)) (And.left (fx_x (a := 148) (ln := 12) R_135 (by decide +kernel) g_43)) (by decide +kernel)) fun S_156 R_157 E_158 => ?_
      have E_160 := Ext.tr E_138 E_158
      refine go_aload_n (n := 0) (by decide +kernel) l0 f0 ?_
      refine go_getf (x := 262) (ci := 13) (kf := 99) (fin := 1) (t := 2) (by decide +kernel) (by decide +kernel) (by decide +kernel) R_157 f0 (fx_k (c := 13) R_157 (by decide +kernel)) fun v_161 f_162 => ?_
      have f_163 := q_is_eq (b := 149) f_162 (fx_v R_157 (by decide +kernel)).symm
      refine go_iload_n (n := 2) (by decide +kernel) l2 f2 ?_
      refine go_aload_n (n := 0) (by decide +kernel) l0 f0 ?_
      refine go_getf (x := 262) (ci := 13) (kf := 99) (fin := 1) (t := 2) (by decide +kernel) (by decide +kernel) (by decide +kernel) R_157 f0 (fx_k (c := 13) R_157 (by decide +kernel)) fun v_164 f_165 => ?_
      have f_166 := q_is_eq (b := 149) f_165 (fx_v R_157 (by decide +kernel)).symm
      refine go_iload_n (n := 2) (by decide +kernel) l2 f2 ?_
      refine go_iconst (n := 1) (z := 1) (by decide +kernel) (by decide) fun v_167 f_168 => ?_
      refine go_iadd (by decide +kernel) f2 f_168 fun v_169 f_170 => ?_
      obtain ⟨x_174, e_175, h⟩ := lx_s h
      refine go_iald (kd := 100) (by decide +kernel) rfl R_157 f_166 f_170 (fx_k (c := 100) R_157 (by decide +kernel)) (fx_x (a := 149) (ln := 12) R_157 (by decide +kernel) g_39) fun v_171 f_172 => ?_
      have f_173 := q_is_eq f_172 e_175
      obtain ⟨m_176, e_177, h⟩ := up_s h
      refine go_iast (kd := 100) (by decide +kernel) rfl R_157 f_163 f2 f_173 (fx_k (c := 100) R_157 (by decide +kernel)) (fx_x (a := 149) (ln := 12) R_157 (by decide +kernel) g_43) e_177 (fx_a R_157.2 (fx_k (c := 100) R_157 (by decide +kernel)) (And.left (fx_x (a := 149) (ln := 12) R_157 (by decide +kernel) g_43)) (by decide +kernel)) fun S_178 R_179 E_180 => ?_
      have E_182 := Ext.tr E_160 E_180
      refine go_aload_n (n := 0) (by decide +kernel) l0 f0 ?_
      refine go_getf (x := 265) (ci := 13) (kf := 100) (fin := 1) (t := 2) (by decide +kernel) (by decide +kernel) (by decide +kernel) R_179 f0 (fx_k (c := 13) R_179 (by decide +kernel)) fun v_183 f_184 => ?_
      have f_185 := q_is_eq (b := 150) f_184 (fx_v R_179 (by decide +kernel)).symm
      refine go_iload_n (n := 2) (by decide +kernel) l2 f2 ?_
      refine go_aload_n (n := 0) (by decide +kernel) l0 f0 ?_
      refine go_getf (x := 265) (ci := 13) (kf := 100) (fin := 1) (t := 2) (by decide +kernel) (by decide +kernel) (by decide +kernel) R_179 f0 (fx_k (c := 13) R_179 (by decide +kernel)) fun v_186 f_187 => ?_
      have f_188 := q_is_eq (b := 150) f_187 (fx_v R_179 (by decide +kernel)).symm
      refine go_iload_n (n := 2) (by decide +kernel) l2 f2 ?_
      refine go_iconst (n := 1) (z := 1) (by decide +kernel) (by decide) fun v_189 f_190 => ?_
      refine go_iadd (by decide +kernel) f2 f_190 fun v_191 f_192 => ?_
      obtain ⟨x_196, e_197, h⟩ := lx_s h
      refine go_iald (kd := 100) (by decide +kernel) rfl R_179 f_188 f_192 (fx_k (c := 100) R_179 (by decide +kernel)) (fx_x (a := 150) (ln := 12) R_179 (by decide +kernel) g_39) fun v_193 f_194 => ?_
      have f_195 := q_is_eq f_194 e_197
      obtain ⟨m_198, e_199, h⟩ := up_s h
      refine go_iast (kd := 100) (by decide +kernel) rfl R_179 f_185 f2 f_195 (fx_k (c := 100) R_179 (by decide +kernel)) (fx_x (a := 150) (ln := 12) R_179 (by decide +kernel) g_43) e_199 (fx_a R_179.2 (fx_k (c := 100) R_179 (by decide +kernel)) (And.left (fx_x (a := 150) (ln := 12) R_179 (by decide +kernel) g_43)) (by decide +kernel)) fun S_200 R_201 E_202 => ?_
      have E_204 := Ext.tr E_182 E_202
      refine go_aload_n (n := 0) (by decide +kernel) l0 f0 ?_
      refine go_getf (x := 268) (ci := 13) (kf := 101) (fin := 1) (t := 2) (by decide +kernel) (by decide +kernel) (by decide +kernel) R_201 f0 (fx_k (c := 13) R_201 (by decide +kernel)) fun v_205 f_206 => ?_
      have f_207 := q_is_eq (b := 151) f_206 (fx_v R_201 (by decide +kernel)).symm
      refine go_iload_n (n := 2) (by decide +kernel) l2 f2 ?_
      refine go_aload_n (n := 0) (by decide +kernel) l0 f0 ?_
      refine go_getf (x := 268) (ci := 13) (kf := 101) (fin := 1) (t := 2) (by decide +kernel) (by decide +kernel) (by decide +kernel) R_201 f0 (fx_k (c := 13) R_201 (by decide +kernel)) fun v_208 f_209 => ?_
      have f_210 := q_is_eq (b := 151) f_209 (fx_v R_201 (by decide +kernel)).symm
      refine go_iload_n (n := 2) (by decide +kernel) l2 f2 ?_
      refine go_iconst (n := 1) (z := 1) (by decide +kernel) (by decide) fun v_211 f_212 => ?_
      refine go_iadd (by decide +kernel) f2 f_212 fun v_213 f_214 => ?_
      obtain ⟨x_218, e_219, h⟩ := lx_s h
      refine go_bald (kd := 102) (by decide +kernel) rfl R_201 f_210 f_214 (fx_k (c := 102) R_201 (by decide +kernel)) (fx_x (a := 151) (ln := 12) R_201 (by decide +kernel) g_39) fun v_215 f_216 => ?_
      have f_217 := q_is_eq f_216 e_219
      obtain ⟨g_220, h⟩ := gd_s h
      obtain ⟨m_221, e_222, h⟩ := up_s h
      refine go_bast (kd := 102) (by decide +kernel) rfl R_201 f_207 f2 f_217 g_220 (fx_k (c := 102) R_201 (by decide +kernel)) (fx_x (a := 151) (ln := 12) R_201 (by decide +kernel) g_43) e_222 (fx_a R_201.2 (fx_k (c := 102) R_201 (by decide +kernel)) (And.left (fx_x (a := 151) (ln := 12) R_201 (by decide +kernel) g_43)) (by decide +kernel)) fun S_223 R_224 E_225 => ?_
      have E_227 := Ext.tr E_204 E_225
      refine go_iinc (n := 2) (c := 1) (c' := 1) (by decide +kernel) (by decide +kernel) l2 f2 (by decide) fun L_228 v_229 f_230 l_231 kp_232 => ?_
      obtain ⟨x_233, e_234, h⟩ := lx_s h
      have f_235 := q_is_eq f_230 e_234
      have l_236 := kp_232 0 _ l0 (by decide) (Or.inl (by decide))
      refine go_goto (o := (-137)) (t := 12) (by decide +kernel) (by decide +kernel) ?_
      exact ih m_221 E_227 h R_224 l_236 f0 l_231 f_235
noncomputable def fm_X12_removes (p1 : Int) (m0 : MM) : Option (Int × MM) := lx (m0 68 91) fun x_4 =>
up m0 68 91 (w32 (x_4 - 1)) fun m_10 =>
fl_X12_removes_12   BIG p1 m_10
set_option maxHeartbeats 4000000 in
theorem om_X12_removes {xs : List Int32} {d : Nat} {S : QS} {m0 : MM} {p1 : Int} {v0 : Value} {v1 : Value} {rz : Int} {rm : MM}
  (hd : 1 ≤ d) (R : Rp S m0) (f0 : q_is 2 v0 68) (f1 : q_is 0 v1 p1)
  (h : fm_X12_removes p1 m0 = some (rz, rm)) : Mt xs d 224 [v0, v1] S (Cr 9 m0 rm rz) := by
  obtain ⟨d, rfl⟩ : ∃ e, d = e + 1 := ⟨d - 1, by omega⟩
  have hd : 0 ≤ d := Nat.le_of_succ_le_succ hd
  refine Mt.of (M := qM_X12_removes) rfl (by rw [sl_1 (q_is_cat f0 (Or.inr rfl)), sl_1 (q_is_cat f1 (Or.inl rfl)), sl_0]; decide) ?_
  rw [la_1 (q_is_cat f0 (Or.inr rfl)), la_1 (q_is_cat f1 (Or.inl rfl)), la_0]
  obtain ⟨L, hL⟩ : ∃ L : QL, L = [(0, v0), (0 + 1, v1)] := ⟨_, rfl⟩
  rw [← hL]
  have l0 : q_lo L 0 = some v0 := by rw [hL]; rfl
  have l1 : q_lo L 1 = some v1 := by rw [hL]; rfl
  have hQ : Ext m0 rm → ∀ o S1, Rp S1 rm → q_out 9 o rz → (Cr 9 m0 rm rz) o S1 := fun a o S1 b e => ⟨b, a, e⟩
  unfold fm_X12_removes at h
  refine go_aload_n (n := 0) (by decide +kernel) l0 f0 ?_
  refine go_dup (by decide +kernel) f0 (Or.inr rfl) ?_
  obtain ⟨x_4, e_5, h⟩ := lx_s h
  refine go_getf (x := 368) (ci := 13) (kf := 91) (fin := 0) (t := 0) (by decide +kernel) (by decide +kernel) (by decide +kernel) R f0 (fx_k (c := 13) R (by decide +kernel)) fun v_1 f_2 => ?_
  have f_3 := q_is_eq f_2 e_5
  refine go_iconst (n := 1) (z := 1) (by decide +kernel) (by decide) fun v_6 f_7 => ?_
  refine go_isub (by decide +kernel) f_3 f_7 fun v_8 f_9 => ?_
  obtain ⟨m_10, e_11, h⟩ := up_s h
  refine go_putf (x := 368) (ci := 13) (kf := 91) (fin := 0) (zt := 0) (by decide +kernel) (by decide +kernel) (by decide) (by decide +kernel) (by decide) (Or.inl rfl) R f0 f_9 (fun hq => absurd hq (by decide)) (fx_k (c := 13) R (by decide +kernel)) e_11 (fx_f (j := 91) R.2 (fx_k (c := 13) R (by decide +kernel)) (by decide +kernel)) fun S_12 R_13 E_14 => ?_
  have E_16 := E_14
  refine go_iload_n (n := 1) (by decide +kernel) l1 f1 ?_
  refine go_istore_n (n := 2) (by decide +kernel) (by decide +kernel) f1 fun L_17 l_18 kp_19 => ?_
  have l_20 := kp_19 0 _ l0 (by decide) (Or.inl (by decide))
  refine ol_X12_removes_12 hd   (fun b => hQ (Ext.tr E_16 b)) BIG (Ext.rf _) h R_13 l_20 f0 l_18 f1
noncomputable def fm_X12_endsRun (p1 p2 : Int) (m0 : MM) : Option (Int × MM) := bd (fm_X12_commands p1 p2 0 m0) fun x_4 m_5 =>
lx (m_5 68 114) fun x_23 =>
if x_23 = 0 then
if x_4 < 0 then
some (0, m_5)
else
up m_5 68 112 p1 fun m_27 =>
some (0, m_27)
else
some (0, m_5)
set_option maxHeartbeats 4000000 in
theorem om_X12_endsRun {xs : List Int32} {d : Nat} {S : QS} {m0 : MM} {p1 p2 : Int} {v0 : Value} {v1 : Value} {v2 : Value} {rz : Int} {rm : MM}
  (hd : 5 ≤ d) (R : Rp S m0) (f0 : q_is 2 v0 68) (f1 : q_is 0 v1 p1) (f2 : q_is 0 v2 p2)
  (h : fm_X12_endsRun p1 p2 m0 = some (rz, rm)) : Mt xs d 225 [v0, v1, v2] S (Cr 9 m0 rm rz) := by
  obtain ⟨d, rfl⟩ : ∃ e, d = e + 1 := ⟨d - 1, by omega⟩
  have hd : 4 ≤ d := Nat.le_of_succ_le_succ hd
  refine Mt.of (M := qM_X12_endsRun) rfl (by rw [sl_1 (q_is_cat f0 (Or.inr rfl)), sl_1 (q_is_cat f1 (Or.inl rfl)), sl_1 (q_is_cat f2 (Or.inl rfl)), sl_0]; decide) ?_
  rw [la_1 (q_is_cat f0 (Or.inr rfl)), la_1 (q_is_cat f1 (Or.inl rfl)), la_1 (q_is_cat f2 (Or.inl rfl)), la_0]
  obtain ⟨L, hL⟩ : ∃ L : QL, L = [(0, v0), (0 + 1, v1), (0 + 1 + 1, v2)] := ⟨_, rfl⟩
  rw [← hL]
  have l0 : q_lo L 0 = some v0 := by rw [hL]; rfl
  have l1 : q_lo L 1 = some v1 := by rw [hL]; rfl
  have l2 : q_lo L 2 = some v2 := by rw [hL]; rfl
  have hQ : Ext m0 rm → ∀ o S1, Rp S1 rm → q_out 9 o rz → (Cr 9 m0 rm rz) o S1 := fun a o S1 b e => ⟨b, a, e⟩
  unfold fm_X12_endsRun at h
  refine go_aload_n (n := 0) (by decide +kernel) l0 f0 ?_
  refine go_iload_n (n := 1) (by decide +kernel) l1 f1 ?_
  refine go_iload_n (n := 2) (by decide +kernel) l2 f2 ?_
  refine go_iconst (n := 0) (z := 0) (by decide +kernel) (by decide) fun v_1 f_2 => ?_
  obtain ⟨x_4, m_5, hc_3, h⟩ := bd_s h
  refine go_callV (x := 425) (mi := 221) (n := 3) (ci := 13) (as := [v1, v2, v_1]) (rest := []) (by decide +kernel) (by decide +kernel) rfl rfl (q_sum8 _ (Nat.le_of_ble_eq_true rfl)) R f0 (fx_k (c := 13) R (by decide +kernel)) (om_X12_commands (Nat.le_trans (by decide) hd) R f0 f1 f2 f_2 hc_3) (fun _ S_8 q_11 => ?_) (fun _ _ qq => kr_x qq)
  refine kr_z (by decide) q_11 fun v_6 f_7 R_9 E_10 => ?_
  have E_14 := E_10
  refine go_istore_n (n := 3) (by decide +kernel) (by decide +kernel) f_7 fun L_15 l_16 kp_17 => ?_
  have l_18 := kp_17 0 _ l0 (by decide) (Or.inl (by decide))
  have l_19 := kp_17 1 _ l1 (by decide) (Or.inl (by decide))
  refine go_aload_n (n := 0) (by decide +kernel) l_18 f0 ?_
  obtain ⟨x_23, e_24, h⟩ := lx_s h
  refine go_getf (x := 374) (ci := 13) (kf := 114) (fin := 0) (t := 0) (by decide +kernel) (by decide +kernel) (by decide +kernel) R_9 f0 (fx_k (c := 13) R_9 (by decide +kernel)) fun v_20 f_21 => ?_
  have f_22 := q_is_eq f_21 e_24
  refine go_if (c := .ne) (o := 12) (t := 24) (P := ¬ (x_23 = 0)) (by decide +kernel) (by decide +kernel) f_22 (Iff.rfl) (fun hp_25 => ?_) (fun hp_25 => ?_)
  · have h := it_f hp_25 h
    cases h
    exact go_vret (by decide +kernel) rfl (hQ E_14 _ _ R_9 q_out_n)
  · have h := it_n hp_25 h
    refine go_iload_n (n := 3) (by decide +kernel) l_16 f_7 ?_
    refine go_if (c := .lt) (o := 8) (t := 24) (P := x_4 < 0) (by decide +kernel) (by decide +kernel) f_7 (Iff.rfl) (fun hp_26 => ?_) (fun hp_26 => ?_)
    · have h := it_t hp_26 h
      cases h
      exact go_vret (by decide +kernel) rfl (hQ E_14 _ _ R_9 q_out_n)
    · have h := it_f hp_26 h
      refine go_aload_n (n := 0) (by decide +kernel) l_18 f0 ?_
      refine go_iload_n (n := 1) (by decide +kernel) l_19 f1 ?_
      obtain ⟨m_27, e_28, h⟩ := up_s h
      refine go_putf (x := 371) (ci := 13) (kf := 112) (fin := 0) (zt := 0) (by decide +kernel) (by decide +kernel) (by decide) (by decide +kernel) (by decide) (Or.inl rfl) R_9 f0 f1 (fun hq => absurd hq (by decide)) (fx_k (c := 13) R_9 (by decide +kernel)) e_28 (fx_f (j := 112) R_9.2 (fx_k (c := 13) R_9 (by decide +kernel)) (by decide +kernel)) fun S_29 R_30 E_31 => ?_
      have E_33 := Ext.tr E_14 E_31
      cases h
      exact go_vret (by decide +kernel) rfl (hQ E_33 _ _ R_30 q_out_n)
noncomputable def fm_X12_endsBranch (p1 : Int) (m0 : MM) : Option (Int × MM) := gd (0 ≤ p1 ∧ p1 < 12) <| lx (m0 143 p1) fun x_8 =>
if x_8 = 0 then
lx (m0 142 0) fun x_33 =>
bd (fm_X12_endsRun 14 x_33 m0) fun x_36 m_37 =>
some (0, m_37)
else
bd (fm_X12_removes p1 m0) fun x_12 m_13 =>
some (0, m_13)
set_option maxHeartbeats 4000000 in
theorem om_X12_endsBranch {xs : List Int32} {d : Nat} {S : QS} {m0 : MM} {p1 : Int} {v0 : Value} {v1 : Value} {rz : Int} {rm : MM}
  (hd : 6 ≤ d) (R : Rp S m0) (f0 : q_is 2 v0 68) (f1 : q_is 0 v1 p1)
  (h : fm_X12_endsBranch p1 m0 = some (rz, rm)) : Mt xs d 226 [v0, v1] S (Cr 9 m0 rm rz) := by
  obtain ⟨d, rfl⟩ : ∃ e, d = e + 1 := ⟨d - 1, by omega⟩
  have hd : 5 ≤ d := Nat.le_of_succ_le_succ hd
  refine Mt.of (M := qM_X12_endsBranch) rfl (by rw [sl_1 (q_is_cat f0 (Or.inr rfl)), sl_1 (q_is_cat f1 (Or.inl rfl)), sl_0]; decide) ?_
  rw [la_1 (q_is_cat f0 (Or.inr rfl)), la_1 (q_is_cat f1 (Or.inl rfl)), la_0]
  obtain ⟨L, hL⟩ : ∃ L : QL, L = [(0, v0), (0 + 1, v1)] := ⟨_, rfl⟩
  rw [← hL]
  have l0 : q_lo L 0 = some v0 := by rw [hL]; rfl
  have l1 : q_lo L 1 = some v1 := by rw [hL]; rfl
  have hQ : Ext m0 rm → ∀ o S1, Rp S1 rm → q_out 9 o rz → (Cr 9 m0 rm rz) o S1 := fun a o S1 b e => ⟨b, a, e⟩
  unfold fm_X12_endsBranch at h
  refine go_aload_n (n := 0) (by decide +kernel) l0 f0 ?_
  refine go_getf (x := 244) (ci := 13) (kf := 93) (fin := 1) (t := 2) (by decide +kernel) (by decide +kernel) (by decide +kernel) R f0 (fx_k (c := 13) R (by decide +kernel)) fun v_1 f_2 => ?_
  have f_3 := q_is_eq (b := 143) f_2 (fx_v R (by decide +kernel)).symm
  refine go_iload_n (n := 1) (by decide +kernel) l1 f1 ?_
  obtain ⟨g_6, h⟩ := gd_s h
  obtain ⟨x_8, e_9, h⟩ := lx_s h
  refine go_iald (kd := 100) (by decide +kernel) rfl R f_3 f1 (fx_k (c := 100) R (by decide +kernel)) (fx_x (a := 143) (ln := 12) R (by decide +kernel) g_6) fun v_4 f_5 => ?_
  have f_7 := q_is_eq f_5 e_9
  refine go_if (c := .ne) (o := 18) (t := 24) (P := ¬ (x_8 = 0)) (by decide +kernel) (by decide +kernel) f_7 (Iff.rfl) (fun hp_10 => ?_) (fun hp_10 => ?_)
  · have h := it_f hp_10 h
    refine go_aload_n (n := 0) (by decide +kernel) l0 f0 ?_
    refine go_iload_n (n := 1) (by decide +kernel) l1 f1 ?_
    obtain ⟨x_12, m_13, hc_11, h⟩ := bd_s h
    refine go_callV (x := 433) (mi := 224) (n := 1) (ci := 13) (as := [v1]) (rest := []) (by decide +kernel) (by decide +kernel) rfl rfl (q_sum8 _ (Nat.le_of_ble_eq_true rfl)) R f0 (fx_k (c := 13) R (by decide +kernel)) (om_X12_removes (Nat.le_trans (by decide) hd) R f0 f1 hc_11) (fun _ S_16 q_19 => ?_) (fun _ _ qq => kr_x qq)
    refine kr_v q_19 fun R_17 E_18 => ?_
    have E_22 := E_18
    cases h
    exact go_vret (by decide +kernel) rfl (hQ E_22 _ _ R_17 q_out_n)
  · have h := it_n hp_10 h
    refine go_aload_n (n := 0) (by decide +kernel) l0 f0 ?_
    refine go_bipush (n := 14) (z := 14) (by decide +kernel) (by decide) fun v_23 f_24 => ?_
    refine go_aload_n (n := 0) (by decide +kernel) l0 f0 ?_
    refine go_getf (x := 241) (ci := 13) (kf := 90) (fin := 1) (t := 2) (by decide +kernel) (by decide +kernel) (by decide +kernel) R f0 (fx_k (c := 13) R (by decide +kernel)) fun v_25 f_26 => ?_
    have f_27 := q_is_eq (b := 142) f_26 (fx_v R (by decide +kernel)).symm
    refine go_iconst (n := 0) (z := 0) (by decide +kernel) (by decide) fun v_28 f_29 => ?_
    obtain ⟨x_33, e_34, h⟩ := lx_s h
    refine go_iald (kd := 100) (by decide +kernel) rfl R f_27 f_29 (fx_k (c := 100) R (by decide +kernel)) (fx_x (a := 142) (ln := 6) R (by decide +kernel) (by decide)) fun v_30 f_31 => ?_
    have f_32 := q_is_eq f_31 e_34
    obtain ⟨x_36, m_37, hc_35, h⟩ := bd_s h
    refine go_callV (x := 429) (mi := 225) (n := 2) (ci := 13) (as := [v_23, v_30]) (rest := []) (by decide +kernel) (by decide +kernel) rfl rfl (q_sum8 _ (Nat.le_of_ble_eq_true rfl)) R f0 (fx_k (c := 13) R (by decide +kernel)) (om_X12_endsRun (Nat.le_trans (by decide) hd) R f0 f_24 f_32 hc_35) (fun _ S_40 q_43 => ?_) (fun _ _ qq => kr_x qq)
    refine kr_v q_43 fun R_41 E_42 => ?_
    have E_46 := E_42
    refine go_goto (o := 8) (t := 29) (by decide +kernel) (by decide +kernel) ?_
    cases h
    exact go_vret (by decide +kernel) rfl (hQ E_46 _ _ R_41 q_out_n)
noncomputable def fm_X12_failsBranch (p1 : Int) (m0 : MM) : Option (Int × MM) := gd (0 ≤ p1 ∧ p1 < 12) <| up m0 145 p1 0 fun m_7 =>
lx (m_7 148 p1) fun x_20 =>
if x_20 = (-1) then
bd (fm_X12_endsRun 15 0 m_7) fun x_94 m_95 =>
some (0, m_95)
else
gd (0 ≤ x_20 ∧ x_20 < 196608) <| lx (m_7 153 x_20) fun x_41 =>
up m_7 144 p1 (Int.tmod x_41 24) fun m_47 =>
lx (m_47 148 p1) fun x_66 =>
gd (0 ≤ x_66 ∧ x_66 < 196608) <| lx (m_47 153 x_66) fun x_72 =>
up m_47 148 p1 (w32 ((w32 (Int.tdiv x_72 24)) - 1)) fun m_82 =>
some (0, m_82)
set_option maxHeartbeats 4000000 in
theorem om_X12_failsBranch {xs : List Int32} {d : Nat} {S : QS} {m0 : MM} {p1 : Int} {v0 : Value} {v1 : Value} {rz : Int} {rm : MM}
  (hd : 6 ≤ d) (R : Rp S m0) (f0 : q_is 2 v0 68) (f1 : q_is 0 v1 p1)
  (h : fm_X12_failsBranch p1 m0 = some (rz, rm)) : Mt xs d 227 [v0, v1] S (Cr 9 m0 rm rz) := by
  obtain ⟨d, rfl⟩ : ∃ e, d = e + 1 := ⟨d - 1, by omega⟩
  have hd : 5 ≤ d := Nat.le_of_succ_le_succ hd
  refine Mt.of (M := qM_X12_failsBranch) rfl (by rw [sl_1 (q_is_cat f0 (Or.inr rfl)), sl_1 (q_is_cat f1 (Or.inl rfl)), sl_0]; decide) ?_
  rw [la_1 (q_is_cat f0 (Or.inr rfl)), la_1 (q_is_cat f1 (Or.inl rfl)), la_0]
  obtain ⟨L, hL⟩ : ∃ L : QL, L = [(0, v0), (0 + 1, v1)] := ⟨_, rfl⟩
  rw [← hL]
  have l0 : q_lo L 0 = some v0 := by rw [hL]; rfl
  have l1 : q_lo L 1 = some v1 := by rw [hL]; rfl
  have hQ : Ext m0 rm → ∀ o S1, Rp S1 rm → q_out 9 o rz → (Cr 9 m0 rm rz) o S1 := fun a o S1 b e => ⟨b, a, e⟩
  unfold fm_X12_failsBranch at h
  refine go_aload_n (n := 0) (by decide +kernel) l0 f0 ?_
  refine go_getf (x := 250) (ci := 13) (kf := 95) (fin := 1) (t := 2) (by decide +kernel) (by decide +kernel) (by decide +kernel) R f0 (fx_k (c := 13) R (by decide +kernel)) fun v_1 f_2 => ?_
  have f_3 := q_is_eq (b := 145) f_2 (fx_v R (by decide +kernel)).symm
  refine go_iload_n (n := 1) (by decide +kernel) l1 f1 ?_
  refine go_iconst (n := 0) (z := 0) (by decide +kernel) (by decide) fun v_4 f_5 => ?_
  obtain ⟨g_6, h⟩ := gd_s h
  obtain ⟨m_7, e_8, h⟩ := up_s h
  refine go_iast (kd := 100) (by decide +kernel) rfl R f_3 f1 f_5 (fx_k (c := 100) R (by decide +kernel)) (fx_x (a := 145) (ln := 12) R (by decide +kernel) g_6) e_8 (fx_a R.2 (fx_k (c := 100) R (by decide +kernel)) (And.left (fx_x (a := 145) (ln := 12) R (by decide +kernel) g_6)) (by decide +kernel)) fun S_9 R_10 E_11 => ?_
  have E_13 := E_11
  refine go_aload_n (n := 0) (by decide +kernel) l0 f0 ?_
  refine go_getf (x := 259) (ci := 13) (kf := 98) (fin := 1) (t := 2) (by decide +kernel) (by decide +kernel) (by decide +kernel) R_10 f0 (fx_k (c := 13) R_10 (by decide +kernel)) fun v_14 f_15 => ?_
  have f_16 := q_is_eq (b := 148) f_15 (fx_v R_10 (by decide +kernel)).symm
  refine go_iload_n (n := 1) (by decide +kernel) l1 f1 ?_
  obtain ⟨x_20, e_21, h⟩ := lx_s h
  refine go_iald (kd := 100) (by decide +kernel) rfl R_10 f_16 f1 (fx_k (c := 100) R_10 (by decide +kernel)) (fx_x (a := 148) (ln := 12) R_10 (by decide +kernel) g_6) fun v_17 f_18 => ?_
  have f_19 := q_is_eq f_18 e_21
  refine go_iconst (n := (-1)) (z := (-1)) (by decide +kernel) (by decide) fun v_22 f_23 => ?_
  refine go_icmp (c := .ne) (o := 13) (t := 27) (P := ¬ (x_20 = (-1))) (by decide +kernel) (by decide +kernel) f_19 f_23 (Iff.rfl) (fun hp_24 => ?_) (fun hp_24 => ?_)
  · have h := it_f hp_24 h
    refine go_aload_n (n := 0) (by decide +kernel) l0 f0 ?_
    refine go_getf (x := 247) (ci := 13) (kf := 94) (fin := 1) (t := 2) (by decide +kernel) (by decide +kernel) (by decide +kernel) R_10 f0 (fx_k (c := 13) R_10 (by decide +kernel)) fun v_25 f_26 => ?_
    have f_27 := q_is_eq (b := 144) f_26 (fx_v R_10 (by decide +kernel)).symm
    refine go_iload_n (n := 1) (by decide +kernel) l1 f1 ?_
    refine go_aload_n (n := 0) (by decide +kernel) l0 f0 ?_
    refine go_getf (x := 275) (ci := 13) (kf := 104) (fin := 1) (t := 2) (by decide +kernel) (by decide +kernel) (by decide +kernel) R_10 f0 (fx_k (c := 13) R_10 (by decide +kernel)) fun v_28 f_29 => ?_
    have f_30 := q_is_eq (b := 153) f_29 (fx_v R_10 (by decide +kernel)).symm
    refine go_aload_n (n := 0) (by decide +kernel) l0 f0 ?_
    refine go_getf (x := 259) (ci := 13) (kf := 98) (fin := 1) (t := 2) (by decide +kernel) (by decide +kernel) (by decide +kernel) R_10 f0 (fx_k (c := 13) R_10 (by decide +kernel)) fun v_31 f_32 => ?_
    have f_33 := q_is_eq (b := 148) f_32 (fx_v R_10 (by decide +kernel)).symm
    refine go_iload_n (n := 1) (by decide +kernel) l1 f1 ?_
    refine go_iald (kd := 100) (by decide +kernel) rfl R_10 f_33 f1 (fx_k (c := 100) R_10 (by decide +kernel)) (fx_x (a := 148) (ln := 12) R_10 (by decide +kernel) g_6) fun v_34 f_35 => ?_
    have f_36 := q_is_eq f_35 e_21
    obtain ⟨g_39, h⟩ := gd_s h
    obtain ⟨x_41, e_42, h⟩ := lx_s h
    refine go_iald (kd := 100) (by decide +kernel) rfl R_10 f_30 f_36 (fx_k (c := 100) R_10 (by decide +kernel)) (fx_x (a := 153) (ln := 196608) R_10 (by decide +kernel) g_39) fun v_37 f_38 => ?_
    have f_40 := q_is_eq f_38 e_42
    refine go_bipush (n := 24) (z := 24) (by decide +kernel) (by decide) fun v_43 f_44 => ?_
    refine go_irem (by decide +kernel) f_40 f_44 (by decide) fun v_45 f_46 => ?_
    obtain ⟨m_47, e_48, h⟩ := up_s h
    refine go_iast (kd := 100) (by decide +kernel) rfl R_10 f_27 f1 f_46 (fx_k (c := 100) R_10 (by decide +kernel)) (fx_x (a := 144) (ln := 12) R_10 (by decide +kernel) g_6) e_48 (fx_a R_10.2 (fx_k (c := 100) R_10 (by decide +kernel)) (And.left (fx_x (a := 144) (ln := 12) R_10 (by decide +kernel) g_6)) (by decide +kernel)) fun S_49 R_50 E_51 => ?_
    have E_53 := Ext.tr E_13 E_51
    refine go_aload_n (n := 0) (by decide +kernel) l0 f0 ?_
    refine go_getf (x := 259) (ci := 13) (kf := 98) (fin := 1) (t := 2) (by decide +kernel) (by decide +kernel) (by decide +kernel) R_50 f0 (fx_k (c := 13) R_50 (by decide +kernel)) fun v_54 f_55 => ?_
    have f_56 := q_is_eq (b := 148) f_55 (fx_v R_50 (by decide +kernel)).symm
    refine go_iload_n (n := 1) (by decide +kernel) l1 f1 ?_
    refine go_aload_n (n := 0) (by decide +kernel) l0 f0 ?_
    refine go_getf (x := 275) (ci := 13) (kf := 104) (fin := 1) (t := 2) (by decide +kernel) (by decide +kernel) (by decide +kernel) R_50 f0 (fx_k (c := 13) R_50 (by decide +kernel)) fun v_57 f_58 => ?_
    have f_59 := q_is_eq (b := 153) f_58 (fx_v R_50 (by decide +kernel)).symm
    refine go_aload_n (n := 0) (by decide +kernel) l0 f0 ?_
    refine go_getf (x := 259) (ci := 13) (kf := 98) (fin := 1) (t := 2) (by decide +kernel) (by decide +kernel) (by decide +kernel) R_50 f0 (fx_k (c := 13) R_50 (by decide +kernel)) fun v_60 f_61 => ?_
    have f_62 := q_is_eq (b := 148) f_61 (fx_v R_50 (by decide +kernel)).symm
    refine go_iload_n (n := 1) (by decide +kernel) l1 f1 ?_
    obtain ⟨x_66, e_67, h⟩ := lx_s h
    refine go_iald (kd := 100) (by decide +kernel) rfl R_50 f_62 f1 (fx_k (c := 100) R_50 (by decide +kernel)) (fx_x (a := 148) (ln := 12) R_50 (by decide +kernel) g_6) fun v_63 f_64 => ?_
    have f_65 := q_is_eq f_64 e_67
    obtain ⟨g_70, h⟩ := gd_s h
    obtain ⟨x_72, e_73, h⟩ := lx_s h
    refine go_iald (kd := 100) (by decide +kernel) rfl R_50 f_59 f_65 (fx_k (c := 100) R_50 (by decide +kernel)) (fx_x (a := 153) (ln := 196608) R_50 (by decide +kernel) g_70) fun v_68 f_69 => ?_
    have f_71 := q_is_eq f_69 e_73
    refine go_bipush (n := 24) (z := 24) (by decide +kernel) (by decide) fun v_74 f_75 => ?_
    refine go_idiv (by decide +kernel) f_71 f_75 (by decide) fun v_76 f_77 => ?_
    refine go_iconst (n := 1) (z := 1) (by decide +kernel) (by decide) fun v_78 f_79 => ?_
    refine go_isub (by decide +kernel) f_77 f_79 fun v_80 f_81 => ?_
    obtain ⟨m_82, e_83, h⟩ := up_s h
    refine go_iast (kd := 100) (by decide +kernel) rfl R_50 f_56 f1 f_81 (fx_k (c := 100) R_50 (by decide +kernel)) (fx_x (a := 148) (ln := 12) R_50 (by decide +kernel) g_6) e_83 (fx_a R_50.2 (fx_k (c := 100) R_50 (by decide +kernel)) (And.left (fx_x (a := 148) (ln := 12) R_50 (by decide +kernel) g_6)) (by decide +kernel)) fun S_84 R_85 E_86 => ?_
    have E_88 := Ext.tr E_53 E_86
    cases h
    exact go_vret (by decide +kernel) rfl (hQ E_88 _ _ R_85 q_out_n)
  · have h := it_n hp_24 h
    refine go_aload_n (n := 0) (by decide +kernel) l0 f0 ?_
    refine go_bipush (n := 15) (z := 15) (by decide +kernel) (by decide) fun v_89 f_90 => ?_
    refine go_iconst (n := 0) (z := 0) (by decide +kernel) (by decide) fun v_91 f_92 => ?_
    obtain ⟨x_94, m_95, hc_93, h⟩ := bd_s h
    refine go_callV (x := 429) (mi := 225) (n := 2) (ci := 13) (as := [v_89, v_91]) (rest := []) (by decide +kernel) (by decide +kernel) rfl rfl (q_sum8 _ (Nat.le_of_ble_eq_true rfl)) R_10 f0 (fx_k (c := 13) R_10 (by decide +kernel)) (om_X12_endsRun (Nat.le_trans (by decide) hd) R_10 f0 f_90 f_92 hc_93) (fun _ S_98 q_101 => ?_) (fun _ _ qq => kr_x qq)
    refine kr_v q_101 fun R_99 E_100 => ?_
    have E_104 := Ext.tr E_13 E_100
    refine go_goto (o := 45) (t := 69) (by decide +kernel) (by decide +kernel) ?_
    cases h
    exact go_vret (by decide +kernel) rfl (hQ E_104 _ _ R_99 q_out_n)
noncomputable def fj_X12_lets_20 (y1 : Int) (m : MM) : Option (Int × MM) := gd (0 ≤ y1 ∧ y1 < 12) <| lx (m 146 y1) fun x_22 =>
bd (fm_X12_commands 11 x_22 0 m) fun x_27 m_28 =>
up m_28 145 y1 0 fun m_43 =>
some (0, m_43)
set_option maxHeartbeats 4000000 in
theorem oj_X12_lets_20 {xs : List Int32} {d : Nat} {S : QS} {L : QL} {Q : QO → QS → Prop} {m : MM} {y1 : Int} {v0 : Value} {v1 : Value}  {rz : Int} {rm : MM}
  (hd : 4 ≤ d) (R : Rp S m) (l0 : q_lo L 0 = some v0) (f0 : q_is 2 v0 68) (l1 : q_lo L 1 = some v1) (f1 : q_is 0 v1 y1)
  (hQ : Ext m rm → ∀ o S1, Rp S1 rm → q_out 9 o rz → Q o S1)
  (h : fj_X12_lets_20 y1 m = some (rz, rm)) : Go xs d qM_X12_lets 20 L [] S Q := by
  unfold fj_X12_lets_20 at h
  refine go_aload_n (n := 0) (by decide +kernel) l0 f0 ?_
  refine go_bipush (n := 11) (z := 11) (by decide +kernel) (by decide) fun v_13 f_14 => ?_
  refine go_aload_n (n := 0) (by decide +kernel) l0 f0 ?_
  refine go_getf (x := 253) (ci := 13) (kf := 96) (fin := 1) (t := 2) (by decide +kernel) (by decide +kernel) (by decide +kernel) R f0 (fx_k (c := 13) R (by decide +kernel)) fun v_15 f_16 => ?_
  have f_17 := q_is_eq (b := 146) f_16 (fx_v R (by decide +kernel)).symm
  refine go_iload_n (n := 1) (by decide +kernel) l1 f1 ?_
  obtain ⟨g_20, h⟩ := gd_s h
  obtain ⟨x_22, e_23, h⟩ := lx_s h
  refine go_iald (kd := 100) (by decide +kernel) rfl R f_17 f1 (fx_k (c := 100) R (by decide +kernel)) (fx_x (a := 146) (ln := 12) R (by decide +kernel) g_20) fun v_18 f_19 => ?_
  have f_21 := q_is_eq f_19 e_23
  refine go_iconst (n := 0) (z := 0) (by decide +kernel) (by decide) fun v_24 f_25 => ?_
  obtain ⟨x_27, m_28, hc_26, h⟩ := bd_s h
  refine go_callV (x := 425) (mi := 221) (n := 3) (ci := 13) (as := [v_13, v_18, v_24]) (rest := []) (by decide +kernel) (by decide +kernel) rfl rfl (q_sum8 _ (Nat.le_of_ble_eq_true rfl)) R f0 (fx_k (c := 13) R (by decide +kernel)) (om_X12_commands (Nat.le_trans (by decide) hd) R f0 f_14 f_21 f_25 hc_26) (fun _ S_31 q_34 => ?_) (fun _ _ qq => kr_x qq)
  refine kr_z (by decide) q_34 fun v_29 f_30 R_32 E_33 => ?_
  have E_37 := E_33
  refine go_pop (by decide +kernel) f_30 (Or.inl rfl) ?_
  refine go_aload_n (n := 0) (by decide +kernel) l0 f0 ?_
  refine go_getf (x := 250) (ci := 13) (kf := 95) (fin := 1) (t := 2) (by decide +kernel) (by decide +kernel) (by decide +kernel) R_32 f0 (fx_k (c := 13) R_32 (by decide +kernel)) fun v_38 f_39 => ?_
  have f_40 := q_is_eq (b := 145) f_39 (fx_v R_32 (by decide +kernel)).symm
  refine go_iload_n (n := 1) (by decide +kernel) l1 f1 ?_
  refine go_iconst (n := 0) (z := 0) (by decide +kernel) (by decide) fun v_41 f_42 => ?_
  obtain ⟨m_43, e_44, h⟩ := up_s h
  refine go_iast (kd := 100) (by decide +kernel) rfl R_32 f_40 f1 f_42 (fx_k (c := 100) R_32 (by decide +kernel)) (fx_x (a := 145) (ln := 12) R_32 (by decide +kernel) g_20) e_44 (fx_a R_32.2 (fx_k (c := 100) R_32 (by decide +kernel)) (And.left (fx_x (a := 145) (ln := 12) R_32 (by decide +kernel) g_20)) (by decide +kernel)) fun S_45 R_46 E_47 => ?_
  have E_49 := Ext.tr E_37 E_47
  cases h
  exact go_vret (by decide +kernel) rfl (hQ E_49 _ _ R_46 q_out_n)
noncomputable def fm_X12_lets (p1 : Int) (m0 : MM) : Option (Int × MM) := gd (0 ≤ p1 ∧ p1 < 12) <| lx (m0 145 p1) fun x_8 =>
if x_8 = 1 then
fj_X12_lets_20 p1 m0
else
if x_8 = 4 then
fj_X12_lets_20 p1 m0
else
up m0 145 p1 0 fun m_64 =>
some (0, m_64)
set_option maxHeartbeats 4000000 in
theorem om_X12_lets {xs : List Int32} {d : Nat} {S : QS} {m0 : MM} {p1 : Int} {v0 : Value} {v1 : Value} {rz : Int} {rm : MM}
  (hd : 5 ≤ d) (R : Rp S m0) (f0 : q_is 2 v0 68) (f1 : q_is 0 v1 p1)
  (h : fm_X12_lets p1 m0 = some (rz, rm)) : Mt xs d 228 [v0, v1] S (Cr 9 m0 rm rz) := by
  obtain ⟨d, rfl⟩ : ∃ e, d = e + 1 := ⟨d - 1, by omega⟩
  have hd : 4 ≤ d := Nat.le_of_succ_le_succ hd
  refine Mt.of (M := qM_X12_lets) rfl (by rw [sl_1 (q_is_cat f0 (Or.inr rfl)), sl_1 (q_is_cat f1 (Or.inl rfl)), sl_0]; decide) ?_
  rw [la_1 (q_is_cat f0 (Or.inr rfl)), la_1 (q_is_cat f1 (Or.inl rfl)), la_0]
  obtain ⟨L, hL⟩ : ∃ L : QL, L = [(0, v0), (0 + 1, v1)] := ⟨_, rfl⟩
  rw [← hL]
  have l0 : q_lo L 0 = some v0 := by rw [hL]; rfl
  have l1 : q_lo L 1 = some v1 := by rw [hL]; rfl
  have hQ : Ext m0 rm → ∀ o S1, Rp S1 rm → q_out 9 o rz → (Cr 9 m0 rm rz) o S1 := fun a o S1 b e => ⟨b, a, e⟩
  unfold fm_X12_lets at h
  refine go_aload_n (n := 0) (by decide +kernel) l0 f0 ?_
  refine go_getf (x := 250) (ci := 13) (kf := 95) (fin := 1) (t := 2) (by decide +kernel) (by decide +kernel) (by decide +kernel) R f0 (fx_k (c := 13) R (by decide +kernel)) fun v_1 f_2 => ?_
  have f_3 := q_is_eq (b := 145) f_2 (fx_v R (by decide +kernel)).symm
  refine go_iload_n (n := 1) (by decide +kernel) l1 f1 ?_
  obtain ⟨g_6, h⟩ := gd_s h
  obtain ⟨x_8, e_9, h⟩ := lx_s h
  refine go_iald (kd := 100) (by decide +kernel) rfl R f_3 f1 (fx_k (c := 100) R (by decide +kernel)) (fx_x (a := 145) (ln := 12) R (by decide +kernel) g_6) fun v_4 f_5 => ?_
  have f_7 := q_is_eq f_5 e_9
  refine go_iconst (n := 1) (z := 1) (by decide +kernel) (by decide) fun v_10 f_11 => ?_
  refine go_icmp (c := .eq) (o := 13) (t := 20) (P := x_8 = 1) (by decide +kernel) (by decide +kernel) f_7 f_11 (Iff.rfl) (fun hp_12 => ?_) (fun hp_12 => ?_)
  · have h := it_t hp_12 h
    exact oj_X12_lets_20 hd R l0 f0 l1 f1 hQ h
  · have h := it_f hp_12 h
    refine go_aload_n (n := 0) (by decide +kernel) l0 f0 ?_
    refine go_getf (x := 250) (ci := 13) (kf := 95) (fin := 1) (t := 2) (by decide +kernel) (by decide +kernel) (by decide +kernel) R f0 (fx_k (c := 13) R (by decide +kernel)) fun v_50 f_51 => ?_
    have f_52 := q_is_eq (b := 145) f_51 (fx_v R (by decide +kernel)).symm
    refine go_iload_n (n := 1) (by decide +kernel) l1 f1 ?_
    refine go_iald (kd := 100) (by decide +kernel) rfl R f_52 f1 (fx_k (c := 100) R (by decide +kernel)) (fx_x (a := 145) (ln := 12) R (by decide +kernel) g_6) fun v_53 f_54 => ?_
    have f_55 := q_is_eq f_54 e_9
    refine go_iconst (n := 4) (z := 4) (by decide +kernel) (by decide) fun v_56 f_57 => ?_
    refine go_icmp (c := .ne) (o := 17) (t := 34) (P := ¬ (x_8 = 4)) (by decide +kernel) (by decide +kernel) f_55 f_57 (Iff.rfl) (fun hp_58 => ?_) (fun hp_58 => ?_)
    · have h := it_f hp_58 h
      refine go_aload_n (n := 0) (by decide +kernel) l0 f0 ?_
      refine go_getf (x := 250) (ci := 13) (kf := 95) (fin := 1) (t := 2) (by decide +kernel) (by decide +kernel) (by decide +kernel) R f0 (fx_k (c := 13) R (by decide +kernel)) fun v_59 f_60 => ?_
      have f_61 := q_is_eq (b := 145) f_60 (fx_v R (by decide +kernel)).symm
      refine go_iload_n (n := 1) (by decide +kernel) l1 f1 ?_
      refine go_iconst (n := 0) (z := 0) (by decide +kernel) (by decide) fun v_62 f_63 => ?_
      obtain ⟨m_64, e_65, h⟩ := up_s h
      refine go_iast (kd := 100) (by decide +kernel) rfl R f_61 f1 f_63 (fx_k (c := 100) R (by decide +kernel)) (fx_x (a := 145) (ln := 12) R (by decide +kernel) g_6) e_65 (fx_a R.2 (fx_k (c := 100) R (by decide +kernel)) (And.left (fx_x (a := 145) (ln := 12) R (by decide +kernel) g_6)) (by decide +kernel)) fun S_66 R_67 E_68 => ?_
      have E_70 := E_68
      cases h
      exact go_vret (by decide +kernel) rfl (hQ E_70 _ _ R_67 q_out_n)
    · have h := it_n hp_58 h
      exact oj_X12_lets_20 hd R l0 f0 l1 f1 hQ h
end DF28
