/-! Methods as functions (written by wip/whole/dec.py), 28: X12_begins, X12_removes, X12_endsRun, X12_endsBranch, X12_failsBranch, X12_lets. -/
section DF28
noncomputable def fm_X12_begins (p1 p2 : Int) (m0 : MM) : Option (Int × MM) := lx (m0 68 91) fun x_4 =>
if x_4 = 12 then
bd (fm_X12_spins m0) fun x_173 m_174 =>
some (0, m_174)
else
lx (m0 68 92) fun x_18 =>
gd (0 ≤ x_4 ∧ x_4 < 12) <| up m0 143 x_4 x_18 fun m_21 =>
lx (m_21 68 92) fun x_33 =>
gd (0 ≤ x_33 ∧ x_33 < 196608) <| up m_21 152 x_33 p2 fun m_36 =>
lx (m_36 68 92) fun x_45 =>
up m_36 68 92 (w32 (x_45 + 1)) fun m_51 =>
lx (m_51 68 91) fun x_63 =>
gd (0 ≤ x_63 ∧ x_63 < 12) <| up m_51 144 x_63 p1 fun m_66 =>
lx (m_66 68 91) fun x_78 =>
gd (0 ≤ x_78 ∧ x_78 < 12) <| up m_66 145 x_78 0 fun m_83 =>
lx (m_83 68 91) fun x_95 =>
gd (0 ≤ x_95 ∧ x_95 < 12) <| up m_83 148 x_95 (-1) fun m_100 =>
lx (m_100 68 91) fun x_112 =>
gd (0 ≤ x_112 ∧ x_112 < 12) <| up m_100 149 x_112 (-1) fun m_117 =>
lx (m_117 68 91) fun x_129 =>
gd (0 ≤ x_129 ∧ x_129 < 12) <| up m_117 150 x_129 0 fun m_134 =>
lx (m_134 68 91) fun x_146 =>
gd (0 ≤ x_146 ∧ x_146 < 12) <| up m_134 151 x_146 0 fun m_151 =>
lx (m_151 68 91) fun x_160 =>
up m_151 68 91 (w32 (x_160 + 1)) fun m_166 =>
some (0, m_166)
set_option maxHeartbeats 4000000 in
theorem om_X12_begins {xs : List Int32} {d : Nat} {S : QS} {m0 : MM} {p1 p2 : Int} {v0 : Value} {v1 : Value} {v2 : Value} {rz : Int} {rm : MM}
  (hd : 2 ≤ d) (R : Rp S m0) (f0 : q_is 2 v0 68) (f1 : q_is 0 v1 p1) (f2 : q_is 0 v2 p2)
  (h : fm_X12_begins p1 p2 m0 = some (rz, rm)) : Mt xs d 223 [v0, v1, v2] S (Cr 9 m0 rm rz) := by
  obtain ⟨d, rfl⟩ : ∃ e, d = e + 1 := ⟨d - 1, by omega⟩
  have hd : 1 ≤ d := Nat.le_of_succ_le_succ hd
  refine Mt.of (M := qM_X12_begins) rfl (by rw [sl_1 (q_is_cat f0 (Or.inr rfl)), sl_1 (q_is_cat f1 (Or.inl rfl)), sl_1 (q_is_cat f2 (Or.inl rfl)), sl_0]; decide) ?_
  rw [la_1 (q_is_cat f0 (Or.inr rfl)), la_1 (q_is_cat f1 (Or.inl rfl)), la_1 (q_is_cat f2 (Or.inl rfl)), la_0]
  obtain ⟨L, hL⟩ : ∃ L : QL, L = [(0, v0), (0 + 1, v1), (0 + 1 + 1, v2)] := ⟨_, rfl⟩
  rw [← hL]
  have l0 : q_lo L 0 = some v0 := by rw [hL]; rfl
  have l1 : q_lo L 1 = some v1 := by rw [hL]; rfl
  have l2 : q_lo L 2 = some v2 := by rw [hL]; rfl
  have hQ : Ext m0 rm → ∀ o S1, Rp S1 rm → q_out 9 o rz → (Cr 9 m0 rm rz) o S1 := fun a o S1 b e => ⟨b, a, e⟩
  unfold fm_X12_begins at h
  refine go_aload_n (n := 0) (by decide +kernel) l0 f0 ?_
  obtain ⟨x_4, e_5, h⟩ := lx_s h
  refine go_getf (x := 368) (ci := 13) (kf := 91) (fin := 0) (t := 0) (by decide +kernel) (by decide +kernel) (by decide +kernel) R f0 (fx_k (c := 13) R (by decide +kernel)) fun v_1 f_2 => ?_
  have f_3 := q_is_eq f_2 e_5
  refine go_bipush (n := 12) (z := 12) (by decide +kernel) (by decide) fun v_6 f_7 => ?_
  refine go_icmp (c := .ne) (o := 8) (t := 14) (P := ¬ (x_4 = 12)) (by decide +kernel) (by decide +kernel) f_3 f_7 (Iff.rfl) (fun hp_8 => ?_) (fun hp_8 => ?_)
  · have h := it_f hp_8 h
    refine go_aload_n (n := 0) (by decide +kernel) l0 f0 ?_
    refine go_getf (x := 244) (ci := 13) (kf := 93) (fin := 1) (t := 2) (by decide +kernel) (by decide +kernel) (by decide +kernel) R f0 (fx_k (c := 13) R (by decide +kernel)) fun v_9 f_10 => ?_
    have f_11 := q_is_eq (b := 143) f_10 (fx_v R (by decide +kernel)).symm
    refine go_aload_n (n := 0) (by decide +kernel) l0 f0 ?_
    refine go_getf (x := 368) (ci := 13) (kf := 91) (fin := 0) (t := 0) (by decide +kernel) (by decide +kernel) (by decide +kernel) R f0 (fx_k (c := 13) R (by decide +kernel)) fun v_12 f_13 => ?_
    have f_14 := q_is_eq f_13 e_5
    refine go_aload_n (n := 0) (by decide +kernel) l0 f0 ?_
    obtain ⟨x_18, e_19, h⟩ := lx_s h
    refine go_getf (x := 422) (ci := 13) (kf := 92) (fin := 0) (t := 0) (by decide +kernel) (by decide +kernel) (by decide +kernel) R f0 (fx_k (c := 13) R (by decide +kernel)) fun v_15 f_16 => ?_
    have f_17 := q_is_eq f_16 e_19
    obtain ⟨g_20, h⟩ := gd_s h
    obtain ⟨m_21, e_22, h⟩ := up_s h
    refine go_iast (kd := 100) (by decide +kernel) rfl R f_11 f_14 f_17 (fx_k (c := 100) R (by decide +kernel)) (fx_x (a := 143) (ln := 12) R (by decide +kernel) g_20) e_22 (fx_a R.2 (fx_k (c := 100) R (by decide +kernel)) (And.left (fx_x (a := 143) (ln := 12) R (by decide +kernel) g_20)) (by decide +kernel)) fun S_23 R_24 E_25 => ?_
    have E_26 := E_25
    refine go_aload_n (n := 0) (by decide +kernel) l0 f0 ?_
    refine go_getf (x := 272) (ci := 13) (kf := 102) (fin := 1) (t := 2) (by decide +kernel) (by decide +kernel) (by decide +kernel) R_24 f0 (fx_k (c := 13) R_24 (by decide +kernel)) fun v_27 f_28 => ?_
    have f_29 := q_is_eq (b := 152) f_28 (fx_v R_24 (by decide +kernel)).symm
    refine go_aload_n (n := 0) (by decide +kernel) l0 f0 ?_
    obtain ⟨x_33, e_34, h⟩ := lx_s h
    refine go_getf (x := 422) (ci := 13) (kf := 92) (fin := 0) (t := 0) (by decide +kernel) (by decide +kernel) (by decide +kernel) R_24 f0 (fx_k (c := 13) R_24 (by decide +kernel)) fun v_30 f_31 => ?_
    have f_32 := q_is_eq f_31 e_34
    refine go_iload_n (n := 2) (by decide +kernel) l2 f2 ?_
    obtain ⟨g_35, h⟩ := gd_s h
    obtain ⟨m_36, e_37, h⟩ := up_s h
    refine go_iast (kd := 100) (by decide +kernel) rfl R_24 f_29 f_32 f2 (fx_k (c := 100) R_24 (by decide +kernel)) (fx_x (a := 152) (ln := 196608) R_24 (by decide +kernel) g_35) e_37 (fx_a R_24.2 (fx_k (c := 100) R_24 (by decide +kernel)) (And.left (fx_x (a := 152) (ln := 196608) R_24 (by decide +kernel) g_35)) (by decide +kernel)) fun S_38 R_39 E_40 => ?_
    have E_41 := Ext.tr E_26 E_40
    refine go_aload_n (n := 0) (by decide +kernel) l0 f0 ?_
    refine go_dup (by decide +kernel) f0 (Or.inr rfl) ?_
    obtain ⟨x_45, e_46, h⟩ := lx_s h
    refine go_getf (x := 422) (ci := 13) (kf := 92) (fin := 0) (t := 0) (by decide +kernel) (by decide +kernel) (by decide +kernel) R_39 f0 (fx_k (c := 13) R_39 (by decide +kernel)) fun v_42 f_43 => ?_
    have f_44 := q_is_eq f_43 e_46
    refine go_iconst (n := 1) (z := 1) (by decide +kernel) (by decide) fun v_47 f_48 => ?_
    refine go_iadd (by decide +kernel) f_44 f_48 fun v_49 f_50 => ?_
    obtain ⟨m_51, e_52, h⟩ := up_s h
    refine go_putf (x := 422) (ci := 13) (kf := 92) (fin := 0) (zt := 0) (by decide +kernel) (by decide +kernel) (by decide) (by decide +kernel) (by decide) (Or.inl rfl) R_39 f0 f_50 (fun hq => absurd hq (by decide)) (fx_k (c := 13) R_39 (by decide +kernel)) e_52 (fx_f (j := 92) R_39.2 (fx_k (c := 13) R_39 (by decide +kernel)) (by decide +kernel)) fun S_53 R_54 E_55 => ?_
    have E_56 := Ext.tr E_41 E_55
    refine go_aload_n (n := 0) (by decide +kernel) l0 f0 ?_
    refine go_getf (x := 247) (ci := 13) (kf := 94) (fin := 1) (t := 2) (by decide +kernel) (by decide +kernel) (by decide +kernel) R_54 f0 (fx_k (c := 13) R_54 (by decide +kernel)) fun v_57 f_58 => ?_
    have f_59 := q_is_eq (b := 144) f_58 (fx_v R_54 (by decide +kernel)).symm
    refine go_aload_n (n := 0) (by decide +kernel) l0 f0 ?_
    obtain ⟨x_63, e_64, h⟩ := lx_s h
    refine go_getf (x := 368) (ci := 13) (kf := 91) (fin := 0) (t := 0) (by decide +kernel) (by decide +kernel) (by decide +kernel) R_54 f0 (fx_k (c := 13) R_54 (by decide +kernel)) fun v_60 f_61 => ?_
    have f_62 := q_is_eq f_61 e_64
    refine go_iload_n (n := 1) (by decide +kernel) l1 f1 ?_
    obtain ⟨g_65, h⟩ := gd_s h
    obtain ⟨m_66, e_67, h⟩ := up_s h
    refine go_iast (kd := 100) (by decide +kernel) rfl R_54 f_59 f_62 f1 (fx_k (c := 100) R_54 (by decide +kernel)) (fx_x (a := 144) (ln := 12) R_54 (by decide +kernel) g_65) e_67 (fx_a R_54.2 (fx_k (c := 100) R_54 (by decide +kernel)) (And.left (fx_x (a := 144) (ln := 12) R_54 (by decide +kernel) g_65)) (by decide +kernel)) fun S_68 R_69 E_70 => ?_
    have E_71 := Ext.tr E_56 E_70
    refine go_aload_n (n := 0) (by decide +kernel) l0 f0 ?_
    refine go_getf (x := 250) (ci := 13) (kf := 95) (fin := 1) (t := 2) (by decide +kernel) (by decide +kernel) (by decide +kernel) R_69 f0 (fx_k (c := 13) R_69 (by decide +kernel)) fun v_72 f_73 => ?_
    have f_74 := q_is_eq (b := 145) f_73 (fx_v R_69 (by decide +kernel)).symm
    refine go_aload_n (n := 0) (by decide +kernel) l0 f0 ?_
    obtain ⟨x_78, e_79, h⟩ := lx_s h
    refine go_getf (x := 368) (ci := 13) (kf := 91) (fin := 0) (t := 0) (by decide +kernel) (by decide +kernel) (by decide +kernel) R_69 f0 (fx_k (c := 13) R_69 (by decide +kernel)) fun v_75 f_76 => ?_
    have f_77 := q_is_eq f_76 e_79
    refine go_iconst (n := 0) (z := 0) (by decide +kernel) (by decide) fun v_80 f_81 => ?_
    obtain ⟨g_82, h⟩ := gd_s h
    obtain ⟨m_83, e_84, h⟩ := up_s h
    refine go_iast (kd := 100) (by decide +kernel) rfl R_69 f_74 f_77 f_81 (fx_k (c := 100) R_69 (by decide +kernel)) (fx_x (a := 145) (ln := 12) R_69 (by decide +kernel) g_82) e_84 (fx_a R_69.2 (fx_k (c := 100) R_69 (by decide +kernel)) (And.left (fx_x (a := 145) (ln := 12) R_69 (by decide +kernel) g_82)) (by decide +kernel)) fun S_85 R_86 E_87 => ?_
    have E_88 := Ext.tr E_71 E_87
    refine go_aload_n (n := 0) (by decide +kernel) l0 f0 ?_
    refine go_getf (x := 259) (ci := 13) (kf := 98) (fin := 1) (t := 2) (by decide +kernel) (by decide +kernel) (by decide +kernel) R_86 f0 (fx_k (c := 13) R_86 (by decide +kernel)) fun v_89 f_90 => ?_
    have f_91 := q_is_eq (b := 148) f_90 (fx_v R_86 (by decide +kernel)).symm
    refine go_aload_n (n := 0) (by decide +kernel) l0 f0 ?_
    obtain ⟨x_95, e_96, h⟩ := lx_s h
    refine go_getf (x := 368) (ci := 13) (kf := 91) (fin := 0) (t := 0) (by decide +kernel) (by decide +kernel) (by decide +kernel) R_86 f0 (fx_k (c := 13) R_86 (by decide +kernel)) fun v_92 f_93 => ?_
    have f_94 := q_is_eq f_93 e_96
    refine go_iconst (n := (-1)) (z := (-1)) (by decide +kernel) (by decide) fun v_97 f_98 => ?_
    obtain ⟨g_99, h⟩ := gd_s h
    obtain ⟨m_100, e_101, h⟩ := up_s h
    refine go_iast (kd := 100) (by decide +kernel) rfl R_86 f_91 f_94 f_98 (fx_k (c := 100) R_86 (by decide +kernel)) (fx_x (a := 148) (ln := 12) R_86 (by decide +kernel) g_99) e_101 (fx_a R_86.2 (fx_k (c := 100) R_86 (by decide +kernel)) (And.left (fx_x (a := 148) (ln := 12) R_86 (by decide +kernel) g_99)) (by decide +kernel)) fun S_102 R_103 E_104 => ?_
    have E_105 := Ext.tr E_88 E_104
    refine go_aload_n (n := 0) (by decide +kernel) l0 f0 ?_
    refine go_getf (x := 262) (ci := 13) (kf := 99) (fin := 1) (t := 2) (by decide +kernel) (by decide +kernel) (by decide +kernel) R_103 f0 (fx_k (c := 13) R_103 (by decide +kernel)) fun v_106 f_107 => ?_
    have f_108 := q_is_eq (b := 149) f_107 (fx_v R_103 (by decide +kernel)).symm
    refine go_aload_n (n := 0) (by decide +kernel) l0 f0 ?_
    obtain ⟨x_112, e_113, h⟩ := lx_s h
    refine go_getf (x := 368) (ci := 13) (kf := 91) (fin := 0) (t := 0) (by decide +kernel) (by decide +kernel) (by decide +kernel) R_103 f0 (fx_k (c := 13) R_103 (by decide +kernel)) fun v_109 f_110 => ?_
    have f_111 := q_is_eq f_110 e_113
    refine go_iconst (n := (-1)) (z := (-1)) (by decide +kernel) (by decide) fun v_114 f_115 => ?_
    obtain ⟨g_116, h⟩ := gd_s h
    obtain ⟨m_117, e_118, h⟩ := up_s h
    refine go_iast (kd := 100) (by decide +kernel) rfl R_103 f_108 f_111 f_115 (fx_k (c := 100) R_103 (by decide +kernel)) (fx_x (a := 149) (ln := 12) R_103 (by decide +kernel) g_116) e_118 (fx_a R_103.2 (fx_k (c := 100) R_103 (by decide +kernel)) (And.left (fx_x (a := 149) (ln := 12) R_103 (by decide +kernel) g_116)) (by decide +kernel)) fun S_119 R_120 E_121 => ?_
    have E_122 := Ext.tr E_105 E_121
    refine go_aload_n (n := 0) (by decide +kernel) l0 f0 ?_
    refine go_getf (x := 265) (ci := 13) (kf := 100) (fin := 1) (t := 2) (by decide +kernel) (by decide +kernel) (by decide +kernel) R_120 f0 (fx_k (c := 13) R_120 (by decide +kernel)) fun v_123 f_124 => ?_
    have f_125 := q_is_eq (b := 150) f_124 (fx_v R_120 (by decide +kernel)).symm
    refine go_aload_n (n := 0) (by decide +kernel) l0 f0 ?_
    obtain ⟨x_129, e_130, h⟩ := lx_s h
    refine go_getf (x := 368) (ci := 13) (kf := 91) (fin := 0) (t := 0) (by decide +kernel) (by decide +kernel) (by decide +kernel) R_120 f0 (fx_k (c := 13) R_120 (by decide +kernel)) fun v_126 f_127 => ?_
    have f_128 := q_is_eq f_127 e_130
    refine go_iconst (n := 0) (z := 0) (by decide +kernel) (by decide) fun v_131 f_132 => ?_
    obtain ⟨g_133, h⟩ := gd_s h
    obtain ⟨m_134, e_135, h⟩ := up_s h
    refine go_iast (kd := 100) (by decide +kernel) rfl R_120 f_125 f_128 f_132 (fx_k (c := 100) R_120 (by decide +kernel)) (fx_x (a := 150) (ln := 12) R_120 (by decide +kernel) g_133) e_135 (fx_a R_120.2 (fx_k (c := 100) R_120 (by decide +kernel)) (And.left (fx_x (a := 150) (ln := 12) R_120 (by decide +kernel) g_133)) (by decide +kernel)) fun S_136 R_137 E_138 => ?_
    have E_139 := Ext.tr E_122 E_138
    refine go_aload_n (n := 0) (by decide +kernel) l0 f0 ?_
    refine go_getf (x := 268) (ci := 13) (kf := 101) (fin := 1) (t := 2) (by decide +kernel) (by decide +kernel) (by decide +kernel) R_137 f0 (fx_k (c := 13) R_137 (by decide +kernel)) fun v_140 f_141 => ?_
    have f_142 := q_is_eq (b := 151) f_141 (fx_v R_137 (by decide +kernel)).symm
    refine go_aload_n (n := 0) (by decide +kernel) l0 f0 ?_
    obtain ⟨x_146, e_147, h⟩ := lx_s h
    refine go_getf (x := 368) (ci := 13) (kf := 91) (fin := 0) (t := 0) (by decide +kernel) (by decide +kernel) (by decide +kernel) R_137 f0 (fx_k (c := 13) R_137 (by decide +kernel)) fun v_143 f_144 => ?_
    have f_145 := q_is_eq f_144 e_147
    refine go_iconst (n := 0) (z := 0) (by decide +kernel) (by decide) fun v_148 f_149 => ?_
    obtain ⟨g_150, h⟩ := gd_s h
    obtain ⟨m_151, e_152, h⟩ := up_s h
    refine go_bast (kd := 102) (by decide +kernel) rfl R_137 f_142 f_145 f_149 (by decide) (fx_k (c := 102) R_137 (by decide +kernel)) (fx_x (a := 151) (ln := 12) R_137 (by decide +kernel) g_150) e_152 (fx_a R_137.2 (fx_k (c := 102) R_137 (by decide +kernel)) (And.left (fx_x (a := 151) (ln := 12) R_137 (by decide +kernel) g_150)) (by decide +kernel)) fun S_153 R_154 E_155 => ?_
    have E_156 := Ext.tr E_139 E_155
    refine go_aload_n (n := 0) (by decide +kernel) l0 f0 ?_
    refine go_dup (by decide +kernel) f0 (Or.inr rfl) ?_
    obtain ⟨x_160, e_161, h⟩ := lx_s h
    refine go_getf (x := 368) (ci := 13) (kf := 91) (fin := 0) (t := 0) (by decide +kernel) (by decide +kernel) (by decide +kernel) R_154 f0 (fx_k (c := 13) R_154 (by decide +kernel)) fun v_157 f_158 => ?_
    have f_159 := q_is_eq f_158 e_161
    refine go_iconst (n := 1) (z := 1) (by decide +kernel) (by decide) fun v_162 f_163 => ?_
    refine go_iadd (by decide +kernel) f_159 f_163 fun v_164 f_165 => ?_
    obtain ⟨m_166, e_167, h⟩ := up_s h
    refine go_putf (x := 368) (ci := 13) (kf := 91) (fin := 0) (zt := 0) (by decide +kernel) (by decide +kernel) (by decide) (by decide +kernel) (by decide) (Or.inl rfl) R_154 f0 f_165 (fun hq => absurd hq (by decide)) (fx_k (c := 13) R_154 (by decide +kernel)) e_167 (fx_f (j := 91) R_154.2 (fx_k (c := 13) R_154 (by decide +kernel)) (by decide +kernel)) fun S_168 R_169 E_170 => ?_
    have E_171 := Ext.tr E_156 E_170
    cases h
    exact go_vret (by decide +kernel) rfl (hQ E_171 _ _ R_169 q_out_n)
  · have h := it_n hp_8 h
    refine go_aload_n (n := 0) (by decide +kernel) l0 f0 ?_
    obtain ⟨x_173, m_174, hc_172, h⟩ := bd_s h
    refine go_callV (x := 419) (mi := 217) (n := 0) (ci := 13) (as := []) (rest := []) (by decide +kernel) (by decide +kernel) rfl rfl (q_sum8 _ (Nat.le_of_ble_eq_true rfl)) R f0 (fx_k (c := 13) R (by decide +kernel)) (om_X12_spins (Nat.le_trans (by decide) hd) R f0 hc_172) (fun _ S_177 q_180 => ?_) (fun _ _ qq => kr_x qq)
    refine kr_v q_180 fun R_178 E_179 => ?_
    have E_181 := E_179
    cases h
    exact go_vret (by decide +kernel) rfl (hQ E_181 _ _ R_178 q_out_n)
noncomputable def fl_X12_removes_12 : Nat → Int → MM → Option (Int × MM)
  | 0, _, _ => none
  | n + 1, y2, m => lx (m 68 91) fun x_23 =>
if y2 < x_23 then
gd (0 ≤ w32 (y2 + 1) ∧ w32 (y2 + 1) < 12) <| lx (m 143 (w32 (y2 + 1))) fun x_40 =>
gd (0 ≤ y2 ∧ y2 < 12) <| up m 143 y2 x_40 fun m_43 =>
lx (m_43 144 (w32 (y2 + 1))) fun x_62 =>
up m_43 144 y2 x_62 fun m_64 =>
lx (m_64 145 (w32 (y2 + 1))) fun x_83 =>
up m_64 145 y2 x_83 fun m_85 =>
lx (m_85 146 (w32 (y2 + 1))) fun x_104 =>
up m_85 146 y2 x_104 fun m_106 =>
lx (m_106 147 (w32 (y2 + 1))) fun x_125 =>
up m_106 147 y2 x_125 fun m_127 =>
lx (m_127 148 (w32 (y2 + 1))) fun x_146 =>
up m_127 148 y2 x_146 fun m_148 =>
lx (m_148 149 (w32 (y2 + 1))) fun x_167 =>
up m_148 149 y2 x_167 fun m_169 =>
lx (m_169 150 (w32 (y2 + 1))) fun x_188 =>
up m_169 150 y2 x_188 fun m_190 =>
lx (m_190 151 (w32 (y2 + 1))) fun x_209 =>
gd (x_209 = 0 ∨ x_209 = 1) <| up m_190 151 y2 x_209 fun m_212 =>
lx (w32 (y2 + 1)) fun x_223 =>
fl_X12_removes_12 n x_223 m_212
else
some (0, m)
set_option maxHeartbeats 4000000 in
theorem ol_X12_removes_12 {xs : List Int32} {d : Nat} {Q : QO → QS → Prop} {mb : MM} {rz : Int} {rm : MM}
  (hd : 0 ≤ d)
  (hQ : Ext mb rm → ∀ o S1, Rp S1 rm → q_out 9 o rz → Q o S1) :
  ∀ (n : Nat) {m : MM} {S : QS} {L : QL} {y2 : Int} {v0 : Value} {v2 : Value} , Ext mb m → fl_X12_removes_12 n y2 m = some (rz, rm) → Rp S m → q_lo L 0 = some v0 → q_is 2 v0 68 → q_lo L 2 = some v2 → q_is 0 v2 y2 → Go xs d qM_X12_removes 12 L [] S Q := by
  intro n
  induction n with
  | zero => intro m S L y2 v0 v2; intro E h R l0 f0 l2 f2; cases h
  | succ n ih0 =>
    intro m S L y2 v0 v2; intro E h R l0 f0 l2 f2
    have ih : ∀ mq : MM, Ext mb mq → ∀ {z2 : Int} {Sq : QS} {Lq : QL} {u0 : Value} {u2 : Value}, fl_X12_removes_12 n z2 mq = some (rz, rm) → Rp Sq mq → q_lo Lq 0 = some u0 → q_is 2 u0 68 → q_lo Lq 2 = some u2 → q_is 0 u2 z2 → Go xs d qM_X12_removes 12 Lq [] Sq Q := fun mq b => by intros; exact ih0 b ‹_› ‹_› ‹_› ‹_› ‹_› ‹_›
    unfold fl_X12_removes_12 at h
    refine go_iload_n (n := 2) (by decide +kernel) l2 f2 ?_
    refine go_aload_n (n := 0) (by decide +kernel) l0 f0 ?_
    obtain ⟨x_23, e_24, h⟩ := lx_s h
    refine go_getf (x := 368) (ci := 13) (kf := 91) (fin := 0) (t := 0) (by decide +kernel) (by decide +kernel) (by decide +kernel) R f0 (fx_k (c := 13) R (by decide +kernel)) fun v_20 f_21 => ?_
    have f_22 := q_is_eq f_21 e_24
    refine go_icmp (c := .ge) (o := 135) (t := 152) (P := ¬ (y2 < x_23)) (by decide +kernel) (by decide +kernel) f2 f_22 (Int.not_lt.symm) (fun hp_25 => ?_) (fun hp_25 => ?_)
    · have h := it_f hp_25 h
      cases h
      exact go_vret (by decide +kernel) rfl (hQ E _ _ R q_out_n)
    · have h := it_n hp_25 h
      refine go_aload_n (n := 0) (by decide +kernel) l0 f0 ?_
      refine go_getf (x := 244) (ci := 13) (kf := 93) (fin := 1) (t := 2) (by decide +kernel) (by decide +kernel) (by decide +kernel) R f0 (fx_k (c := 13) R (by decide +kernel)) fun v_26 f_27 => ?_
      have f_28 := q_is_eq (b := 143) f_27 (fx_v R (by decide +kernel)).symm
      refine go_iload_n (n := 2) (by decide +kernel) l2 f2 ?_
      refine go_aload_n (n := 0) (by decide +kernel) l0 f0 ?_
      refine go_getf (x := 244) (ci := 13) (kf := 93) (fin := 1) (t := 2) (by decide +kernel) (by decide +kernel) (by decide +kernel) R f0 (fx_k (c := 13) R (by decide +kernel)) fun v_29 f_30 => ?_
      have f_31 := q_is_eq (b := 143) f_30 (fx_v R (by decide +kernel)).symm
      refine go_iload_n (n := 2) (by decide +kernel) l2 f2 ?_
      refine go_iconst (n := 1) (z := 1) (by decide +kernel) (by decide) fun v_32 f_33 => ?_
      refine go_iadd (by decide +kernel) f2 f_33 fun v_34 f_35 => ?_
      obtain ⟨g_38, h⟩ := gd_s h
      obtain ⟨x_40, e_41, h⟩ := lx_s h
      refine go_iald (kd := 100) (by decide +kernel) rfl R f_31 f_35 (fx_k (c := 100) R (by decide +kernel)) (fx_x (a := 143) (ln := 12) R (by decide +kernel) g_38) fun v_36 f_37 => ?_
      have f_39 := q_is_eq f_37 e_41
      obtain ⟨g_42, h⟩ := gd_s h
      obtain ⟨m_43, e_44, h⟩ := up_s h
      refine go_iast (kd := 100) (by decide +kernel) rfl R f_28 f2 f_39 (fx_k (c := 100) R (by decide +kernel)) (fx_x (a := 143) (ln := 12) R (by decide +kernel) g_42) e_44 (fx_a R.2 (fx_k (c := 100) R (by decide +kernel)) (And.left (fx_x (a := 143) (ln := 12) R (by decide +kernel) g_42)) (by decide +kernel)) fun S_45 R_46 E_47 => ?_
      have E_48 := Ext.tr E E_47
      refine go_aload_n (n := 0) (by decide +kernel) l0 f0 ?_
      refine go_getf (x := 247) (ci := 13) (kf := 94) (fin := 1) (t := 2) (by decide +kernel) (by decide +kernel) (by decide +kernel) R_46 f0 (fx_k (c := 13) R_46 (by decide +kernel)) fun v_49 f_50 => ?_
      have f_51 := q_is_eq (b := 144) f_50 (fx_v R_46 (by decide +kernel)).symm
      refine go_iload_n (n := 2) (by decide +kernel) l2 f2 ?_
      refine go_aload_n (n := 0) (by decide +kernel) l0 f0 ?_
      refine go_getf (x := 247) (ci := 13) (kf := 94) (fin := 1) (t := 2) (by decide +kernel) (by decide +kernel) (by decide +kernel) R_46 f0 (fx_k (c := 13) R_46 (by decide +kernel)) fun v_52 f_53 => ?_
      have f_54 := q_is_eq (b := 144) f_53 (fx_v R_46 (by decide +kernel)).symm
      refine go_iload_n (n := 2) (by decide +kernel) l2 f2 ?_
      refine go_iconst (n := 1) (z := 1) (by decide +kernel) (by decide) fun v_55 f_56 => ?_
      refine go_iadd (by decide +kernel) f2 f_56 fun v_57 f_58 => ?_
      obtain ⟨x_62, e_63, h⟩ := lx_s h
      refine go_iald (kd := 100) (by decide +kernel) rfl R_46 f_54 f_58 (fx_k (c := 100) R_46 (by decide +kernel)) (fx_x (a := 144) (ln := 12) R_46 (by decide +kernel) g_38) fun v_59 f_60 => ?_
      have f_61 := q_is_eq f_60 e_63
      obtain ⟨m_64, e_65, h⟩ := up_s h
      refine go_iast (kd := 100) (by decide +kernel) rfl R_46 f_51 f2 f_61 (fx_k (c := 100) R_46 (by decide +kernel)) (fx_x (a := 144) (ln := 12) R_46 (by decide +kernel) g_42) e_65 (fx_a R_46.2 (fx_k (c := 100) R_46 (by decide +kernel)) (And.left (fx_x (a := 144) (ln := 12) R_46 (by decide +kernel) g_42)) (by decide +kernel)) fun S_66 R_67 E_68 => ?_
      have E_69 := Ext.tr E_48 E_68
      refine go_aload_n (n := 0) (by decide +kernel) l0 f0 ?_
      refine go_getf (x := 250) (ci := 13) (kf := 95) (fin := 1) (t := 2) (by decide +kernel) (by decide +kernel) (by decide +kernel) R_67 f0 (fx_k (c := 13) R_67 (by decide +kernel)) fun v_70 f_71 => ?_
      have f_72 := q_is_eq (b := 145) f_71 (fx_v R_67 (by decide +kernel)).symm
      refine go_iload_n (n := 2) (by decide +kernel) l2 f2 ?_
      refine go_aload_n (n := 0) (by decide +kernel) l0 f0 ?_
      refine go_getf (x := 250) (ci := 13) (kf := 95) (fin := 1) (t := 2) (by decide +kernel) (by decide +kernel) (by decide +kernel) R_67 f0 (fx_k (c := 13) R_67 (by decide +kernel)) fun v_73 f_74 => ?_
      have f_75 := q_is_eq (b := 145) f_74 (fx_v R_67 (by decide +kernel)).symm
      refine go_iload_n (n := 2) (by decide +kernel) l2 f2 ?_
      refine go_iconst (n := 1) (z := 1) (by decide +kernel) (by decide) fun v_76 f_77 => ?_
      refine go_iadd (by decide +kernel) f2 f_77 fun v_78 f_79 => ?_
      obtain ⟨x_83, e_84, h⟩ := lx_s h
      refine go_iald (kd := 100) (by decide +kernel) rfl R_67 f_75 f_79 (fx_k (c := 100) R_67 (by decide +kernel)) (fx_x (a := 145) (ln := 12) R_67 (by decide +kernel) g_38) fun v_80 f_81 => ?_
      have f_82 := q_is_eq f_81 e_84
      obtain ⟨m_85, e_86, h⟩ := up_s h
      refine go_iast (kd := 100) (by decide +kernel) rfl R_67 f_72 f2 f_82 (fx_k (c := 100) R_67 (by decide +kernel)) (fx_x (a := 145) (ln := 12) R_67 (by decide +kernel) g_42) e_86 (fx_a R_67.2 (fx_k (c := 100) R_67 (by decide +kernel)) (And.left (fx_x (a := 145) (ln := 12) R_67 (by decide +kernel) g_42)) (by decide +kernel)) fun S_87 R_88 E_89 => ?_
      have E_90 := Ext.tr E_69 E_89
      refine go_aload_n (n := 0) (by decide +kernel) l0 f0 ?_
      refine go_getf (x := 253) (ci := 13) (kf := 96) (fin := 1) (t := 2) (by decide +kernel) (by decide +kernel) (by decide +kernel) R_88 f0 (fx_k (c := 13) R_88 (by decide +kernel)) fun v_91 f_92 => ?_
      have f_93 := q_is_eq (b := 146) f_92 (fx_v R_88 (by decide +kernel)).symm
      refine go_iload_n (n := 2) (by decide +kernel) l2 f2 ?_
      refine go_aload_n (n := 0) (by decide +kernel) l0 f0 ?_
      refine go_getf (x := 253) (ci := 13) (kf := 96) (fin := 1) (t := 2) (by decide +kernel) (by decide +kernel) (by decide +kernel) R_88 f0 (fx_k (c := 13) R_88 (by decide +kernel)) fun v_94 f_95 => ?_
      have f_96 := q_is_eq (b := 146) f_95 (fx_v R_88 (by decide +kernel)).symm
      refine go_iload_n (n := 2) (by decide +kernel) l2 f2 ?_
      refine go_iconst (n := 1) (z := 1) (by decide +kernel) (by decide) fun v_97 f_98 => ?_
      refine go_iadd (by decide +kernel) f2 f_98 fun v_99 f_100 => ?_
      obtain ⟨x_104, e_105, h⟩ := lx_s h
      refine go_iald (kd := 100) (by decide +kernel) rfl R_88 f_96 f_100 (fx_k (c := 100) R_88 (by decide +kernel)) (fx_x (a := 146) (ln := 12) R_88 (by decide +kernel) g_38) fun v_101 f_102 => ?_
      have f_103 := q_is_eq f_102 e_105
      obtain ⟨m_106, e_107, h⟩ := up_s h
      refine go_iast (kd := 100) (by decide +kernel) rfl R_88 f_93 f2 f_103 (fx_k (c := 100) R_88 (by decide +kernel)) (fx_x (a := 146) (ln := 12) R_88 (by decide +kernel) g_42) e_107 (fx_a R_88.2 (fx_k (c := 100) R_88 (by decide +kernel)) (And.left (fx_x (a := 146) (ln := 12) R_88 (by decide +kernel) g_42)) (by decide +kernel)) fun S_108 R_109 E_110 => ?_
      have E_111 := Ext.tr E_90 E_110
      refine go_aload_n (n := 0) (by decide +kernel) l0 f0 ?_
      refine go_getf (x := 256) (ci := 13) (kf := 97) (fin := 1) (t := 2) (by decide +kernel) (by decide +kernel) (by decide +kernel) R_109 f0 (fx_k (c := 13) R_109 (by decide +kernel)) fun v_112 f_113 => ?_
      have f_114 := q_is_eq (b := 147) f_113 (fx_v R_109 (by decide +kernel)).symm
      refine go_iload_n (n := 2) (by decide +kernel) l2 f2 ?_
      refine go_aload_n (n := 0) (by decide +kernel) l0 f0 ?_
      refine go_getf (x := 256) (ci := 13) (kf := 97) (fin := 1) (t := 2) (by decide +kernel) (by decide +kernel) (by decide +kernel) R_109 f0 (fx_k (c := 13) R_109 (by decide +kernel)) fun v_115 f_116 => ?_
      have f_117 := q_is_eq (b := 147) f_116 (fx_v R_109 (by decide +kernel)).symm
      refine go_iload_n (n := 2) (by decide +kernel) l2 f2 ?_
      refine go_iconst (n := 1) (z := 1) (by decide +kernel) (by decide) fun v_118 f_119 => ?_
      refine go_iadd (by decide +kernel) f2 f_119 fun v_120 f_121 => ?_
      obtain ⟨x_125, e_126, h⟩ := lx_s h
      refine go_iald (kd := 100) (by decide +kernel) rfl R_109 f_117 f_121 (fx_k (c := 100) R_109 (by decide +kernel)) (fx_x (a := 147) (ln := 12) R_109 (by decide +kernel) g_38) fun v_122 f_123 => ?_
      have f_124 := q_is_eq f_123 e_126
      obtain ⟨m_127, e_128, h⟩ := up_s h
      refine go_iast (kd := 100) (by decide +kernel) rfl R_109 f_114 f2 f_124 (fx_k (c := 100) R_109 (by decide +kernel)) (fx_x (a := 147) (ln := 12) R_109 (by decide +kernel) g_42) e_128 (fx_a R_109.2 (fx_k (c := 100) R_109 (by decide +kernel)) (And.left (fx_x (a := 147) (ln := 12) R_109 (by decide +kernel) g_42)) (by decide +kernel)) fun S_129 R_130 E_131 => ?_
      have E_132 := Ext.tr E_111 E_131
      refine go_aload_n (n := 0) (by decide +kernel) l0 f0 ?_
      refine go_getf (x := 259) (ci := 13) (kf := 98) (fin := 1) (t := 2) (by decide +kernel) (by decide +kernel) (by decide +kernel) R_130 f0 (fx_k (c := 13) R_130 (by decide +kernel)) fun v_133 f_134 => ?_
      have f_135 := q_is_eq (b := 148) f_134 (fx_v R_130 (by decide +kernel)).symm
      refine go_iload_n (n := 2) (by decide +kernel) l2 f2 ?_
      refine go_aload_n (n := 0) (by decide +kernel) l0 f0 ?_
      refine go_getf (x := 259) (ci := 13) (kf := 98) (fin := 1) (t := 2) (by decide +kernel) (by decide +kernel) (by decide +kernel) R_130 f0 (fx_k (c := 13) R_130 (by decide +kernel)) fun v_136 f_137 => ?_
      have f_138 := q_is_eq (b := 148) f_137 (fx_v R_130 (by decide +kernel)).symm
      refine go_iload_n (n := 2) (by decide +kernel) l2 f2 ?_
      refine go_iconst (n := 1) (z := 1) (by decide +kernel) (by decide) fun v_139 f_140 => ?_
      refine go_iadd (by decide +kernel) f2 f_140 fun v_141 f_142 => ?_
      obtain ⟨x_146, e_147, h⟩ := lx_s h
      refine go_iald (kd := 100) (by decide +kernel) rfl R_130 f_138 f_142 (fx_k (c := 100) R_130 (by decide +kernel)) (fx_x (a := 148) (ln := 12) R_130 (by decide +kernel) g_38) fun v_143 f_144 => ?_
      have f_145 := q_is_eq f_144 e_147
      obtain ⟨m_148, e_149, h⟩ := up_s h
      refine go_iast (kd := 100) (by decide +kernel) rfl R_130 f_135 f2 f_145 (fx_k (c := 100) R_130 (by decide +kernel)) (fx_x (a := 148) (ln := 12) R_130 (by decide +kernel) g_42) e_149 (fx_a R_130.2 (fx_k (c := 100) R_130 (by decide +kernel)) (And.left (fx_x (a := 148) (ln := 12) R_130 (by decide +kernel) g_42)) (by decide +kernel)) fun S_150 R_151 E_152 => ?_
      have E_153 := Ext.tr E_132 E_152
      refine go_aload_n (n := 0) (by decide +kernel) l0 f0 ?_
      refine go_getf (x := 262) (ci := 13) (kf := 99) (fin := 1) (t := 2) (by decide +kernel) (by decide +kernel) (by decide +kernel) R_151 f0 (fx_k (c := 13) R_151 (by decide +kernel)) fun v_154 f_155 => ?_
      have f_156 := q_is_eq (b := 149) f_155 (fx_v R_151 (by decide +kernel)).symm
      refine go_iload_n (n := 2) (by decide +kernel) l2 f2 ?_
      refine go_aload_n (n := 0) (by decide +kernel) l0 f0 ?_
      refine go_getf (x := 262) (ci := 13) (kf := 99) (fin := 1) (t := 2) (by decide +kernel) (by decide +kernel) (by decide +kernel) R_151 f0 (fx_k (c := 13) R_151 (by decide +kernel)) fun v_157 f_158 => ?_
      have f_159 := q_is_eq (b := 149) f_158 (fx_v R_151 (by decide +kernel)).symm
      refine go_iload_n (n := 2) (by decide +kernel) l2 f2 ?_
      refine go_iconst (n := 1) (z := 1) (by decide +kernel) (by decide) fun v_160 f_161 => ?_
      refine go_iadd (by decide +kernel) f2 f_161 fun v_162 f_163 => ?_
      obtain ⟨x_167, e_168, h⟩ := lx_s h
      refine go_iald (kd := 100) (by decide +kernel) rfl R_151 f_159 f_163 (fx_k (c := 100) R_151 (by decide +kernel)) (fx_x (a := 149) (ln := 12) R_151 (by decide +kernel) g_38) fun v_164 f_165 => ?_
      have f_166 := q_is_eq f_165 e_168
      obtain ⟨m_169, e_170, h⟩ := up_s h
      refine go_iast (kd := 100) (by decide +kernel) rfl R_151 f_156 f2 f_166 (fx_k (c := 100) R_151 (by decide +kernel)) (fx_x (a := 149) (ln := 12) R_151 (by decide +kernel) g_42) e_170 (fx_a R_151.2 (fx_k (c := 100) R_151 (by decide +kernel)) (And.left (fx_x (a := 149) (ln := 12) R_151 (by decide +kernel) g_42)) (by decide +kernel)) fun S_171 R_172 E_173 => ?_
      have E_174 := Ext.tr E_153 E_173
      refine go_aload_n (n := 0) (by decide +kernel) l0 f0 ?_
      refine go_getf (x := 265) (ci := 13) (kf := 100) (fin := 1) (t := 2) (by decide +kernel) (by decide +kernel) (by decide +kernel) R_172 f0 (fx_k (c := 13) R_172 (by decide +kernel)) fun v_175 f_176 => ?_
      have f_177 := q_is_eq (b := 150) f_176 (fx_v R_172 (by decide +kernel)).symm
      refine go_iload_n (n := 2) (by decide +kernel) l2 f2 ?_
      refine go_aload_n (n := 0) (by decide +kernel) l0 f0 ?_
      refine go_getf (x := 265) (ci := 13) (kf := 100) (fin := 1) (t := 2) (by decide +kernel) (by decide +kernel) (by decide +kernel) R_172 f0 (fx_k (c := 13) R_172 (by decide +kernel)) fun v_178 f_179 => ?_
      have f_180 := q_is_eq (b := 150) f_179 (fx_v R_172 (by decide +kernel)).symm
      refine go_iload_n (n := 2) (by decide +kernel) l2 f2 ?_
      refine go_iconst (n := 1) (z := 1) (by decide +kernel) (by decide) fun v_181 f_182 => ?_
      refine go_iadd (by decide +kernel) f2 f_182 fun v_183 f_184 => ?_
      obtain ⟨x_188, e_189, h⟩ := lx_s h
      refine go_iald (kd := 100) (by decide +kernel) rfl R_172 f_180 f_184 (fx_k (c := 100) R_172 (by decide +kernel)) (fx_x (a := 150) (ln := 12) R_172 (by decide +kernel) g_38) fun v_185 f_186 => ?_
      have f_187 := q_is_eq f_186 e_189
      obtain ⟨m_190, e_191, h⟩ := up_s h
      refine go_iast (kd := 100) (by decide +kernel) rfl R_172 f_177 f2 f_187 (fx_k (c := 100) R_172 (by decide +kernel)) (fx_x (a := 150) (ln := 12) R_172 (by decide +kernel) g_42) e_191 (fx_a R_172.2 (fx_k (c := 100) R_172 (by decide +kernel)) (And.left (fx_x (a := 150) (ln := 12) R_172 (by decide +kernel) g_42)) (by decide +kernel)) fun S_192 R_193 E_194 => ?_
      have E_195 := Ext.tr E_174 E_194
      refine go_aload_n (n := 0) (by decide +kernel) l0 f0 ?_
      refine go_getf (x := 268) (ci := 13) (kf := 101) (fin := 1) (t := 2) (by decide +kernel) (by decide +kernel) (by decide +kernel) R_193 f0 (fx_k (c := 13) R_193 (by decide +kernel)) fun v_196 f_197 => ?_
      have f_198 := q_is_eq (b := 151) f_197 (fx_v R_193 (by decide +kernel)).symm
      refine go_iload_n (n := 2) (by decide +kernel) l2 f2 ?_
      refine go_aload_n (n := 0) (by decide +kernel) l0 f0 ?_
      refine go_getf (x := 268) (ci := 13) (kf := 101) (fin := 1) (t := 2) (by decide +kernel) (by decide +kernel) (by decide +kernel) R_193 f0 (fx_k (c := 13) R_193 (by decide +kernel)) fun v_199 f_200 => ?_
      have f_201 := q_is_eq (b := 151) f_200 (fx_v R_193 (by decide +kernel)).symm
      refine go_iload_n (n := 2) (by decide +kernel) l2 f2 ?_
      refine go_iconst (n := 1) (z := 1) (by decide +kernel) (by decide) fun v_202 f_203 => ?_
      refine go_iadd (by decide +kernel) f2 f_203 fun v_204 f_205 => ?_
      obtain ⟨x_209, e_210, h⟩ := lx_s h
      refine go_bald (kd := 102) (by decide +kernel) rfl R_193 f_201 f_205 (fx_k (c := 102) R_193 (by decide +kernel)) (fx_x (a := 151) (ln := 12) R_193 (by decide +kernel) g_38) fun v_206 f_207 => ?_
      have f_208 := q_is_eq f_207 e_210
      obtain ⟨g_211, h⟩ := gd_s h
      obtain ⟨m_212, e_213, h⟩ := up_s h
      refine go_bast (kd := 102) (by decide +kernel) rfl R_193 f_198 f2 f_208 g_211 (fx_k (c := 102) R_193 (by decide +kernel)) (fx_x (a := 151) (ln := 12) R_193 (by decide +kernel) g_42) e_213 (fx_a R_193.2 (fx_k (c := 102) R_193 (by decide +kernel)) (And.left (fx_x (a := 151) (ln := 12) R_193 (by decide +kernel) g_42)) (by decide +kernel)) fun S_214 R_215 E_216 => ?_
      have E_217 := Ext.tr E_195 E_216
      refine go_iinc (n := 2) (c := 1) (c' := 1) (by decide +kernel) (by decide +kernel) l2 f2 (by decide) fun L_218 v_219 f_220 l_221 kp_222 => ?_
      obtain ⟨x_223, e_224, h⟩ := lx_s h
      have f_225 := q_is_eq f_220 e_224
      have l_226 := kp_222 0 _ l0 (by decide) (Or.inl (by decide))
      refine go_goto (o := (-137)) (t := 12) (by decide +kernel) (by decide +kernel) ?_
      exact ih m_212 E_217 h R_215 l_226 f0 l_221 f_225
noncomputable def fm_X12_removes (p1 : Int) (m0 : MM) : Option (Int × MM) := lx (m0 68 91) fun x_4 =>
up m0 68 91 (w32 (x_4 - 1)) fun m_10 =>
fl_X12_removes_12   BIG p1 m_10
set_option maxHeartbeats 4000000 in
theorem om_X12_removes {xs : List Int32} {d : Nat} {S : QS} {m0 : MM} {p1 : Int} {v0 : Value} {v1 : Value} {rz : Int} {rm : MM}
  (hd : 1 ≤ d) (R : Rp S m0) (f0 : q_is 2 v0 68) (f1 : q_is 0 v1 p1)
  (h : fm_X12_removes p1 m0 = some (rz, rm)) : Mt xs d 224 [v0, v1] S (Cr 9 m0 rm rz) := by
  obtain ⟨d, rfl⟩ : ∃ e, d = e + 1 := ⟨d - 1, by omega⟩
  have hd : 0 ≤ d := Nat.le_of_succ_le_succ hd
  refine Mt.of (M := qM_X12_removes) rfl (by rw [sl_1 (q_is_cat f0 (Or.inr rfl)), sl_1 (q_is_cat f1 (Or.inl rfl)), sl_0]; decide) ?_
  rw [la_1 (q_is_cat f0 (Or.inr rfl)), la_1 (q_is_cat f1 (Or.inl rfl)), la_0]
  obtain ⟨L, hL⟩ : ∃ L : QL, L = [(0, v0), (0 + 1, v1)] := ⟨_, rfl⟩
  rw [← hL]
  have l0 : q_lo L 0 = some v0 := by rw [hL]; rfl
  have l1 : q_lo L 1 = some v1 := by rw [hL]; rfl
  have hQ : Ext m0 rm → ∀ o S1, Rp S1 rm → q_out 9 o rz → (Cr 9 m0 rm rz) o S1 := fun a o S1 b e => ⟨b, a, e⟩
  unfold fm_X12_removes at h
  refine go_aload_n (n := 0) (by decide +kernel) l0 f0 ?_
  refine go_dup (by decide +kernel) f0 (Or.inr rfl) ?_
  obtain ⟨x_4, e_5, h⟩ := lx_s h
  refine go_getf (x := 368) (ci := 13) (kf := 91) (fin := 0) (t := 0) (by decide +kernel) (by decide +kernel) (by decide +kernel) R f0 (fx_k (c := 13) R (by decide +kernel)) fun v_1 f_2 => ?_
  have f_3 := q_is_eq f_2 e_5
  refine go_iconst (n := 1) (z := 1) (by decide +kernel) (by decide) fun v_6 f_7 => ?_
  refine go_isub (by decide +kernel) f_3 f_7 fun v_8 f_9 => ?_
  obtain ⟨m_10, e_11, h⟩ := up_s h
  refine go_putf (x := 368) (ci := 13) (kf := 91) (fin := 0) (zt := 0) (by decide +kernel) (by decide +kernel) (by decide) (by decide +kernel) (by decide) (Or.inl rfl) R f0 f_9 (fun hq => absurd hq (by decide)) (fx_k (c := 13) R (by decide +kernel)) e_11 (fx_f (j := 91) R.2 (fx_k (c := 13) R (by decide +kernel)) (by decide +kernel)) fun S_12 R_13 E_14 => ?_
  have E_15 := E_14
  refine go_iload_n (n := 1) (by decide +kernel) l1 f1 ?_
  refine go_istore_n (n := 2) (by decide +kernel) (by decide +kernel) f1 fun L_16 l_17 kp_18 => ?_
  have l_19 := kp_18 0 _ l0 (by decide) (Or.inl (by decide))
  refine ol_X12_removes_12 hd   (fun b => hQ (Ext.tr E_15 b)) BIG (Ext.rf _) h R_13 l_19 f0 l_17 f1
noncomputable def fm_X12_endsRun (p1 p2 : Int) (m0 : MM) : Option (Int × MM) := bd (fm_X12_commands p1 p2 0 m0) fun x_4 m_5 =>
lx (m_5 68 114) fun x_21 =>
if x_21 = 0 then
if x_4 < 0 then
some (0, m_5)
else
up m_5 68 112 p1 fun m_25 =>
some (0, m_25)
else
some (0, m_5)
set_option maxHeartbeats 4000000 in
theorem om_X12_endsRun {xs : List Int32} {d : Nat} {S : QS} {m0 : MM} {p1 p2 : Int} {v0 : Value} {v1 : Value} {v2 : Value} {rz : Int} {rm : MM}
  (hd : 5 ≤ d) (R : Rp S m0) (f0 : q_is 2 v0 68) (f1 : q_is 0 v1 p1) (f2 : q_is 0 v2 p2)
  (h : fm_X12_endsRun p1 p2 m0 = some (rz, rm)) : Mt xs d 225 [v0, v1, v2] S (Cr 9 m0 rm rz) := by
  obtain ⟨d, rfl⟩ : ∃ e, d = e + 1 := ⟨d - 1, by omega⟩
  have hd : 4 ≤ d := Nat.le_of_succ_le_succ hd
  refine Mt.of (M := qM_X12_endsRun) rfl (by rw [sl_1 (q_is_cat f0 (Or.inr rfl)), sl_1 (q_is_cat f1 (Or.inl rfl)), sl_1 (q_is_cat f2 (Or.inl rfl)), sl_0]; decide) ?_
  rw [la_1 (q_is_cat f0 (Or.inr rfl)), la_1 (q_is_cat f1 (Or.inl rfl)), la_1 (q_is_cat f2 (Or.inl rfl)), la_0]
  obtain ⟨L, hL⟩ : ∃ L : QL, L = [(0, v0), (0 + 1, v1), (0 + 1 + 1, v2)] := ⟨_, rfl⟩
  rw [← hL]
  have l0 : q_lo L 0 = some v0 := by rw [hL]; rfl
  have l1 : q_lo L 1 = some v1 := by rw [hL]; rfl
  have l2 : q_lo L 2 = some v2 := by rw [hL]; rfl
  have hQ : Ext m0 rm → ∀ o S1, Rp S1 rm → q_out 9 o rz → (Cr 9 m0 rm rz) o S1 := fun a o S1 b e => ⟨b, a, e⟩
  unfold fm_X12_endsRun at h
  refine go_aload_n (n := 0) (by decide +kernel) l0 f0 ?_
  refine go_iload_n (n := 1) (by decide +kernel) l1 f1 ?_
  refine go_iload_n (n := 2) (by decide +kernel) l2 f2 ?_
  refine go_iconst (n := 0) (z := 0) (by decide +kernel) (by decide) fun v_1 f_2 => ?_
  obtain ⟨x_4, m_5, hc_3, h⟩ := bd_s h
  refine go_callV (x := 425) (mi := 221) (n := 3) (ci := 13) (as := [v1, v2, v_1]) (rest := []) (by decide +kernel) (by decide +kernel) rfl rfl (q_sum8 _ (Nat.le_of_ble_eq_true rfl)) R f0 (fx_k (c := 13) R (by decide +kernel)) (om_X12_commands (Nat.le_trans (by decide) hd) R f0 f1 f2 f_2 hc_3) (fun _ S_8 q_11 => ?_) (fun _ _ qq => kr_x qq)
  refine kr_z (by decide) q_11 fun v_6 f_7 R_9 E_10 => ?_
  have E_12 := E_10
  refine go_istore_n (n := 3) (by decide +kernel) (by decide +kernel) f_7 fun L_13 l_14 kp_15 => ?_
  have l_16 := kp_15 0 _ l0 (by decide) (Or.inl (by decide))
  have l_17 := kp_15 1 _ l1 (by decide) (Or.inl (by decide))
  refine go_aload_n (n := 0) (by decide +kernel) l_16 f0 ?_
  obtain ⟨x_21, e_22, h⟩ := lx_s h
  refine go_getf (x := 374) (ci := 13) (kf := 114) (fin := 0) (t := 0) (by decide +kernel) (by decide +kernel) (by decide +kernel) R_9 f0 (fx_k (c := 13) R_9 (by decide +kernel)) fun v_18 f_19 => ?_
  have f_20 := q_is_eq f_19 e_22
  refine go_if (c := .ne) (o := 12) (t := 24) (P := ¬ (x_21 = 0)) (by decide +kernel) (by decide +kernel) f_20 (Iff.rfl) (fun hp_23 => ?_) (fun hp_23 => ?_)
  · have h := it_f hp_23 h
    cases h
    exact go_vret (by decide +kernel) rfl (hQ E_12 _ _ R_9 q_out_n)
  · have h := it_n hp_23 h
    refine go_iload_n (n := 3) (by decide +kernel) l_14 f_7 ?_
    refine go_if (c := .lt) (o := 8) (t := 24) (P := x_4 < 0) (by decide +kernel) (by decide +kernel) f_7 (Iff.rfl) (fun hp_24 => ?_) (fun hp_24 => ?_)
    · have h := it_t hp_24 h
      cases h
      exact go_vret (by decide +kernel) rfl (hQ E_12 _ _ R_9 q_out_n)
    · have h := it_f hp_24 h
      refine go_aload_n (n := 0) (by decide +kernel) l_16 f0 ?_
      refine go_iload_n (n := 1) (by decide +kernel) l_17 f1 ?_
      obtain ⟨m_25, e_26, h⟩ := up_s h
      refine go_putf (x := 371) (ci := 13) (kf := 112) (fin := 0) (zt := 0) (by decide +kernel) (by decide +kernel) (by decide) (by decide +kernel) (by decide) (Or.inl rfl) R_9 f0 f1 (fun hq => absurd hq (by decide)) (fx_k (c := 13) R_9 (by decide +kernel)) e_26 (fx_f (j := 112) R_9.2 (fx_k (c := 13) R_9 (by decide +kernel)) (by decide +kernel)) fun S_27 R_28 E_29 => ?_
      have E_30 := Ext.tr E_12 E_29
      cases h
      exact go_vret (by decide +kernel) rfl (hQ E_30 _ _ R_28 q_out_n)
noncomputable def fm_X12_endsBranch (p1 : Int) (m0 : MM) : Option (Int × MM) := gd (0 ≤ p1 ∧ p1 < 12) <| lx (m0 143 p1) fun x_8 =>
if x_8 = 0 then
lx (m0 142 0) fun x_31 =>
bd (fm_X12_endsRun 14 x_31 m0) fun x_34 m_35 =>
some (0, m_35)
else
bd (fm_X12_removes p1 m0) fun x_12 m_13 =>
some (0, m_13)
set_option maxHeartbeats 4000000 in
theorem om_X12_endsBranch {xs : List Int32} {d : Nat} {S : QS} {m0 : MM} {p1 : Int} {v0 : Value} {v1 : Value} {rz : Int} {rm : MM}
  (hd : 6 ≤ d) (R : Rp S m0) (f0 : q_is 2 v0 68) (f1 : q_is 0 v1 p1)
  (h : fm_X12_endsBranch p1 m0 = some (rz, rm)) : Mt xs d 226 [v0, v1] S (Cr 9 m0 rm rz) := by
  obtain ⟨d, rfl⟩ : ∃ e, d = e + 1 := ⟨d - 1, by omega⟩
  have hd : 5 ≤ d := Nat.le_of_succ_le_succ hd
  refine Mt.of (M := qM_X12_endsBranch) rfl (by rw [sl_1 (q_is_cat f0 (Or.inr rfl)), sl_1 (q_is_cat f1 (Or.inl rfl)), sl_0]; decide) ?_
  rw [la_1 (q_is_cat f0 (Or.inr rfl)), la_1 (q_is_cat f1 (Or.inl rfl)), la_0]
  obtain ⟨L, hL⟩ : ∃ L : QL, L = [(0, v0), (0 + 1, v1)] := ⟨_, rfl⟩
  rw [← hL]
  have l0 : q_lo L 0 = some v0 := by rw [hL]; rfl
  have l1 : q_lo L 1 = some v1 := by rw [hL]; rfl
  have hQ : Ext m0 rm → ∀ o S1, Rp S1 rm → q_out 9 o rz → (Cr 9 m0 rm rz) o S1 := fun a o S1 b e => ⟨b, a, e⟩
  unfold fm_X12_endsBranch at h
  refine go_aload_n (n := 0) (by decide +kernel) l0 f0 ?_
  refine go_getf (x := 244) (ci := 13) (kf := 93) (fin := 1) (t := 2) (by decide +kernel) (by decide +kernel) (by decide +kernel) R f0 (fx_k (c := 13) R (by decide +kernel)) fun v_1 f_2 => ?_
  have f_3 := q_is_eq (b := 143) f_2 (fx_v R (by decide +kernel)).symm
  refine go_iload_n (n := 1) (by decide +kernel) l1 f1 ?_
  obtain ⟨g_6, h⟩ := gd_s h
  obtain ⟨x_8, e_9, h⟩ := lx_s h
  refine go_iald (kd := 100) (by decide +kernel) rfl R f_3 f1 (fx_k (c := 100) R (by decide +kernel)) (fx_x (a := 143) (ln := 12) R (by decide +kernel) g_6) fun v_4 f_5 => ?_
  have f_7 := q_is_eq f_5 e_9
  refine go_if (c := .ne) (o := 18) (t := 24) (P := ¬ (x_8 = 0)) (by decide +kernel) (by decide +kernel) f_7 (Iff.rfl) (fun hp_10 => ?_) (fun hp_10 => ?_)
  · have h := it_f hp_10 h
    refine go_aload_n (n := 0) (by decide +kernel) l0 f0 ?_
    refine go_iload_n (n := 1) (by decide +kernel) l1 f1 ?_
    obtain ⟨x_12, m_13, hc_11, h⟩ := bd_s h
    refine go_callV (x := 433) (mi := 224) (n := 1) (ci := 13) (as := [v1]) (rest := []) (by decide +kernel) (by decide +kernel) rfl rfl (q_sum8 _ (Nat.le_of_ble_eq_true rfl)) R f0 (fx_k (c := 13) R (by decide +kernel)) (om_X12_removes (Nat.le_trans (by decide) hd) R f0 f1 hc_11) (fun _ S_16 q_19 => ?_) (fun _ _ qq => kr_x qq)
    refine kr_v q_19 fun R_17 E_18 => ?_
    have E_20 := E_18
    cases h
    exact go_vret (by decide +kernel) rfl (hQ E_20 _ _ R_17 q_out_n)
  · have h := it_n hp_10 h
    refine go_aload_n (n := 0) (by decide +kernel) l0 f0 ?_
    refine go_bipush (n := 14) (z := 14) (by decide +kernel) (by decide) fun v_21 f_22 => ?_
    refine go_aload_n (n := 0) (by decide +kernel) l0 f0 ?_
    refine go_getf (x := 241) (ci := 13) (kf := 90) (fin := 1) (t := 2) (by decide +kernel) (by decide +kernel) (by decide +kernel) R f0 (fx_k (c := 13) R (by decide +kernel)) fun v_23 f_24 => ?_
    have f_25 := q_is_eq (b := 142) f_24 (fx_v R (by decide +kernel)).symm
    refine go_iconst (n := 0) (z := 0) (by decide +kernel) (by decide) fun v_26 f_27 => ?_
    obtain ⟨x_31, e_32, h⟩ := lx_s h
    refine go_iald (kd := 100) (by decide +kernel) rfl R f_25 f_27 (fx_k (c := 100) R (by decide +kernel)) (fx_x (a := 142) (ln := 6) R (by decide +kernel) (by decide)) fun v_28 f_29 => ?_
    have f_30 := q_is_eq f_29 e_32
    obtain ⟨x_34, m_35, hc_33, h⟩ := bd_s h
    refine go_callV (x := 429) (mi := 225) (n := 2) (ci := 13) (as := [v_21, v_28]) (rest := []) (by decide +kernel) (by decide +kernel) rfl rfl (q_sum8 _ (Nat.le_of_ble_eq_true rfl)) R f0 (fx_k (c := 13) R (by decide +kernel)) (om_X12_endsRun (Nat.le_trans (by decide) hd) R f0 f_22 f_30 hc_33) (fun _ S_38 q_41 => ?_) (fun _ _ qq => kr_x qq)
    refine kr_v q_41 fun R_39 E_40 => ?_
    have E_42 := E_40
    refine go_goto (o := 8) (t := 29) (by decide +kernel) (by decide +kernel) ?_
    cases h
    exact go_vret (by decide +kernel) rfl (hQ E_42 _ _ R_39 q_out_n)
noncomputable def fm_X12_failsBranch (p1 : Int) (m0 : MM) : Option (Int × MM) := gd (0 ≤ p1 ∧ p1 < 12) <| up m0 145 p1 0 fun m_7 =>
lx (m_7 148 p1) fun x_19 =>
if x_19 = (-1) then
bd (fm_X12_endsRun 15 0 m_7) fun x_91 m_92 =>
some (0, m_92)
else
gd (0 ≤ x_19 ∧ x_19 < 196608) <| lx (m_7 153 x_19) fun x_40 =>
up m_7 144 p1 (Int.tmod x_40 24) fun m_46 =>
lx (m_46 148 p1) fun x_64 =>
gd (0 ≤ x_64 ∧ x_64 < 196608) <| lx (m_46 153 x_64) fun x_70 =>
up m_46 148 p1 (w32 ((w32 (Int.tdiv x_70 24)) - 1)) fun m_80 =>
some (0, m_80)
set_option maxHeartbeats 4000000 in
theorem om_X12_failsBranch {xs : List Int32} {d : Nat} {S : QS} {m0 : MM} {p1 : Int} {v0 : Value} {v1 : Value} {rz : Int} {rm : MM}
  (hd : 6 ≤ d) (R : Rp S m0) (f0 : q_is 2 v0 68) (f1 : q_is 0 v1 p1)
  (h : fm_X12_failsBranch p1 m0 = some (rz, rm)) : Mt xs d 227 [v0, v1] S (Cr 9 m0 rm rz) := by
  obtain ⟨d, rfl⟩ : ∃ e, d = e + 1 := ⟨d - 1, by omega⟩
  have hd : 5 ≤ d := Nat.le_of_succ_le_succ hd
  refine Mt.of (M := qM_X12_failsBranch) rfl (by rw [sl_1 (q_is_cat f0 (Or.inr rfl)), sl_1 (q_is_cat f1 (Or.inl rfl)), sl_0]; decide) ?_
  rw [la_1 (q_is_cat f0 (Or.inr rfl)), la_1 (q_is_cat f1 (Or.inl rfl)), la_0]
  obtain ⟨L, hL⟩ : ∃ L : QL, L = [(0, v0), (0 + 1, v1)] := ⟨_, rfl⟩
  rw [← hL]
  have l0 : q_lo L 0 = some v0 := by rw [hL]; rfl
  have l1 : q_lo L 1 = some v1 := by rw [hL]; rfl
  have hQ : Ext m0 rm → ∀ o S1, Rp S1 rm → q_out 9 o rz → (Cr 9 m0 rm rz) o S1 := fun a o S1 b e => ⟨b, a, e⟩
  unfold fm_X12_failsBranch at h
  refine go_aload_n (n := 0) (by decide +kernel) l0 f0 ?_
  refine go_getf (x := 250) (ci := 13) (kf := 95) (fin := 1) (t := 2) (by decide +kernel) (by decide +kernel) (by decide +kernel) R f0 (fx_k (c := 13) R (by decide +kernel)) fun v_1 f_2 => ?_
  have f_3 := q_is_eq (b := 145) f_2 (fx_v R (by decide +kernel)).symm
  refine go_iload_n (n := 1) (by decide +kernel) l1 f1 ?_
  refine go_iconst (n := 0) (z := 0) (by decide +kernel) (by decide) fun v_4 f_5 => ?_
  obtain ⟨g_6, h⟩ := gd_s h
  obtain ⟨m_7, e_8, h⟩ := up_s h
  refine go_iast (kd := 100) (by decide +kernel) rfl R f_3 f1 f_5 (fx_k (c := 100) R (by decide +kernel)) (fx_x (a := 145) (ln := 12) R (by decide +kernel) g_6) e_8 (fx_a R.2 (fx_k (c := 100) R (by decide +kernel)) (And.left (fx_x (a := 145) (ln := 12) R (by decide +kernel) g_6)) (by decide +kernel)) fun S_9 R_10 E_11 => ?_
  have E_12 := E_11
  refine go_aload_n (n := 0) (by decide +kernel) l0 f0 ?_
  refine go_getf (x := 259) (ci := 13) (kf := 98) (fin := 1) (t := 2) (by decide +kernel) (by decide +kernel) (by decide +kernel) R_10 f0 (fx_k (c := 13) R_10 (by decide +kernel)) fun v_13 f_14 => ?_
  have f_15 := q_is_eq (b := 148) f_14 (fx_v R_10 (by decide +kernel)).symm
  refine go_iload_n (n := 1) (by decide +kernel) l1 f1 ?_
  obtain ⟨x_19, e_20, h⟩ := lx_s h
  refine go_iald (kd := 100) (by decide +kernel) rfl R_10 f_15 f1 (fx_k (c := 100) R_10 (by decide +kernel)) (fx_x (a := 148) (ln := 12) R_10 (by decide +kernel) g_6) fun v_16 f_17 => ?_
  have f_18 := q_is_eq f_17 e_20
  refine go_iconst (n := (-1)) (z := (-1)) (by decide +kernel) (by decide) fun v_21 f_22 => ?_
  refine go_icmp (c := .ne) (o := 13) (t := 27) (P := ¬ (x_19 = (-1))) (by decide +kernel) (by decide +kernel) f_18 f_22 (Iff.rfl) (fun hp_23 => ?_) (fun hp_23 => ?_)
  · have h := it_f hp_23 h
    refine go_aload_n (n := 0) (by decide +kernel) l0 f0 ?_
    refine go_getf (x := 247) (ci := 13) (kf := 94) (fin := 1) (t := 2) (by decide +kernel) (by decide +kernel) (by decide +kernel) R_10 f0 (fx_k (c := 13) R_10 (by decide +kernel)) fun v_24 f_25 => ?_
    have f_26 := q_is_eq (b := 144) f_25 (fx_v R_10 (by decide +kernel)).symm
    refine go_iload_n (n := 1) (by decide +kernel) l1 f1 ?_
    refine go_aload_n (n := 0) (by decide +kernel) l0 f0 ?_
    refine go_getf (x := 275) (ci := 13) (kf := 104) (fin := 1) (t := 2) (by decide +kernel) (by decide +kernel) (by decide +kernel) R_10 f0 (fx_k (c := 13) R_10 (by decide +kernel)) fun v_27 f_28 => ?_
    have f_29 := q_is_eq (b := 153) f_28 (fx_v R_10 (by decide +kernel)).symm
    refine go_aload_n (n := 0) (by decide +kernel) l0 f0 ?_
    refine go_getf (x := 259) (ci := 13) (kf := 98) (fin := 1) (t := 2) (by decide +kernel) (by decide +kernel) (by decide +kernel) R_10 f0 (fx_k (c := 13) R_10 (by decide +kernel)) fun v_30 f_31 => ?_
    have f_32 := q_is_eq (b := 148) f_31 (fx_v R_10 (by decide +kernel)).symm
    refine go_iload_n (n := 1) (by decide +kernel) l1 f1 ?_
    refine go_iald (kd := 100) (by decide +kernel) rfl R_10 f_32 f1 (fx_k (c := 100) R_10 (by decide +kernel)) (fx_x (a := 148) (ln := 12) R_10 (by decide +kernel) g_6) fun v_33 f_34 => ?_
    have f_35 := q_is_eq f_34 e_20
    obtain ⟨g_38, h⟩ := gd_s h
    obtain ⟨x_40, e_41, h⟩ := lx_s h
    refine go_iald (kd := 100) (by decide +kernel) rfl R_10 f_29 f_35 (fx_k (c := 100) R_10 (by decide +kernel)) (fx_x (a := 153) (ln := 196608) R_10 (by decide +kernel) g_38) fun v_36 f_37 => ?_
    have f_39 := q_is_eq f_37 e_41
    refine go_bipush (n := 24) (z := 24) (by decide +kernel) (by decide) fun v_42 f_43 => ?_
    refine go_irem (by decide +kernel) f_39 f_43 (by decide) fun v_44 f_45 => ?_
    obtain ⟨m_46, e_47, h⟩ := up_s h
    refine go_iast (kd := 100) (by decide +kernel) rfl R_10 f_26 f1 f_45 (fx_k (c := 100) R_10 (by decide +kernel)) (fx_x (a := 144) (ln := 12) R_10 (by decide +kernel) g_6) e_47 (fx_a R_10.2 (fx_k (c := 100) R_10 (by decide +kernel)) (And.left (fx_x (a := 144) (ln := 12) R_10 (by decide +kernel) g_6)) (by decide +kernel)) fun S_48 R_49 E_50 => ?_
    have E_51 := Ext.tr E_12 E_50
    refine go_aload_n (n := 0) (by decide +kernel) l0 f0 ?_
    refine go_getf (x := 259) (ci := 13) (kf := 98) (fin := 1) (t := 2) (by decide +kernel) (by decide +kernel) (by decide +kernel) R_49 f0 (fx_k (c := 13) R_49 (by decide +kernel)) fun v_52 f_53 => ?_
    have f_54 := q_is_eq (b := 148) f_53 (fx_v R_49 (by decide +kernel)).symm
    refine go_iload_n (n := 1) (by decide +kernel) l1 f1 ?_
    refine go_aload_n (n := 0) (by decide +kernel) l0 f0 ?_
    refine go_getf (x := 275) (ci := 13) (kf := 104) (fin := 1) (t := 2) (by decide +kernel) (by decide +kernel) (by decide +kernel) R_49 f0 (fx_k (c := 13) R_49 (by decide +kernel)) fun v_55 f_56 => ?_
    have f_57 := q_is_eq (b := 153) f_56 (fx_v R_49 (by decide +kernel)).symm
    refine go_aload_n (n := 0) (by decide +kernel) l0 f0 ?_
    refine go_getf (x := 259) (ci := 13) (kf := 98) (fin := 1) (t := 2) (by decide +kernel) (by decide +kernel) (by decide +kernel) R_49 f0 (fx_k (c := 13) R_49 (by decide +kernel)) fun v_58 f_59 => ?_
    have f_60 := q_is_eq (b := 148) f_59 (fx_v R_49 (by decide +kernel)).symm
    refine go_iload_n (n := 1) (by decide +kernel) l1 f1 ?_
    obtain ⟨x_64, e_65, h⟩ := lx_s h
    refine go_iald (kd := 100) (by decide +kernel) rfl R_49 f_60 f1 (fx_k (c := 100) R_49 (by decide +kernel)) (fx_x (a := 148) (ln := 12) R_49 (by decide +kernel) g_6) fun v_61 f_62 => ?_
    have f_63 := q_is_eq f_62 e_65
    obtain ⟨g_68, h⟩ := gd_s h
    obtain ⟨x_70, e_71, h⟩ := lx_s h
    refine go_iald (kd := 100) (by decide +kernel) rfl R_49 f_57 f_63 (fx_k (c := 100) R_49 (by decide +kernel)) (fx_x (a := 153) (ln := 196608) R_49 (by decide +kernel) g_68) fun v_66 f_67 => ?_
    have f_69 := q_is_eq f_67 e_71
    refine go_bipush (n := 24) (z := 24) (by decide +kernel) (by decide) fun v_72 f_73 => ?_
    refine go_idiv (by decide +kernel) f_69 f_73 (by decide) fun v_74 f_75 => ?_
    refine go_iconst (n := 1) (z := 1) (by decide +kernel) (by decide) fun v_76 f_77 => ?_
    refine go_isub (by decide +kernel) f_75 f_77 fun v_78 f_79 => ?_
    obtain ⟨m_80, e_81, h⟩ := up_s h
    refine go_iast (kd := 100) (by decide +kernel) rfl R_49 f_54 f1 f_79 (fx_k (c := 100) R_49 (by decide +kernel)) (fx_x (a := 148) (ln := 12) R_49 (by decide +kernel) g_6) e_81 (fx_a R_49.2 (fx_k (c := 100) R_49 (by decide +kernel)) (And.left (fx_x (a := 148) (ln := 12) R_49 (by decide +kernel) g_6)) (by decide +kernel)) fun S_82 R_83 E_84 => ?_
    have E_85 := Ext.tr E_51 E_84
    cases h
    exact go_vret (by decide +kernel) rfl (hQ E_85 _ _ R_83 q_out_n)
  · have h := it_n hp_23 h
    refine go_aload_n (n := 0) (by decide +kernel) l0 f0 ?_
    refine go_bipush (n := 15) (z := 15) (by decide +kernel) (by decide) fun v_86 f_87 => ?_
    refine go_iconst (n := 0) (z := 0) (by decide +kernel) (by decide) fun v_88 f_89 => ?_
    obtain ⟨x_91, m_92, hc_90, h⟩ := bd_s h
    refine go_callV (x := 429) (mi := 225) (n := 2) (ci := 13) (as := [v_86, v_88]) (rest := []) (by decide +kernel) (by decide +kernel) rfl rfl (q_sum8 _ (Nat.le_of_ble_eq_true rfl)) R_10 f0 (fx_k (c := 13) R_10 (by decide +kernel)) (om_X12_endsRun (Nat.le_trans (by decide) hd) R_10 f0 f_87 f_89 hc_90) (fun _ S_95 q_98 => ?_) (fun _ _ qq => kr_x qq)
    refine kr_v q_98 fun R_96 E_97 => ?_
    have E_99 := Ext.tr E_12 E_97
    refine go_goto (o := 45) (t := 69) (by decide +kernel) (by decide +kernel) ?_
    cases h
    exact go_vret (by decide +kernel) rfl (hQ E_99 _ _ R_96 q_out_n)
noncomputable def fj_X12_lets_20 (y1 : Int) (m : MM) : Option (Int × MM) := gd (0 ≤ y1 ∧ y1 < 12) <| lx (m 146 y1) fun x_22 =>
bd (fm_X12_commands 11 x_22 0 m) fun x_27 m_28 =>
up m_28 145 y1 0 fun m_41 =>
some (0, m_41)
set_option maxHeartbeats 4000000 in
theorem oj_X12_lets_20 {xs : List Int32} {d : Nat} {S : QS} {L : QL} {Q : QO → QS → Prop} {m : MM} {y1 : Int} {v0 : Value} {v1 : Value}  {rz : Int} {rm : MM}
  (hd : 4 ≤ d) (R : Rp S m) (l0 : q_lo L 0 = some v0) (f0 : q_is 2 v0 68) (l1 : q_lo L 1 = some v1) (f1 : q_is 0 v1 y1)
  (hQ : Ext m rm → ∀ o S1, Rp S1 rm → q_out 9 o rz → Q o S1)
  (h : fj_X12_lets_20 y1 m = some (rz, rm)) : Go xs d qM_X12_lets 20 L [] S Q := by
  unfold fj_X12_lets_20 at h
  refine go_aload_n (n := 0) (by decide +kernel) l0 f0 ?_
  refine go_bipush (n := 11) (z := 11) (by decide +kernel) (by decide) fun v_13 f_14 => ?_
  refine go_aload_n (n := 0) (by decide +kernel) l0 f0 ?_
  refine go_getf (x := 253) (ci := 13) (kf := 96) (fin := 1) (t := 2) (by decide +kernel) (by decide +kernel) (by decide +kernel) R f0 (fx_k (c := 13) R (by decide +kernel)) fun v_15 f_16 => ?_
  have f_17 := q_is_eq (b := 146) f_16 (fx_v R (by decide +kernel)).symm
  refine go_iload_n (n := 1) (by decide +kernel) l1 f1 ?_
  obtain ⟨g_20, h⟩ := gd_s h
  obtain ⟨x_22, e_23, h⟩ := lx_s h
  refine go_iald (kd := 100) (by decide +kernel) rfl R f_17 f1 (fx_k (c := 100) R (by decide +kernel)) (fx_x (a := 146) (ln := 12) R (by decide +kernel) g_20) fun v_18 f_19 => ?_
  have f_21 := q_is_eq f_19 e_23
  refine go_iconst (n := 0) (z := 0) (by decide +kernel) (by decide) fun v_24 f_25 => ?_
  obtain ⟨x_27, m_28, hc_26, h⟩ := bd_s h
  refine go_callV (x := 425) (mi := 221) (n := 3) (ci := 13) (as := [v_13, v_18, v_24]) (rest := []) (by decide +kernel) (by decide +kernel) rfl rfl (q_sum8 _ (Nat.le_of_ble_eq_true rfl)) R f0 (fx_k (c := 13) R (by decide +kernel)) (om_X12_commands (Nat.le_trans (by decide) hd) R f0 f_14 f_21 f_25 hc_26) (fun _ S_31 q_34 => ?_) (fun _ _ qq => kr_x qq)
  refine kr_z (by decide) q_34 fun v_29 f_30 R_32 E_33 => ?_
  have E_35 := E_33
  refine go_pop (by decide +kernel) f_30 (Or.inl rfl) ?_
  refine go_aload_n (n := 0) (by decide +kernel) l0 f0 ?_
  refine go_getf (x := 250) (ci := 13) (kf := 95) (fin := 1) (t := 2) (by decide +kernel) (by decide +kernel) (by decide +kernel) R_32 f0 (fx_k (c := 13) R_32 (by decide +kernel)) fun v_36 f_37 => ?_
  have f_38 := q_is_eq (b := 145) f_37 (fx_v R_32 (by decide +kernel)).symm
  refine go_iload_n (n := 1) (by decide +kernel) l1 f1 ?_
  refine go_iconst (n := 0) (z := 0) (by decide +kernel) (by decide) fun v_39 f_40 => ?_
  obtain ⟨m_41, e_42, h⟩ := up_s h
  refine go_iast (kd := 100) (by decide +kernel) rfl R_32 f_38 f1 f_40 (fx_k (c := 100) R_32 (by decide +kernel)) (fx_x (a := 145) (ln := 12) R_32 (by decide +kernel) g_20) e_42 (fx_a R_32.2 (fx_k (c := 100) R_32 (by decide +kernel)) (And.left (fx_x (a := 145) (ln := 12) R_32 (by decide +kernel) g_20)) (by decide +kernel)) fun S_43 R_44 E_45 => ?_
  have E_46 := Ext.tr E_35 E_45
  cases h
  exact go_vret (by decide +kernel) rfl (hQ E_46 _ _ R_44 q_out_n)
noncomputable def fm_X12_lets (p1 : Int) (m0 : MM) : Option (Int × MM) := gd (0 ≤ p1 ∧ p1 < 12) <| lx (m0 145 p1) fun x_8 =>
if x_8 = 1 then
fj_X12_lets_20 p1 m0
else
if x_8 = 4 then
fj_X12_lets_20 p1 m0
else
up m0 145 p1 0 fun m_61 =>
some (0, m_61)
set_option maxHeartbeats 4000000 in
theorem om_X12_lets {xs : List Int32} {d : Nat} {S : QS} {m0 : MM} {p1 : Int} {v0 : Value} {v1 : Value} {rz : Int} {rm : MM}
  (hd : 5 ≤ d) (R : Rp S m0) (f0 : q_is 2 v0 68) (f1 : q_is 0 v1 p1)
  (h : fm_X12_lets p1 m0 = some (rz, rm)) : Mt xs d 228 [v0, v1] S (Cr 9 m0 rm rz) := by
  obtain ⟨d, rfl⟩ : ∃ e, d = e + 1 := ⟨d - 1, by omega⟩
  have hd : 4 ≤ d := Nat.le_of_succ_le_succ hd
  refine Mt.of (M := qM_X12_lets) rfl (by rw [sl_1 (q_is_cat f0 (Or.inr rfl)), sl_1 (q_is_cat f1 (Or.inl rfl)), sl_0]; decide) ?_
  rw [la_1 (q_is_cat f0 (Or.inr rfl)), la_1 (q_is_cat f1 (Or.inl rfl)), la_0]
  obtain ⟨L, hL⟩ : ∃ L : QL, L = [(0, v0), (0 + 1, v1)] := ⟨_, rfl⟩
  rw [← hL]
  have l0 : q_lo L 0 = some v0 := by rw [hL]; rfl
  have l1 : q_lo L 1 = some v1 := by rw [hL]; rfl
  have hQ : Ext m0 rm → ∀ o S1, Rp S1 rm → q_out 9 o rz → (Cr 9 m0 rm rz) o S1 := fun a o S1 b e => ⟨b, a, e⟩
  unfold fm_X12_lets at h
  refine go_aload_n (n := 0) (by decide +kernel) l0 f0 ?_
  refine go_getf (x := 250) (ci := 13) (kf := 95) (fin := 1) (t := 2) (by decide +kernel) (by decide +kernel) (by decide +kernel) R f0 (fx_k (c := 13) R (by decide +kernel)) fun v_1 f_2 => ?_
  have f_3 := q_is_eq (b := 145) f_2 (fx_v R (by decide +kernel)).symm
  refine go_iload_n (n := 1) (by decide +kernel) l1 f1 ?_
  obtain ⟨g_6, h⟩ := gd_s h
  obtain ⟨x_8, e_9, h⟩ := lx_s h
  refine go_iald (kd := 100) (by decide +kernel) rfl R f_3 f1 (fx_k (c := 100) R (by decide +kernel)) (fx_x (a := 145) (ln := 12) R (by decide +kernel) g_6) fun v_4 f_5 => ?_
  have f_7 := q_is_eq f_5 e_9
  refine go_iconst (n := 1) (z := 1) (by decide +kernel) (by decide) fun v_10 f_11 => ?_
  refine go_icmp (c := .eq) (o := 13) (t := 20) (P := x_8 = 1) (by decide +kernel) (by decide +kernel) f_7 f_11 (Iff.rfl) (fun hp_12 => ?_) (fun hp_12 => ?_)
  · have h := it_t hp_12 h
    exact oj_X12_lets_20 hd R l0 f0 l1 f1 hQ h
  · have h := it_f hp_12 h
    refine go_aload_n (n := 0) (by decide +kernel) l0 f0 ?_
    refine go_getf (x := 250) (ci := 13) (kf := 95) (fin := 1) (t := 2) (by decide +kernel) (by decide +kernel) (by decide +kernel) R f0 (fx_k (c := 13) R (by decide +kernel)) fun v_47 f_48 => ?_
    have f_49 := q_is_eq (b := 145) f_48 (fx_v R (by decide +kernel)).symm
    refine go_iload_n (n := 1) (by decide +kernel) l1 f1 ?_
    refine go_iald (kd := 100) (by decide +kernel) rfl R f_49 f1 (fx_k (c := 100) R (by decide +kernel)) (fx_x (a := 145) (ln := 12) R (by decide +kernel) g_6) fun v_50 f_51 => ?_
    have f_52 := q_is_eq f_51 e_9
    refine go_iconst (n := 4) (z := 4) (by decide +kernel) (by decide) fun v_53 f_54 => ?_
    refine go_icmp (c := .ne) (o := 17) (t := 34) (P := ¬ (x_8 = 4)) (by decide +kernel) (by decide +kernel) f_52 f_54 (Iff.rfl) (fun hp_55 => ?_) (fun hp_55 => ?_)
    · have h := it_f hp_55 h
      refine go_aload_n (n := 0) (by decide +kernel) l0 f0 ?_
      refine go_getf (x := 250) (ci := 13) (kf := 95) (fin := 1) (t := 2) (by decide +kernel) (by decide +kernel) (by decide +kernel) R f0 (fx_k (c := 13) R (by decide +kernel)) fun v_56 f_57 => ?_
      have f_58 := q_is_eq (b := 145) f_57 (fx_v R (by decide +kernel)).symm
      refine go_iload_n (n := 1) (by decide +kernel) l1 f1 ?_
      refine go_iconst (n := 0) (z := 0) (by decide +kernel) (by decide) fun v_59 f_60 => ?_
      obtain ⟨m_61, e_62, h⟩ := up_s h
      refine go_iast (kd := 100) (by decide +kernel) rfl R f_58 f1 f_60 (fx_k (c := 100) R (by decide +kernel)) (fx_x (a := 145) (ln := 12) R (by decide +kernel) g_6) e_62 (fx_a R.2 (fx_k (c := 100) R (by decide +kernel)) (And.left (fx_x (a := 145) (ln := 12) R (by decide +kernel) g_6)) (by decide +kernel)) fun S_63 R_64 E_65 => ?_
      have E_66 := E_65
      cases h
      exact go_vret (by decide +kernel) rfl (hQ E_66 _ _ R_64 q_out_n)
    · have h := it_n hp_55 h
      exact oj_X12_lets_20 hd R l0 f0 l1 f1 hQ h
end DF28
