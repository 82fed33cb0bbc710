/-! Methods as functions (written by wip/whole/dec.py), 25: X12_deploy, X12_setKind, X12_setPolicy, X12_at. -/
section DF25
noncomputable def fl_X12_deploy_71 (y1 y3 y4 : Int) (k149 : MM → Option (Int × MM)) : Nat → Int → MM → Option (Int × MM)
  | 0, _, _ => none
  | n + 1, y5, m => gd (0 ≤ w32 ((w32 (5 * y1)) + 4) ∧ w32 ((w32 (5 * y1)) + 4) < 20) <| lx (m 70 (w32 ((w32 (5 * y1)) + 4))) fun x_111 =>
if y5 < x_111 then
gd (0 ≤ w32 (y3 + y5) ∧ w32 (y3 + y5) < 480) <| lx (m 71 (w32 (y3 + y5))) fun x_128 =>
gd (0 ≤ w32 (y4 + y5) ∧ w32 (y4 + y5) < 480) <| up m 71 (w32 (y4 + y5)) x_128 fun m_131 =>
lx (m_131 72 (w32 (y3 + y5))) fun x_150 =>
up m_131 72 (w32 (y4 + y5)) x_150 fun m_152 =>
lx (m_152 73 (w32 (y3 + y5))) fun x_171 =>
up m_152 73 (w32 (y4 + y5)) x_171 fun m_173 =>
lx (w32 (y5 + 1)) fun x_184 =>
fl_X12_deploy_71 y1 y3 y4 k149 n x_184 m_173
else
k149 m
set_option maxHeartbeats 4000000 in
theorem ol_X12_deploy_71 {xs : List Int32} {d : Nat} {Q : QO → QS → Prop} {mb : MM} {y1 y3 y4 : Int} {k149 : MM → Option (Int × MM)} {rz : Int} {rm : MM}
  (hd : 2 ≤ d)
  (hk149 : ∀ mq : MM, Ext mb mq → ∀ {Sq : QS} {Lq : QL} {u0 : Value} {u1 : Value}, k149 mq = some (rz, rm) → Rp Sq mq → q_lo Lq 0 = some u0 → q_is 2 u0 68 → q_lo Lq 1 = some u1 → q_is 0 u1 y1 → Go xs d qM_X12_deploy 149 Lq [] Sq Q)
  (hQ : Ext mb rm → ∀ o S1, Rp S1 rm → q_out 0 o rz → Q o S1) :
  ∀ (n : Nat) {m : MM} {S : QS} {L : QL} {y5 : Int} {v0 : Value} {v1 : Value} {v3 : Value} {v4 : Value} {v5 : Value} , Ext mb m → fl_X12_deploy_71 y1 y3 y4 k149 n y5 m = some (rz, rm) → Rp S m → q_lo L 0 = some v0 → q_is 2 v0 68 → q_lo L 1 = some v1 → q_is 0 v1 y1 → q_lo L 3 = some v3 → q_is 0 v3 y3 → q_lo L 4 = some v4 → q_is 0 v4 y4 → q_lo L 5 = some v5 → q_is 0 v5 y5 → Go xs d qM_X12_deploy 71 L [] S Q := by
  intro n
  induction n with
  | zero => intro m S L y5 v0 v1 v3 v4 v5; intro E h R l0 f0 l1 f1 l3 f3 l4 f4 l5 f5; cases h
  | succ n ih0 =>
    intro m S L y5 v0 v1 v3 v4 v5; intro E h R l0 f0 l1 f1 l3 f3 l4 f4 l5 f5
    have ih : ∀ mq : MM, Ext mb mq → ∀ {z5 : Int} {Sq : QS} {Lq : QL} {u0 : Value} {u1 : Value} {u3 : Value} {u4 : Value} {u5 : Value}, fl_X12_deploy_71 y1 y3 y4 k149 n z5 mq = some (rz, rm) → Rp Sq mq → q_lo Lq 0 = some u0 → q_is 2 u0 68 → q_lo Lq 1 = some u1 → q_is 0 u1 y1 → q_lo Lq 3 = some u3 → q_is 0 u3 y3 → q_lo Lq 4 = some u4 → q_is 0 u4 y4 → q_lo Lq 5 = some u5 → q_is 0 u5 z5 → Go xs d qM_X12_deploy 71 Lq [] Sq Q := fun mq b => by intros; exact ih0 b ‹_› ‹_› ‹_› ‹_› ‹_› ‹_› ‹_› ‹_› ‹_› ‹_› ‹_› ‹_›
    unfold fl_X12_deploy_71 at h
    refine go_iload (n := 5) (by decide +kernel) l5 f5 ?_
    refine go_aload_n (n := 0) (by decide +kernel) l0 f0 ?_
    refine go_getf (x := 13) (ci := 13) (kf := 2) (fin := 1) (t := 2) (by decide +kernel) (by decide +kernel) (by decide +kernel) R f0 (fx_k (c := 13) R (by decide +kernel)) fun v_96 f_97 => ?_
    have f_98 := q_is_eq (b := 70) f_97 (fx_v R (by decide +kernel)).symm
    refine go_iconst (n := 5) (z := 5) (by decide +kernel) (by decide) fun v_99 f_100 => ?_
    refine go_iload_n (n := 1) (by decide +kernel) l1 f1 ?_
    refine go_imul (by decide +kernel) f_100 f1 fun v_101 f_102 => ?_
    refine go_iconst (n := 4) (z := 4) (by decide +kernel) (by decide) fun v_103 f_104 => ?_
    refine go_iadd (by decide +kernel) f_102 f_104 fun v_105 f_106 => ?_
    obtain ⟨g_109, h⟩ := gd_s h
    obtain ⟨x_111, e_112, h⟩ := lx_s h
    refine go_iald (kd := 100) (by decide +kernel) rfl R f_98 f_106 (fx_k (c := 100) R (by decide +kernel)) (fx_x (a := 70) (ln := 20) R (by decide +kernel) g_109) fun v_107 f_108 => ?_
    have f_110 := q_is_eq f_108 e_112
    refine go_icmp (c := .ge) (o := 66) (t := 149) (P := ¬ (y5 < x_111)) (by decide +kernel) (by decide +kernel) f5 f_110 (Int.not_lt.symm) (fun hp_113 => ?_) (fun hp_113 => ?_)
    · have h := it_f hp_113 h
      exact hk149 m E h R l0 f0 l1 f1
    · have h := it_n hp_113 h
      refine go_aload_n (n := 0) (by decide +kernel) l0 f0 ?_
      refine go_getf (x := 16) (ci := 13) (kf := 3) (fin := 1) (t := 2) (by decide +kernel) (by decide +kernel) (by decide +kernel) R f0 (fx_k (c := 13) R (by decide +kernel)) fun v_114 f_115 => ?_
      have f_116 := q_is_eq (b := 71) f_115 (fx_v R (by decide +kernel)).symm
      refine go_iload (n := 4) (by decide +kernel) l4 f4 ?_
      refine go_iload (n := 5) (by decide +kernel) l5 f5 ?_
      refine go_iadd (by decide +kernel) f4 f5 fun v_117 f_118 => ?_
      refine go_aload_n (n := 0) (by decide +kernel) l0 f0 ?_
      refine go_getf (x := 16) (ci := 13) (kf := 3) (fin := 1) (t := 2) (by decide +kernel) (by decide +kernel) (by decide +kernel) R f0 (fx_k (c := 13) R (by decide +kernel)) fun v_119 f_120 => ?_
      have f_121 := q_is_eq (b := 71) f_120 (fx_v R (by decide +kernel)).symm
      refine go_iload_n (n := 3) (by decide +kernel) l3 f3 ?_
      refine go_iload (n := 5) (by decide +kernel) l5 f5 ?_
      refine go_iadd (by decide +kernel) f3 f5 fun v_122 f_123 => ?_
      obtain ⟨g_126, h⟩ := gd_s h
      obtain ⟨x_128, e_129, h⟩ := lx_s h
      refine go_iald (kd := 100) (by decide +kernel) rfl R f_121 f_123 (fx_k (c := 100) R (by decide +kernel)) (fx_x (a := 71) (ln := 480) R (by decide +kernel) g_126) fun v_124 f_125 => ?_
      have f_127 := q_is_eq f_125 e_129
      obtain ⟨g_130, h⟩ := gd_s h
      obtain ⟨m_131, e_132, h⟩ := up_s h
      refine go_iast (kd := 100) (by decide +kernel) rfl R f_116 f_118 f_127 (fx_k (c := 100) R (by decide +kernel)) (fx_x (a := 71) (ln := 480) R (by decide +kernel) g_130) e_132 (fx_a R.2 (fx_k (c := 100) R (by decide +kernel)) (And.left (fx_x (a := 71) (ln := 480) R (by decide +kernel) g_130)) (by decide +kernel)) fun S_133 R_134 E_135 => ?_
      have E_136 := Ext.tr E E_135
      refine go_aload_n (n := 0) (by decide +kernel) l0 f0 ?_
      refine go_getf (x := 19) (ci := 13) (kf := 4) (fin := 1) (t := 2) (by decide +kernel) (by decide +kernel) (by decide +kernel) R_134 f0 (fx_k (c := 13) R_134 (by decide +kernel)) fun v_137 f_138 => ?_
      have f_139 := q_is_eq (b := 72) f_138 (fx_v R_134 (by decide +kernel)).symm
      refine go_iload (n := 4) (by decide +kernel) l4 f4 ?_
      refine go_iload (n := 5) (by decide +kernel) l5 f5 ?_
      refine go_iadd (by decide +kernel) f4 f5 fun v_140 f_141 => ?_
      refine go_aload_n (n := 0) (by decide +kernel) l0 f0 ?_
      refine go_getf (x := 19) (ci := 13) (kf := 4) (fin := 1) (t := 2) (by decide +kernel) (by decide +kernel) (by decide +kernel) R_134 f0 (fx_k (c := 13) R_134 (by decide +kernel)) fun v_142 f_143 => ?_
      have f_144 := q_is_eq (b := 72) f_143 (fx_v R_134 (by decide +kernel)).symm
      refine go_iload_n (n := 3) (by decide +kernel) l3 f3 ?_
      refine go_iload (n := 5) (by decide +kernel) l5 f5 ?_
      refine go_iadd (by decide +kernel) f3 f5 fun v_145 f_146 => ?_
      obtain ⟨x_150, e_151, h⟩ := lx_s h
      refine go_iald (kd := 100) (by decide +kernel) rfl R_134 f_144 f_146 (fx_k (c := 100) R_134 (by decide +kernel)) (fx_x (a := 72) (ln := 480) R_134 (by decide +kernel) g_126) fun v_147 f_148 => ?_
      have f_149 := q_is_eq f_148 e_151
      obtain ⟨m_152, e_153, h⟩ := up_s h
      refine go_iast (kd := 100) (by decide +kernel) rfl R_134 f_139 f_141 f_149 (fx_k (c := 100) R_134 (by decide +kernel)) (fx_x (a := 72) (ln := 480) R_134 (by decide +kernel) g_130) e_153 (fx_a R_134.2 (fx_k (c := 100) R_134 (by decide +kernel)) (And.left (fx_x (a := 72) (ln := 480) R_134 (by decide +kernel) g_130)) (by decide +kernel)) fun S_154 R_155 E_156 => ?_
      have E_157 := Ext.tr E_136 E_156
      refine go_aload_n (n := 0) (by decide +kernel) l0 f0 ?_
      refine go_getf (x := 22) (ci := 13) (kf := 5) (fin := 1) (t := 2) (by decide +kernel) (by decide +kernel) (by decide +kernel) R_155 f0 (fx_k (c := 13) R_155 (by decide +kernel)) fun v_158 f_159 => ?_
      have f_160 := q_is_eq (b := 73) f_159 (fx_v R_155 (by decide +kernel)).symm
      refine go_iload (n := 4) (by decide +kernel) l4 f4 ?_
      refine go_iload (n := 5) (by decide +kernel) l5 f5 ?_
      refine go_iadd (by decide +kernel) f4 f5 fun v_161 f_162 => ?_
      refine go_aload_n (n := 0) (by decide +kernel) l0 f0 ?_
      refine go_getf (x := 22) (ci := 13) (kf := 5) (fin := 1) (t := 2) (by decide +kernel) (by decide +kernel) (by decide +kernel) R_155 f0 (fx_k (c := 13) R_155 (by decide +kernel)) fun v_163 f_164 => ?_
      have f_165 := q_is_eq (b := 73) f_164 (fx_v R_155 (by decide +kernel)).symm
      refine go_iload_n (n := 3) (by decide +kernel) l3 f3 ?_
      refine go_iload (n := 5) (by decide +kernel) l5 f5 ?_
      refine go_iadd (by decide +kernel) f3 f5 fun v_166 f_167 => ?_
      obtain ⟨x_171, e_172, h⟩ := lx_s h
      refine go_iald (kd := 100) (by decide +kernel) rfl R_155 f_165 f_167 (fx_k (c := 100) R_155 (by decide +kernel)) (fx_x (a := 73) (ln := 480) R_155 (by decide +kernel) g_126) fun v_168 f_169 => ?_
      have f_170 := q_is_eq f_169 e_172
      obtain ⟨m_173, e_174, h⟩ := up_s h
      refine go_iast (kd := 100) (by decide +kernel) rfl R_155 f_160 f_162 f_170 (fx_k (c := 100) R_155 (by decide +kernel)) (fx_x (a := 73) (ln := 480) R_155 (by decide +kernel) g_130) e_174 (fx_a R_155.2 (fx_k (c := 100) R_155 (by decide +kernel)) (And.left (fx_x (a := 73) (ln := 480) R_155 (by decide +kernel) g_130)) (by decide +kernel)) fun S_175 R_176 E_177 => ?_
      have E_178 := Ext.tr E_157 E_177
      refine go_iinc (n := 5) (c := 1) (c' := 1) (by decide +kernel) (by decide +kernel) l5 f5 (by decide) fun L_179 v_180 f_181 l_182 kp_183 => ?_
      obtain ⟨x_184, e_185, h⟩ := lx_s h
      have f_186 := q_is_eq f_181 e_185
      have l_187 := kp_183 0 _ l0 (by decide) (Or.inl (by decide))
      have l_188 := kp_183 1 _ l1 (by decide) (Or.inl (by decide))
      have l_189 := kp_183 3 _ l3 (by decide) (Or.inl (by decide))
      have l_190 := kp_183 4 _ l4 (by decide) (Or.inr (q_is_cat f4 (Or.inl rfl)))
      refine go_goto (o := (-75)) (t := 71) (by decide +kernel) (by decide +kernel) ?_
      exact ih m_173 E_178 h R_176 l_187 f0 l_188 f1 l_189 f3 l_190 f4 l_182 f_186
noncomputable def fj_X12_deploy_42 (y1 s0 : Int) (m : MM) : Option (Int × MM) := bd (fm_X12_fails s0 m) fun x_37 m_38 =>
if x_37 = 0 then
bp (fm_X12_code y1 4 m_38) fun x_50 =>
gd (0 ≤ y1 ∧ y1 < 4) <| lx (m_38 69 y1) fun x_70 =>
bp (fm_X12_code y1 x_70 m_38) fun x_73 =>
fl_X12_deploy_71 y1 x_50 x_73 (fun m_200 =>
lx (m_200 69 y1) fun x_216 =>
gd (0 ≤ w32 ((w32 (5 * y1)) + 4) ∧ w32 ((w32 (5 * y1)) + 4) < 20) <| lx (m_200 70 (w32 ((w32 (5 * y1)) + 4))) fun x_235 =>
gd (0 ≤ w32 ((w32 (5 * y1)) + x_216) ∧ w32 ((w32 (5 * y1)) + x_216) < 20) <| up m_200 70 (w32 ((w32 (5 * y1)) + x_216)) x_235 fun m_238 =>
up m_238 70 (w32 ((w32 (5 * y1)) + 4)) 0 fun m_257 =>
lx (m_257 69 y1) fun x_269 =>
up m_257 69 y1 (w32 (x_269 + 1)) fun m_275 =>
lx (m_275 69 y1) fun x_287 =>
some (w32 (x_287 - 1), m_275)) BIG 0 m_38
else
some (0, m_38)
set_option maxHeartbeats 4000000 in
theorem oj_X12_deploy_42 {xs : List Int32} {d : Nat} {S : QS} {L : QL} {Q : QO → QS → Prop} {m : MM} {y1 s0 : Int} {v0 : Value} {v1 : Value} {w0 : Value} {w1 : Value}  {rz : Int} {rm : MM}
  (hd : 2 ≤ d) (R : Rp S m) (l0 : q_lo L 0 = some v0) (f0 : q_is 2 v0 68) (l1 : q_lo L 1 = some v1) (f1 : q_is 0 v1 y1) (fs0 : q_is 0 w0 s0) (fs1 : q_is 2 w1 68)
  (hQ : Ext m rm → ∀ o S1, Rp S1 rm → q_out 0 o rz → Q o S1)
  (h : fj_X12_deploy_42 y1 s0 m = some (rz, rm)) : Go xs d qM_X12_deploy 42 L [w0, w1] S Q := by
  unfold fj_X12_deploy_42 at h
  obtain ⟨x_37, m_38, hc_36, h⟩ := bd_s h
  refine go_callV (x := 324) (mi := 186) (n := 1) (ci := 13) (as := [w0]) (rest := []) (by decide +kernel) (by decide +kernel) rfl rfl (q_sum8 _ (Nat.le_of_ble_eq_true rfl)) R fs1 (fx_k (c := 13) R (by decide +kernel)) (om_X12_fails (Nat.le_trans (by decide) hd) R fs1 fs0 hc_36) (fun _ S_41 q_44 => ?_) (fun _ _ qq => kr_x qq)
  refine kr_z (by decide) q_44 fun v_39 f_40 R_42 E_43 => ?_
  have E_45 := E_43
  refine go_if (c := .eq) (o := 5) (t := 50) (P := x_37 = 0) (by decide +kernel) (by decide +kernel) f_40 (Iff.rfl) (fun hp_46 => ?_) (fun hp_46 => ?_)
  · have h := it_t hp_46 h
    refine go_iload_n (n := 1) (by decide +kernel) l1 f1 ?_
    refine go_iconst (n := 4) (z := 4) (by decide +kernel) (by decide) fun v_47 f_48 => ?_
    obtain ⟨x_50, hc_49, h⟩ := bp_s h
    refine go_callS (x := 327) (mi := 196) (n := 2) (b := 0) (as := [v1, v_47]) (rest := []) (by decide +kernel) (by decide +kernel) rfl rfl (q_sum8 _ (Nat.le_of_ble_eq_true rfl)) (om_X12_code (Nat.le_trans (by decide) hd) R_42 f1 f_48 hc_49) (fun _ S_54 q_57 => ?_) (fun _ _ qq => kr_x qq)
    refine kr_z (by decide) q_57 fun v_52 f_53 R_55 E_56 => ?_
    refine go_istore_n (n := 3) (by decide +kernel) (by decide +kernel) f_53 fun L_58 l_59 kp_60 => ?_
    have l_61 := kp_60 0 _ l0 (by decide) (Or.inl (by decide))
    have l_62 := kp_60 1 _ l1 (by decide) (Or.inl (by decide))
    refine go_iload_n (n := 1) (by decide +kernel) l_62 f1 ?_
    refine go_aload_n (n := 0) (by decide +kernel) l_61 f0 ?_
    refine go_getf (x := 7) (ci := 13) (kf := 1) (fin := 1) (t := 2) (by decide +kernel) (by decide +kernel) (by decide +kernel) R_55 f0 (fx_k (c := 13) R_55 (by decide +kernel)) fun v_63 f_64 => ?_
    have f_65 := q_is_eq (b := 69) f_64 (fx_v R_55 (by decide +kernel)).symm
    refine go_iload_n (n := 1) (by decide +kernel) l_62 f1 ?_
    obtain ⟨g_68, h⟩ := gd_s h
    obtain ⟨x_70, e_71, h⟩ := lx_s h
    refine go_iald (kd := 100) (by decide +kernel) rfl R_55 f_65 f1 (fx_k (c := 100) R_55 (by decide +kernel)) (fx_x (a := 69) (ln := 4) R_55 (by decide +kernel) g_68) fun v_66 f_67 => ?_
    have f_69 := q_is_eq f_67 e_71
    obtain ⟨x_73, hc_72, h⟩ := bp_s h
    refine go_callS (x := 327) (mi := 196) (n := 2) (b := 0) (as := [v1, v_66]) (rest := []) (by decide +kernel) (by decide +kernel) rfl rfl (q_sum8 _ (Nat.le_of_ble_eq_true rfl)) (om_X12_code (Nat.le_trans (by decide) hd) R_55 f1 f_69 hc_72) (fun _ S_77 q_80 => ?_) (fun _ _ qq => kr_x qq)
    refine kr_z (by decide) q_80 fun v_75 f_76 R_78 E_79 => ?_
    refine go_istore (n := 4) (by decide +kernel) (by decide +kernel) f_76 fun L_81 l_82 kp_83 => ?_
    have l_84 := kp_83 0 _ l_61 (by decide) (Or.inl (by decide))
    have l_85 := kp_83 1 _ l_62 (by decide) (Or.inl (by decide))
    have l_86 := kp_83 3 _ l_59 (by decide) (Or.inr (q_is_cat f_53 (Or.inl rfl)))
    refine go_iconst (n := 0) (z := 0) (by decide +kernel) (by decide) fun v_87 f_88 => ?_
    refine go_istore (n := 5) (by decide +kernel) (by decide +kernel) f_88 fun L_89 l_90 kp_91 => ?_
    have l_92 := kp_91 0 _ l_84 (by decide) (Or.inl (by decide))
    have l_93 := kp_91 1 _ l_85 (by decide) (Or.inl (by decide))
    have l_94 := kp_91 3 _ l_86 (by decide) (Or.inl (by decide))
    have l_95 := kp_91 4 _ l_82 (by decide) (Or.inr (q_is_cat f_76 (Or.inl rfl)))
    refine ol_X12_deploy_71 hd  ?_ (fun b => hQ (Ext.tr E_45 b)) BIG (Ext.rf _) h R_78 l_92 f0 l_93 f1 l_94 f_53 l_95 f_76 l_90 f_88
    intro m_200 E_201
    intro S_197 L_198 v_191 v_192
    intro h R_199 l_193 f_195 l_194 f_196
    have E_202 := Ext.tr E_45 E_201
    refine go_aload_n (n := 0) (by decide +kernel) l_193 f_195 ?_
    refine go_getf (x := 13) (ci := 13) (kf := 2) (fin := 1) (t := 2) (by decide +kernel) (by decide +kernel) (by decide +kernel) R_199 f_195 (fx_k (c := 13) R_199 (by decide +kernel)) fun v_203 f_204 => ?_
    have f_205 := q_is_eq (b := 70) f_204 (fx_v R_199 (by decide +kernel)).symm
    refine go_iconst (n := 5) (z := 5) (by decide +kernel) (by decide) fun v_206 f_207 => ?_
    refine go_iload_n (n := 1) (by decide +kernel) l_194 f_196 ?_
    refine go_imul (by decide +kernel) f_207 f_196 fun v_208 f_209 => ?_
    refine go_aload_n (n := 0) (by decide +kernel) l_193 f_195 ?_
    refine go_getf (x := 7) (ci := 13) (kf := 1) (fin := 1) (t := 2) (by decide +kernel) (by decide +kernel) (by decide +kernel) R_199 f_195 (fx_k (c := 13) R_199 (by decide +kernel)) fun v_210 f_211 => ?_
    have f_212 := q_is_eq (b := 69) f_211 (fx_v R_199 (by decide +kernel)).symm
    refine go_iload_n (n := 1) (by decide +kernel) l_194 f_196 ?_
    obtain ⟨x_216, e_217, h⟩ := lx_s h
    refine go_iald (kd := 100) (by decide +kernel) rfl R_199 f_212 f_196 (fx_k (c := 100) R_199 (by decide +kernel)) (fx_x (a := 69) (ln := 4) R_199 (by decide +kernel) g_68) fun v_213 f_214 => ?_
    have f_215 := q_is_eq f_214 e_217
    refine go_iadd (by decide +kernel) f_209 f_215 fun v_218 f_219 => ?_
    refine go_aload_n (n := 0) (by decide +kernel) l_193 f_195 ?_
    refine go_getf (x := 13) (ci := 13) (kf := 2) (fin := 1) (t := 2) (by decide +kernel) (by decide +kernel) (by decide +kernel) R_199 f_195 (fx_k (c := 13) R_199 (by decide +kernel)) fun v_220 f_221 => ?_
    have f_222 := q_is_eq (b := 70) f_221 (fx_v R_199 (by decide +kernel)).symm
    refine go_iconst (n := 5) (z := 5) (by decide +kernel) (by decide) fun v_223 f_224 => ?_
    refine go_iload_n (n := 1) (by decide +kernel) l_194 f_196 ?_
    refine go_imul (by decide +kernel) f_224 f_196 fun v_225 f_226 => ?_
    refine go_iconst (n := 4) (z := 4) (by decide +kernel) (by decide) fun v_227 f_228 => ?_
    refine go_iadd (by decide +kernel) f_226 f_228 fun v_229 f_230 => ?_
    obtain ⟨g_233, h⟩ := gd_s h
    obtain ⟨x_235, e_236, h⟩ := lx_s h
    refine go_iald (kd := 100) (by decide +kernel) rfl R_199 f_222 f_230 (fx_k (c := 100) R_199 (by decide +kernel)) (fx_x (a := 70) (ln := 20) R_199 (by decide +kernel) g_233) fun v_231 f_232 => ?_
    have f_234 := q_is_eq f_232 e_236
    obtain ⟨g_237, h⟩ := gd_s h
    obtain ⟨m_238, e_239, h⟩ := up_s h
    refine go_iast (kd := 100) (by decide +kernel) rfl R_199 f_205 f_219 f_234 (fx_k (c := 100) R_199 (by decide +kernel)) (fx_x (a := 70) (ln := 20) R_199 (by decide +kernel) g_237) e_239 (fx_a R_199.2 (fx_k (c := 100) R_199 (by decide +kernel)) (And.left (fx_x (a := 70) (ln := 20) R_199 (by decide +kernel) g_237)) (by decide +kernel)) fun S_240 R_241 E_242 => ?_
    have E_243 := Ext.tr E_202 E_242
    refine go_aload_n (n := 0) (by decide +kernel) l_193 f_195 ?_
    refine go_getf (x := 13) (ci := 13) (kf := 2) (fin := 1) (t := 2) (by decide +kernel) (by decide +kernel) (by decide +kernel) R_241 f_195 (fx_k (c := 13) R_241 (by decide +kernel)) fun v_244 f_245 => ?_
    have f_246 := q_is_eq (b := 70) f_245 (fx_v R_241 (by decide +kernel)).symm
    refine go_iconst (n := 5) (z := 5) (by decide +kernel) (by decide) fun v_247 f_248 => ?_
    refine go_iload_n (n := 1) (by decide +kernel) l_194 f_196 ?_
    refine go_imul (by decide +kernel) f_248 f_196 fun v_249 f_250 => ?_
    refine go_iconst (n := 4) (z := 4) (by decide +kernel) (by decide) fun v_251 f_252 => ?_
    refine go_iadd (by decide +kernel) f_250 f_252 fun v_253 f_254 => ?_
    refine go_iconst (n := 0) (z := 0) (by decide +kernel) (by decide) fun v_255 f_256 => ?_
    obtain ⟨m_257, e_258, h⟩ := up_s h
    refine go_iast (kd := 100) (by decide +kernel) rfl R_241 f_246 f_254 f_256 (fx_k (c := 100) R_241 (by decide +kernel)) (fx_x (a := 70) (ln := 20) R_241 (by decide +kernel) g_233) e_258 (fx_a R_241.2 (fx_k (c := 100) R_241 (by decide +kernel)) (And.left (fx_x (a := 70) (ln := 20) R_241 (by decide +kernel) g_233)) (by decide +kernel)) fun S_259 R_260 E_261 => ?_
    have E_262 := Ext.tr E_243 E_261
    refine go_aload_n (n := 0) (by decide +kernel) l_193 f_195 ?_
    refine go_getf (x := 7) (ci := 13) (kf := 1) (fin := 1) (t := 2) (by decide +kernel) (by decide +kernel) (by decide +kernel) R_260 f_195 (fx_k (c := 13) R_260 (by decide +kernel)) fun v_263 f_264 => ?_
    have f_265 := q_is_eq (b := 69) f_264 (fx_v R_260 (by decide +kernel)).symm
    refine go_iload_n (n := 1) (by decide +kernel) l_194 f_196 ?_
    refine go_dup2 (by decide +kernel) f_196 (Or.inl rfl) f_265 (Or.inr rfl) ?_
    obtain ⟨x_269, e_270, h⟩ := lx_s h
    refine go_iald (kd := 100) (by decide +kernel) rfl R_260 f_265 f_196 (fx_k (c := 100) R_260 (by decide +kernel)) (fx_x (a := 69) (ln := 4) R_260 (by decide +kernel) g_68) fun v_266 f_267 => ?_
    have f_268 := q_is_eq f_267 e_270
    refine go_iconst (n := 1) (z := 1) (by decide +kernel) (by decide) fun v_271 f_272 => ?_
    refine go_iadd (by decide +kernel) f_268 f_272 fun v_273 f_274 => ?_
    obtain ⟨m_275, e_276, h⟩ := up_s h
    refine go_iast (kd := 100) (by decide +kernel) rfl R_260 f_265 f_196 f_274 (fx_k (c := 100) R_260 (by decide +kernel)) (fx_x (a := 69) (ln := 4) R_260 (by decide +kernel) g_68) e_276 (fx_a R_260.2 (fx_k (c := 100) R_260 (by decide +kernel)) (And.left (fx_x (a := 69) (ln := 4) R_260 (by decide +kernel) g_68)) (by decide +kernel)) fun S_277 R_278 E_279 => ?_
    have E_280 := Ext.tr E_262 E_279
    refine go_aload_n (n := 0) (by decide +kernel) l_193 f_195 ?_
    refine go_getf (x := 7) (ci := 13) (kf := 1) (fin := 1) (t := 2) (by decide +kernel) (by decide +kernel) (by decide +kernel) R_278 f_195 (fx_k (c := 13) R_278 (by decide +kernel)) fun v_281 f_282 => ?_
    have f_283 := q_is_eq (b := 69) f_282 (fx_v R_278 (by decide +kernel)).symm
    refine go_iload_n (n := 1) (by decide +kernel) l_194 f_196 ?_
    obtain ⟨x_287, e_288, h⟩ := lx_s h
    refine go_iald (kd := 100) (by decide +kernel) rfl R_278 f_283 f_196 (fx_k (c := 100) R_278 (by decide +kernel)) (fx_x (a := 69) (ln := 4) R_278 (by decide +kernel) g_68) fun v_284 f_285 => ?_
    have f_286 := q_is_eq f_285 e_288
    refine go_iconst (n := 1) (z := 1) (by decide +kernel) (by decide) fun v_289 f_290 => ?_
    refine go_isub (by decide +kernel) f_286 f_290 fun v_291 f_292 => ?_
    cases h
    exact go_iret (by decide +kernel) rfl (Or.inl rfl) f_292 (hQ E_280 _ _ R_278 (q_out_v (by decide) f_292))
  · have h := it_f hp_46 h
    refine go_iconst (n := 0) (z := 0) (by decide +kernel) (by decide) fun v_293 f_294 => ?_
    cases h
    exact go_iret (by decide +kernel) rfl (Or.inl rfl) f_294 (hQ E_45 _ _ R_42 (q_out_v (by decide) f_294))
noncomputable def fm_X12_deploy (p1 : Int) (m0 : MM) : Option (Int × MM) := bp (fm_X12_isType p1 m0) fun x_2 =>
if x_2 = 0 then
fj_X12_deploy_42 p1 1 m0
else
gd (0 ≤ w32 ((w32 (5 * p1)) + 4) ∧ w32 ((w32 (5 * p1)) + 4) < 20) <| lx (m0 70 (w32 ((w32 (5 * p1)) + 4))) fun x_31 =>
if x_31 = 0 then
fj_X12_deploy_42 p1 2 m0
else
gd (0 ≤ p1 ∧ p1 < 4) <| lx (m0 69 p1) fun x_302 =>
if x_302 = 4 then
fj_X12_deploy_42 p1 2 m0
else
fj_X12_deploy_42 p1 0 m0
set_option maxHeartbeats 4000000 in
theorem om_X12_deploy {xs : List Int32} {d : Nat} {S : QS} {m0 : MM} {p1 : Int} {v0 : Value} {v1 : Value} {rz : Int} {rm : MM}
  (hd : 3 ≤ d) (R : Rp S m0) (f0 : q_is 2 v0 68) (f1 : q_is 0 v1 p1)
  (h : fm_X12_deploy p1 m0 = some (rz, rm)) : Mt xs d 200 [v0, v1] S (Cr 0 m0 rm rz) := by
  obtain ⟨d, rfl⟩ : ∃ e, d = e + 1 := ⟨d - 1, by omega⟩
  have hd : 2 ≤ d := Nat.le_of_succ_le_succ hd
  refine Mt.of (M := qM_X12_deploy) rfl (by rw [sl_1 (q_is_cat f0 (Or.inr rfl)), sl_1 (q_is_cat f1 (Or.inl rfl)), sl_0]; decide) ?_
  rw [la_1 (q_is_cat f0 (Or.inr rfl)), la_1 (q_is_cat f1 (Or.inl rfl)), la_0]
  obtain ⟨L, hL⟩ : ∃ L : QL, L = [(0, v0), (0 + 1, v1)] := ⟨_, rfl⟩
  rw [← hL]
  have l0 : q_lo L 0 = some v0 := by rw [hL]; rfl
  have l1 : q_lo L 1 = some v1 := by rw [hL]; rfl
  have hQ : Ext m0 rm → ∀ o S1, Rp S1 rm → q_out 0 o rz → (Cr 0 m0 rm rz) o S1 := fun a o S1 b e => ⟨b, a, e⟩
  unfold fm_X12_deploy at h
  refine go_iload_n (n := 1) (by decide +kernel) l1 f1 ?_
  obtain ⟨x_2, hc_1, h⟩ := bp_s h
  refine go_callS (x := 313) (mi := 191) (n := 1) (b := 0) (as := [v1]) (rest := []) (by decide +kernel) (by decide +kernel) rfl rfl (q_sum8 _ (Nat.le_of_ble_eq_true rfl)) (om_X12_isType (Nat.le_trans (by decide) hd) R f1 hc_1) (fun _ S_6 q_9 => ?_) (fun _ _ qq => kr_x qq)
  refine kr_z (by decide) q_9 fun v_4 f_5 R_7 E_8 => ?_
  refine go_istore_n (n := 2) (by decide +kernel) (by decide +kernel) f_5 fun L_10 l_11 kp_12 => ?_
  have l_13 := kp_12 0 _ l0 (by decide) (Or.inl (by decide))
  have l_14 := kp_12 1 _ l1 (by decide) (Or.inr (q_is_cat f1 (Or.inl rfl)))
  refine go_aload_n (n := 0) (by decide +kernel) l_13 f0 ?_
  refine go_iload_n (n := 2) (by decide +kernel) l_11 f_5 ?_
  refine go_if (c := .ne) (o := 7) (t := 14) (P := ¬ (x_2 = 0)) (by decide +kernel) (by decide +kernel) f_5 (Iff.rfl) (fun hp_15 => ?_) (fun hp_15 => ?_)
  · have h := it_f hp_15 h
    refine go_aload_n (n := 0) (by decide +kernel) l_13 f0 ?_
    refine go_getf (x := 13) (ci := 13) (kf := 2) (fin := 1) (t := 2) (by decide +kernel) (by decide +kernel) (by decide +kernel) R_7 f0 (fx_k (c := 13) R_7 (by decide +kernel)) fun v_16 f_17 => ?_
    have f_18 := q_is_eq (b := 70) f_17 (fx_v R_7 (by decide +kernel)).symm
    refine go_iconst (n := 5) (z := 5) (by decide +kernel) (by decide) fun v_19 f_20 => ?_
    refine go_iload_n (n := 1) (by decide +kernel) l_14 f1 ?_
    refine go_imul (by decide +kernel) f_20 f1 fun v_21 f_22 => ?_
    refine go_iconst (n := 4) (z := 4) (by decide +kernel) (by decide) fun v_23 f_24 => ?_
    refine go_iadd (by decide +kernel) f_22 f_24 fun v_25 f_26 => ?_
    obtain ⟨g_29, h⟩ := gd_s h
    obtain ⟨x_31, e_32, h⟩ := lx_s h
    refine go_iald (kd := 100) (by decide +kernel) rfl R_7 f_18 f_26 (fx_k (c := 100) R_7 (by decide +kernel)) (fx_x (a := 70) (ln := 20) R_7 (by decide +kernel) g_29) fun v_27 f_28 => ?_
    have f_30 := q_is_eq f_28 e_32
    refine go_if (c := .eq) (o := 13) (t := 37) (P := x_31 = 0) (by decide +kernel) (by decide +kernel) f_30 (Iff.rfl) (fun hp_33 => ?_) (fun hp_33 => ?_)
    · have h := it_t hp_33 h
      refine go_iconst (n := 2) (z := 2) (by decide +kernel) (by decide) fun v_34 f_35 => ?_
      refine go_goto (o := 4) (t := 42) (by decide +kernel) (by decide +kernel) ?_
      exact oj_X12_deploy_42 hd R_7 l_13 f0 l_14 f1 f_35 f0 hQ h
    · have h := it_f hp_33 h
      refine go_aload_n (n := 0) (by decide +kernel) l_13 f0 ?_
      refine go_getf (x := 7) (ci := 13) (kf := 1) (fin := 1) (t := 2) (by decide +kernel) (by decide +kernel) (by decide +kernel) R_7 f0 (fx_k (c := 13) R_7 (by decide +kernel)) fun v_295 f_296 => ?_
      have f_297 := q_is_eq (b := 69) f_296 (fx_v R_7 (by decide +kernel)).symm
      refine go_iload_n (n := 1) (by decide +kernel) l_14 f1 ?_
      obtain ⟨g_300, h⟩ := gd_s h
      obtain ⟨x_302, e_303, h⟩ := lx_s h
      refine go_iald (kd := 100) (by decide +kernel) rfl R_7 f_297 f1 (fx_k (c := 100) R_7 (by decide +kernel)) (fx_x (a := 69) (ln := 4) R_7 (by decide +kernel) g_300) fun v_298 f_299 => ?_
      have f_301 := q_is_eq f_299 e_303
      refine go_iconst (n := 4) (z := 4) (by decide +kernel) (by decide) fun v_304 f_305 => ?_
      refine go_icmp (c := .ne) (o := 7) (t := 41) (P := ¬ (x_302 = 4)) (by decide +kernel) (by decide +kernel) f_301 f_305 (Iff.rfl) (fun hp_306 => ?_) (fun hp_306 => ?_)
      · have h := it_f hp_306 h
        refine go_iconst (n := 0) (z := 0) (by decide +kernel) (by decide) fun v_307 f_308 => ?_
        exact oj_X12_deploy_42 hd R_7 l_13 f0 l_14 f1 f_308 f0 hQ h
      · have h := it_n hp_306 h
        refine go_iconst (n := 2) (z := 2) (by decide +kernel) (by decide) fun v_309 f_310 => ?_
        refine go_goto (o := 4) (t := 42) (by decide +kernel) (by decide +kernel) ?_
        exact oj_X12_deploy_42 hd R_7 l_13 f0 l_14 f1 f_310 f0 hQ h
  · have h := it_n hp_15 h
    refine go_iconst (n := 1) (z := 1) (by decide +kernel) (by decide) fun v_311 f_312 => ?_
    refine go_goto (o := 31) (t := 42) (by decide +kernel) (by decide +kernel) ?_
    exact oj_X12_deploy_42 hd R_7 l_13 f0 l_14 f1 f_312 f0 hQ h
noncomputable def fj_X12_setKind_87 (y1 y2 y3 y4 y5 y6 s0 : Int) (m : MM) : Option (Int × MM) := bd (fm_X12_fails s0 m) fun x_56 m_57 =>
if x_56 = 0 then
gd (0 ≤ y1 ∧ y1 < 4) <| up m_57 74 y1 y2 fun m_70 =>
up m_70 75 y1 y3 fun m_79 =>
up m_79 76 y1 y4 fun m_88 =>
up m_88 77 y1 y5 fun m_97 =>
up m_97 78 y1 y6 fun m_106 =>
some (0, m_106)
else
some (0, m_57)
set_option maxHeartbeats 4000000 in
theorem oj_X12_setKind_87 {xs : List Int32} {d : Nat} {S : QS} {L : QL} {Q : QO → QS → Prop} {m : MM} {y1 y2 y3 y4 y5 y6 s0 : Int} {v0 : Value} {v1 : Value} {v2 : Value} {v3 : Value} {v4 : Value} {v5 : Value} {v6 : Value} {w0 : Value} {w1 : Value}  {rz : Int} {rm : MM}
  (hd : 1 ≤ d) (R : Rp S m) (l0 : q_lo L 0 = some v0) (f0 : q_is 2 v0 68) (l1 : q_lo L 1 = some v1) (f1 : q_is 0 v1 y1) (l2 : q_lo L 2 = some v2) (f2 : q_is 0 v2 y2) (l3 : q_lo L 3 = some v3) (f3 : q_is 0 v3 y3) (l4 : q_lo L 4 = some v4) (f4 : q_is 0 v4 y4) (l5 : q_lo L 5 = some v5) (f5 : q_is 0 v5 y5) (l6 : q_lo L 6 = some v6) (f6 : q_is 0 v6 y6) (fs0 : q_is 0 w0 s0) (fs1 : q_is 2 w1 68)
  (hQ : Ext m rm → ∀ o S1, Rp S1 rm → q_out 9 o rz → Q o S1)
  (h : fj_X12_setKind_87 y1 y2 y3 y4 y5 y6 s0 m = some (rz, rm)) : Go xs d qM_X12_setKind 87 L [w0, w1] S Q := by
  unfold fj_X12_setKind_87 at h
  obtain ⟨x_56, m_57, hc_55, h⟩ := bd_s h
  refine go_callV (x := 324) (mi := 186) (n := 1) (ci := 13) (as := [w0]) (rest := []) (by decide +kernel) (by decide +kernel) rfl rfl (q_sum8 _ (Nat.le_of_ble_eq_true rfl)) R fs1 (fx_k (c := 13) R (by decide +kernel)) (om_X12_fails (Nat.le_trans (by decide) hd) R fs1 fs0 hc_55) (fun _ S_60 q_63 => ?_) (fun _ _ qq => kr_x qq)
  refine kr_z (by decide) q_63 fun v_58 f_59 R_61 E_62 => ?_
  have E_64 := E_62
  refine go_if (c := .ne) (o := 41) (t := 131) (P := ¬ (x_56 = 0)) (by decide +kernel) (by decide +kernel) f_59 (Iff.rfl) (fun hp_65 => ?_) (fun hp_65 => ?_)
  · have h := it_f hp_65 h
    cases h
    exact go_vret (by decide +kernel) rfl (hQ E_64 _ _ R_61 q_out_n)
  · have h := it_n hp_65 h
    refine go_aload_n (n := 0) (by decide +kernel) l0 f0 ?_
    refine go_getf (x := 25) (ci := 13) (kf := 6) (fin := 1) (t := 2) (by decide +kernel) (by decide +kernel) (by decide +kernel) R_61 f0 (fx_k (c := 13) R_61 (by decide +kernel)) fun v_66 f_67 => ?_
    have f_68 := q_is_eq (b := 74) f_67 (fx_v R_61 (by decide +kernel)).symm
    refine go_iload_n (n := 1) (by decide +kernel) l1 f1 ?_
    refine go_iload_n (n := 2) (by decide +kernel) l2 f2 ?_
    obtain ⟨g_69, h⟩ := gd_s h
    obtain ⟨m_70, e_71, h⟩ := up_s h
    refine go_iast (kd := 100) (by decide +kernel) rfl R_61 f_68 f1 f2 (fx_k (c := 100) R_61 (by decide +kernel)) (fx_x (a := 74) (ln := 4) R_61 (by decide +kernel) g_69) e_71 (fx_a R_61.2 (fx_k (c := 100) R_61 (by decide +kernel)) (And.left (fx_x (a := 74) (ln := 4) R_61 (by decide +kernel) g_69)) (by decide +kernel)) fun S_72 R_73 E_74 => ?_
    have E_75 := Ext.tr E_64 E_74
    refine go_aload_n (n := 0) (by decide +kernel) l0 f0 ?_
    refine go_getf (x := 28) (ci := 13) (kf := 7) (fin := 1) (t := 2) (by decide +kernel) (by decide +kernel) (by decide +kernel) R_73 f0 (fx_k (c := 13) R_73 (by decide +kernel)) fun v_76 f_77 => ?_
    have f_78 := q_is_eq (b := 75) f_77 (fx_v R_73 (by decide +kernel)).symm
    refine go_iload_n (n := 1) (by decide +kernel) l1 f1 ?_
    refine go_iload_n (n := 3) (by decide +kernel) l3 f3 ?_
    obtain ⟨m_79, e_80, h⟩ := up_s h
    refine go_iast (kd := 100) (by decide +kernel) rfl R_73 f_78 f1 f3 (fx_k (c := 100) R_73 (by decide +kernel)) (fx_x (a := 75) (ln := 4) R_73 (by decide +kernel) g_69) e_80 (fx_a R_73.2 (fx_k (c := 100) R_73 (by decide +kernel)) (And.left (fx_x (a := 75) (ln := 4) R_73 (by decide +kernel) g_69)) (by decide +kernel)) fun S_81 R_82 E_83 => ?_
    have E_84 := Ext.tr E_75 E_83
    refine go_aload_n (n := 0) (by decide +kernel) l0 f0 ?_
    refine go_getf (x := 31) (ci := 13) (kf := 8) (fin := 1) (t := 2) (by decide +kernel) (by decide +kernel) (by decide +kernel) R_82 f0 (fx_k (c := 13) R_82 (by decide +kernel)) fun v_85 f_86 => ?_
    have f_87 := q_is_eq (b := 76) f_86 (fx_v R_82 (by decide +kernel)).symm
    refine go_iload_n (n := 1) (by decide +kernel) l1 f1 ?_
    refine go_iload (n := 4) (by decide +kernel) l4 f4 ?_
    obtain ⟨m_88, e_89, h⟩ := up_s h
    refine go_iast (kd := 100) (by decide +kernel) rfl R_82 f_87 f1 f4 (fx_k (c := 100) R_82 (by decide +kernel)) (fx_x (a := 76) (ln := 4) R_82 (by decide +kernel) g_69) e_89 (fx_a R_82.2 (fx_k (c := 100) R_82 (by decide +kernel)) (And.left (fx_x (a := 76) (ln := 4) R_82 (by decide +kernel) g_69)) (by decide +kernel)) fun S_90 R_91 E_92 => ?_
    have E_93 := Ext.tr E_84 E_92
    refine go_aload_n (n := 0) (by decide +kernel) l0 f0 ?_
    refine go_getf (x := 34) (ci := 13) (kf := 9) (fin := 1) (t := 2) (by decide +kernel) (by decide +kernel) (by decide +kernel) R_91 f0 (fx_k (c := 13) R_91 (by decide +kernel)) fun v_94 f_95 => ?_
    have f_96 := q_is_eq (b := 77) f_95 (fx_v R_91 (by decide +kernel)).symm
    refine go_iload_n (n := 1) (by decide +kernel) l1 f1 ?_
    refine go_iload (n := 5) (by decide +kernel) l5 f5 ?_
    obtain ⟨m_97, e_98, h⟩ := up_s h
    refine go_iast (kd := 100) (by decide +kernel) rfl R_91 f_96 f1 f5 (fx_k (c := 100) R_91 (by decide +kernel)) (fx_x (a := 77) (ln := 4) R_91 (by decide +kernel) g_69) e_98 (fx_a R_91.2 (fx_k (c := 100) R_91 (by decide +kernel)) (And.left (fx_x (a := 77) (ln := 4) R_91 (by decide +kernel) g_69)) (by decide +kernel)) fun S_99 R_100 E_101 => ?_
    have E_102 := Ext.tr E_93 E_101
    refine go_aload_n (n := 0) (by decide +kernel) l0 f0 ?_
    refine go_getf (x := 37) (ci := 13) (kf := 10) (fin := 1) (t := 2) (by decide +kernel) (by decide +kernel) (by decide +kernel) R_100 f0 (fx_k (c := 13) R_100 (by decide +kernel)) fun v_103 f_104 => ?_
    have f_105 := q_is_eq (b := 78) f_104 (fx_v R_100 (by decide +kernel)).symm
    refine go_iload_n (n := 1) (by decide +kernel) l1 f1 ?_
    refine go_iload (n := 6) (by decide +kernel) l6 f6 ?_
    obtain ⟨m_106, e_107, h⟩ := up_s h
    refine go_iast (kd := 100) (by decide +kernel) rfl R_100 f_105 f1 f6 (fx_k (c := 100) R_100 (by decide +kernel)) (fx_x (a := 78) (ln := 4) R_100 (by decide +kernel) g_69) e_107 (fx_a R_100.2 (fx_k (c := 100) R_100 (by decide +kernel)) (And.left (fx_x (a := 78) (ln := 4) R_100 (by decide +kernel) g_69)) (by decide +kernel)) fun S_108 R_109 E_110 => ?_
    have E_111 := Ext.tr E_102 E_110
    cases h
    exact go_vret (by decide +kernel) rfl (hQ E_111 _ _ R_109 q_out_n)
noncomputable def fj_X12_setKind_65 (y1 y2 y3 y4 y5 y6 y7 s0 : Int) (m : MM) : Option (Int × MM) := if y7 = 0 then
fj_X12_setKind_87 y1 y2 y3 y4 y5 y6 1 m
else
if s0 = 0 then
fj_X12_setKind_87 y1 y2 y3 y4 y5 y6 2 m
else
fj_X12_setKind_87 y1 y2 y3 y4 y5 y6 0 m
set_option maxHeartbeats 4000000 in
theorem oj_X12_setKind_65 {xs : List Int32} {d : Nat} {S : QS} {L : QL} {Q : QO → QS → Prop} {m : MM} {y1 y2 y3 y4 y5 y6 y7 s0 : Int} {v0 : Value} {v1 : Value} {v2 : Value} {v3 : Value} {v4 : Value} {v5 : Value} {v6 : Value} {v7 : Value} {w0 : Value}  {rz : Int} {rm : MM}
  (hd : 1 ≤ d) (R : Rp S m) (l0 : q_lo L 0 = some v0) (f0 : q_is 2 v0 68) (l1 : q_lo L 1 = some v1) (f1 : q_is 0 v1 y1) (l2 : q_lo L 2 = some v2) (f2 : q_is 0 v2 y2) (l3 : q_lo L 3 = some v3) (f3 : q_is 0 v3 y3) (l4 : q_lo L 4 = some v4) (f4 : q_is 0 v4 y4) (l5 : q_lo L 5 = some v5) (f5 : q_is 0 v5 y5) (l6 : q_lo L 6 = some v6) (f6 : q_is 0 v6 y6) (l7 : q_lo L 7 = some v7) (f7 : q_is 0 v7 y7) (fs0 : q_is 0 w0 s0)
  (hQ : Ext m rm → ∀ o S1, Rp S1 rm → q_out 9 o rz → Q o S1)
  (h : fj_X12_setKind_65 y1 y2 y3 y4 y5 y6 y7 s0 m = some (rz, rm)) : Go xs d qM_X12_setKind 65 L [w0] S Q := by
  unfold fj_X12_setKind_65 at h
  refine go_istore (n := 8) (by decide +kernel) (by decide +kernel) fs0 fun L_40 l_41 kp_42 => ?_
  have l_43 := kp_42 0 _ l0 (by decide) (Or.inl (by decide))
  have l_44 := kp_42 1 _ l1 (by decide) (Or.inl (by decide))
  have l_45 := kp_42 2 _ l2 (by decide) (Or.inl (by decide))
  have l_46 := kp_42 3 _ l3 (by decide) (Or.inl (by decide))
  have l_47 := kp_42 4 _ l4 (by decide) (Or.inl (by decide))
  have l_48 := kp_42 5 _ l5 (by decide) (Or.inl (by decide))
  have l_49 := kp_42 6 _ l6 (by decide) (Or.inl (by decide))
  have l_50 := kp_42 7 _ l7 (by decide) (Or.inr (q_is_cat f7 (Or.inl rfl)))
  refine go_aload_n (n := 0) (by decide +kernel) l_43 f0 ?_
  refine go_iload (n := 7) (by decide +kernel) l_50 f7 ?_
  refine go_if (c := .ne) (o := 7) (t := 77) (P := ¬ (y7 = 0)) (by decide +kernel) (by decide +kernel) f7 (Iff.rfl) (fun hp_51 => ?_) (fun hp_51 => ?_)
  · have h := it_f hp_51 h
    refine go_iload (n := 8) (by decide +kernel) l_41 fs0 ?_
    refine go_if (c := .eq) (o := 7) (t := 86) (P := s0 = 0) (by decide +kernel) (by decide +kernel) fs0 (Iff.rfl) (fun hp_52 => ?_) (fun hp_52 => ?_)
    · have h := it_t hp_52 h
      refine go_iconst (n := 2) (z := 2) (by decide +kernel) (by decide) fun v_53 f_54 => ?_
      exact oj_X12_setKind_87 hd R l_43 f0 l_44 f1 l_45 f2 l_46 f3 l_47 f4 l_48 f5 l_49 f6 f_54 f0 hQ h
    · have h := it_f hp_52 h
      refine go_iconst (n := 0) (z := 0) (by decide +kernel) (by decide) fun v_112 f_113 => ?_
      refine go_goto (o := 4) (t := 87) (by decide +kernel) (by decide +kernel) ?_
      exact oj_X12_setKind_87 hd R l_43 f0 l_44 f1 l_45 f2 l_46 f3 l_47 f4 l_48 f5 l_49 f6 f_113 f0 hQ h
  · have h := it_n hp_51 h
    refine go_iconst (n := 1) (z := 1) (by decide +kernel) (by decide) fun v_114 f_115 => ?_
    refine go_goto (o := 13) (t := 87) (by decide +kernel) (by decide +kernel) ?_
    exact oj_X12_setKind_87 hd R l_43 f0 l_44 f1 l_45 f2 l_46 f3 l_47 f4 l_48 f5 l_49 f6 f_115 f0 hQ h
noncomputable def fm_X12_setKind (p1 p2 p3 p4 p5 p6 : Int) (m0 : MM) : Option (Int × MM) := bp (fm_X12_isIn p1 0 3 m0) fun x_6 =>
bp (fm_X12_isIn p2 1 4 m0) fun x_29 =>
if x_29 = 0 then
fj_X12_setKind_65 p1 p2 p3 p4 p5 p6 x_6 0 m0
else
bp (fm_X12_isIn p3 0 20 m0) fun x_121 =>
if x_121 = 0 then
fj_X12_setKind_65 p1 p2 p3 p4 p5 p6 x_6 0 m0
else
bp (fm_X12_isIn p4 0 50 m0) fun x_137 =>
if x_137 = 0 then
fj_X12_setKind_65 p1 p2 p3 p4 p5 p6 x_6 0 m0
else
bp (fm_X12_isIn p5 0 50 m0) fun x_153 =>
if x_153 = 0 then
fj_X12_setKind_65 p1 p2 p3 p4 p5 p6 x_6 0 m0
else
bp (fm_X12_isIn p6 0 50 m0) fun x_169 =>
if x_169 = 0 then
fj_X12_setKind_65 p1 p2 p3 p4 p5 p6 x_6 0 m0
else
fj_X12_setKind_65 p1 p2 p3 p4 p5 p6 x_6 1 m0
set_option maxHeartbeats 4000000 in
theorem om_X12_setKind {xs : List Int32} {d : Nat} {S : QS} {m0 : MM} {p1 p2 p3 p4 p5 p6 : Int} {v0 : Value} {v1 : Value} {v2 : Value} {v3 : Value} {v4 : Value} {v5 : Value} {v6 : Value} {rz : Int} {rm : MM}
  (hd : 2 ≤ d) (R : Rp S m0) (f0 : q_is 2 v0 68) (f1 : q_is 0 v1 p1) (f2 : q_is 0 v2 p2) (f3 : q_is 0 v3 p3) (f4 : q_is 0 v4 p4) (f5 : q_is 0 v5 p5) (f6 : q_is 0 v6 p6)
  (h : fm_X12_setKind p1 p2 p3 p4 p5 p6 m0 = some (rz, rm)) : Mt xs d 201 [v0, v1, v2, v3, v4, v5, v6] S (Cr 9 m0 rm rz) := by
  obtain ⟨d, rfl⟩ : ∃ e, d = e + 1 := ⟨d - 1, by omega⟩
  have hd : 1 ≤ d := Nat.le_of_succ_le_succ hd
  refine Mt.of (M := qM_X12_setKind) rfl (by rw [sl_1 (q_is_cat f0 (Or.inr rfl)), sl_1 (q_is_cat f1 (Or.inl rfl)), sl_1 (q_is_cat f2 (Or.inl rfl)), sl_1 (q_is_cat f3 (Or.inl rfl)), sl_1 (q_is_cat f4 (Or.inl rfl)), sl_1 (q_is_cat f5 (Or.inl rfl)), sl_1 (q_is_cat f6 (Or.inl rfl)), sl_0]; decide) ?_
  rw [la_1 (q_is_cat f0 (Or.inr rfl)), la_1 (q_is_cat f1 (Or.inl rfl)), la_1 (q_is_cat f2 (Or.inl rfl)), la_1 (q_is_cat f3 (Or.inl rfl)), la_1 (q_is_cat f4 (Or.inl rfl)), la_1 (q_is_cat f5 (Or.inl rfl)), la_1 (q_is_cat f6 (Or.inl rfl)), la_0]
  obtain ⟨L, hL⟩ : ∃ L : QL, L = [(0, v0), (0 + 1, v1), (0 + 1 + 1, v2), (0 + 1 + 1 + 1, v3), (0 + 1 + 1 + 1 + 1, v4), (0 + 1 + 1 + 1 + 1 + 1, v5), (0 + 1 + 1 + 1 + 1 + 1 + 1, v6)] := ⟨_, rfl⟩
  rw [← hL]
  have l0 : q_lo L 0 = some v0 := by rw [hL]; rfl
  have l1 : q_lo L 1 = some v1 := by rw [hL]; rfl
  have l2 : q_lo L 2 = some v2 := by rw [hL]; rfl
  have l3 : q_lo L 3 = some v3 := by rw [hL]; rfl
  have l4 : q_lo L 4 = some v4 := by rw [hL]; rfl
  have l5 : q_lo L 5 = some v5 := by rw [hL]; rfl
  have l6 : q_lo L 6 = some v6 := by rw [hL]; rfl
  have hQ : Ext m0 rm → ∀ o S1, Rp S1 rm → q_out 9 o rz → (Cr 9 m0 rm rz) o S1 := fun a o S1 b e => ⟨b, a, e⟩
  unfold fm_X12_setKind at h
  refine go_iload_n (n := 1) (by decide +kernel) l1 f1 ?_
  refine go_iconst (n := 0) (z := 0) (by decide +kernel) (by decide) fun v_1 f_2 => ?_
  refine go_iconst (n := 3) (z := 3) (by decide +kernel) (by decide) fun v_3 f_4 => ?_
  obtain ⟨x_6, hc_5, h⟩ := bp_s h
  refine go_callS (x := 306) (mi := 188) (n := 3) (b := 0) (as := [v1, v_1, v_3]) (rest := []) (by decide +kernel) (by decide +kernel) rfl rfl (q_sum8 _ (Nat.le_of_ble_eq_true rfl)) (om_X12_isIn (Nat.le_trans (by decide) hd) R f1 f_2 f_4 hc_5) (fun _ S_10 q_13 => ?_) (fun _ _ qq => kr_x qq)
  refine kr_z (by decide) q_13 fun v_8 f_9 R_11 E_12 => ?_
  refine go_istore (n := 7) (by decide +kernel) (by decide +kernel) f_9 fun L_14 l_15 kp_16 => ?_
  have l_17 := kp_16 0 _ l0 (by decide) (Or.inl (by decide))
  have l_18 := kp_16 1 _ l1 (by decide) (Or.inl (by decide))
  have l_19 := kp_16 2 _ l2 (by decide) (Or.inl (by decide))
  have l_20 := kp_16 3 _ l3 (by decide) (Or.inl (by decide))
  have l_21 := kp_16 4 _ l4 (by decide) (Or.inl (by decide))
  have l_22 := kp_16 5 _ l5 (by decide) (Or.inl (by decide))
  have l_23 := kp_16 6 _ l6 (by decide) (Or.inr (q_is_cat f6 (Or.inl rfl)))
  refine go_iload_n (n := 2) (by decide +kernel) l_19 f2 ?_
  refine go_iconst (n := 1) (z := 1) (by decide +kernel) (by decide) fun v_24 f_25 => ?_
  refine go_iconst (n := 4) (z := 4) (by decide +kernel) (by decide) fun v_26 f_27 => ?_
  obtain ⟨x_29, hc_28, h⟩ := bp_s h
  refine go_callS (x := 306) (mi := 188) (n := 3) (b := 0) (as := [v2, v_24, v_26]) (rest := []) (by decide +kernel) (by decide +kernel) rfl rfl (q_sum8 _ (Nat.le_of_ble_eq_true rfl)) (om_X12_isIn (Nat.le_trans (by decide) hd) R_11 f2 f_25 f_27 hc_28) (fun _ S_33 q_36 => ?_) (fun _ _ qq => kr_x qq)
  refine kr_z (by decide) q_36 fun v_31 f_32 R_34 E_35 => ?_
  refine go_if (c := .eq) (o := 50) (t := 64) (P := x_29 = 0) (by decide +kernel) (by decide +kernel) f_32 (Iff.rfl) (fun hp_37 => ?_) (fun hp_37 => ?_)
  · have h := it_t hp_37 h
    refine go_iconst (n := 0) (z := 0) (by decide +kernel) (by decide) fun v_38 f_39 => ?_
    exact oj_X12_setKind_65 hd R_34 l_17 f0 l_18 f1 l_19 f2 l_20 f3 l_21 f4 l_22 f5 l_23 f6 l_15 f_9 f_39 hQ h
  · have h := it_f hp_37 h
    refine go_iload_n (n := 3) (by decide +kernel) l_20 f3 ?_
    refine go_iconst (n := 0) (z := 0) (by decide +kernel) (by decide) fun v_116 f_117 => ?_
    refine go_bipush (n := 20) (z := 20) (by decide +kernel) (by decide) fun v_118 f_119 => ?_
    obtain ⟨x_121, hc_120, h⟩ := bp_s h
    refine go_callS (x := 306) (mi := 188) (n := 3) (b := 0) (as := [v3, v_116, v_118]) (rest := []) (by decide +kernel) (by decide +kernel) rfl rfl (q_sum8 _ (Nat.le_of_ble_eq_true rfl)) (om_X12_isIn (Nat.le_trans (by decide) hd) R_34 f3 f_117 f_119 hc_120) (fun _ S_125 q_128 => ?_) (fun _ _ qq => kr_x qq)
    refine kr_z (by decide) q_128 fun v_123 f_124 R_126 E_127 => ?_
    refine go_if (c := .eq) (o := 40) (t := 64) (P := x_121 = 0) (by decide +kernel) (by decide +kernel) f_124 (Iff.rfl) (fun hp_129 => ?_) (fun hp_129 => ?_)
    · have h := it_t hp_129 h
      refine go_iconst (n := 0) (z := 0) (by decide +kernel) (by decide) fun v_130 f_131 => ?_
      exact oj_X12_setKind_65 hd R_126 l_17 f0 l_18 f1 l_19 f2 l_20 f3 l_21 f4 l_22 f5 l_23 f6 l_15 f_9 f_131 hQ h
    · have h := it_f hp_129 h
      refine go_iload (n := 4) (by decide +kernel) l_21 f4 ?_
      refine go_iconst (n := 0) (z := 0) (by decide +kernel) (by decide) fun v_132 f_133 => ?_
      refine go_bipush (n := 50) (z := 50) (by decide +kernel) (by decide) fun v_134 f_135 => ?_
      obtain ⟨x_137, hc_136, h⟩ := bp_s h
      refine go_callS (x := 306) (mi := 188) (n := 3) (b := 0) (as := [v4, v_132, v_134]) (rest := []) (by decide +kernel) (by decide +kernel) rfl rfl (q_sum8 _ (Nat.le_of_ble_eq_true rfl)) (om_X12_isIn (Nat.le_trans (by decide) hd) R_126 f4 f_133 f_135 hc_136) (fun _ S_141 q_144 => ?_) (fun _ _ qq => kr_x qq)
      refine kr_z (by decide) q_144 fun v_139 f_140 R_142 E_143 => ?_
      refine go_if (c := .eq) (o := 29) (t := 64) (P := x_137 = 0) (by decide +kernel) (by decide +kernel) f_140 (Iff.rfl) (fun hp_145 => ?_) (fun hp_145 => ?_)
      · have h := it_t hp_145 h
        refine go_iconst (n := 0) (z := 0) (by decide +kernel) (by decide) fun v_146 f_147 => ?_
        exact oj_X12_setKind_65 hd R_142 l_17 f0 l_18 f1 l_19 f2 l_20 f3 l_21 f4 l_22 f5 l_23 f6 l_15 f_9 f_147 hQ h
      · have h := it_f hp_145 h
        refine go_iload (n := 5) (by decide +kernel) l_22 f5 ?_
        refine go_iconst (n := 0) (z := 0) (by decide +kernel) (by decide) fun v_148 f_149 => ?_
        refine go_bipush (n := 50) (z := 50) (by decide +kernel) (by decide) fun v_150 f_151 => ?_
        obtain ⟨x_153, hc_152, h⟩ := bp_s h
        refine go_callS (x := 306) (mi := 188) (n := 3) (b := 0) (as := [v5, v_148, v_150]) (rest := []) (by decide +kernel) (by decide +kernel) rfl rfl (q_sum8 _ (Nat.le_of_ble_eq_true rfl)) (om_X12_isIn (Nat.le_trans (by decide) hd) R_142 f5 f_149 f_151 hc_152) (fun _ S_157 q_160 => ?_) (fun _ _ qq => kr_x qq)
        refine kr_z (by decide) q_160 fun v_155 f_156 R_158 E_159 => ?_
        refine go_if (c := .eq) (o := 18) (t := 64) (P := x_153 = 0) (by decide +kernel) (by decide +kernel) f_156 (Iff.rfl) (fun hp_161 => ?_) (fun hp_161 => ?_)
        · have h := it_t hp_161 h
          refine go_iconst (n := 0) (z := 0) (by decide +kernel) (by decide) fun v_162 f_163 => ?_
          exact oj_X12_setKind_65 hd R_158 l_17 f0 l_18 f1 l_19 f2 l_20 f3 l_21 f4 l_22 f5 l_23 f6 l_15 f_9 f_163 hQ h
        · have h := it_f hp_161 h
          refine go_iload (n := 6) (by decide +kernel) l_23 f6 ?_
          refine go_iconst (n := 0) (z := 0) (by decide +kernel) (by decide) fun v_164 f_165 => ?_
          refine go_bipush (n := 50) (z := 50) (by decide +kernel) (by decide) fun v_166 f_167 => ?_
          obtain ⟨x_169, hc_168, h⟩ := bp_s h
          refine go_callS (x := 306) (mi := 188) (n := 3) (b := 0) (as := [v6, v_164, v_166]) (rest := []) (by decide +kernel) (by decide +kernel) rfl rfl (q_sum8 _ (Nat.le_of_ble_eq_true rfl)) (om_X12_isIn (Nat.le_trans (by decide) hd) R_158 f6 f_165 f_167 hc_168) (fun _ S_173 q_176 => ?_) (fun _ _ qq => kr_x qq)
          refine kr_z (by decide) q_176 fun v_171 f_172 R_174 E_175 => ?_
          refine go_if (c := .eq) (o := 7) (t := 64) (P := x_169 = 0) (by decide +kernel) (by decide +kernel) f_172 (Iff.rfl) (fun hp_177 => ?_) (fun hp_177 => ?_)
          · have h := it_t hp_177 h
            refine go_iconst (n := 0) (z := 0) (by decide +kernel) (by decide) fun v_178 f_179 => ?_
            exact oj_X12_setKind_65 hd R_174 l_17 f0 l_18 f1 l_19 f2 l_20 f3 l_21 f4 l_22 f5 l_23 f6 l_15 f_9 f_179 hQ h
          · have h := it_f hp_177 h
            refine go_iconst (n := 1) (z := 1) (by decide +kernel) (by decide) fun v_180 f_181 => ?_
            refine go_goto (o := 4) (t := 65) (by decide +kernel) (by decide +kernel) ?_
            exact oj_X12_setKind_65 hd R_174 l_17 f0 l_18 f1 l_19 f2 l_20 f3 l_21 f4 l_22 f5 l_23 f6 l_15 f_9 f_181 hQ h
noncomputable def fj_X12_setPolicy_26 (y1 y2 s0 : Int) (m : MM) : Option (Int × MM) := bd (fm_X12_fails s0 m) fun x_28 m_29 =>
if x_28 = 0 then
gd (0 ≤ y1 ∧ y1 < 4) <| lx (m_29 79 y1) fun x_45 =>
up m_29 79 y1 y2 fun m_56 =>
some (x_45, m_56)
else
some (0, m_29)
set_option maxHeartbeats 4000000 in
theorem oj_X12_setPolicy_26 {xs : List Int32} {d : Nat} {S : QS} {L : QL} {Q : QO → QS → Prop} {m : MM} {y1 y2 s0 : Int} {v0 : Value} {v1 : Value} {v2 : Value} {w0 : Value} {w1 : Value}  {rz : Int} {rm : MM}
  (hd : 2 ≤ d) (R : Rp S m) (l0 : q_lo L 0 = some v0) (f0 : q_is 2 v0 68) (l1 : q_lo L 1 = some v1) (f1 : q_is 0 v1 y1) (l2 : q_lo L 2 = some v2) (f2 : q_is 0 v2 y2) (fs0 : q_is 0 w0 s0) (fs1 : q_is 2 w1 68)
  (hQ : Ext m rm → ∀ o S1, Rp S1 rm → q_out 0 o rz → Q o S1)
  (h : fj_X12_setPolicy_26 y1 y2 s0 m = some (rz, rm)) : Go xs d qM_X12_setPolicy 26 L [w0, w1] S Q := by
  unfold fj_X12_setPolicy_26 at h
  obtain ⟨x_28, m_29, hc_27, h⟩ := bd_s h
  refine go_callV (x := 324) (mi := 186) (n := 1) (ci := 13) (as := [w0]) (rest := []) (by decide +kernel) (by decide +kernel) rfl rfl (q_sum8 _ (Nat.le_of_ble_eq_true rfl)) R fs1 (fx_k (c := 13) R (by decide +kernel)) (om_X12_fails (Nat.le_trans (by decide) hd) R fs1 fs0 hc_27) (fun _ S_32 q_35 => ?_) (fun _ _ qq => kr_x qq)
  refine kr_z (by decide) q_35 fun v_30 f_31 R_33 E_34 => ?_
  have E_36 := E_34
  refine go_if (c := .eq) (o := 5) (t := 34) (P := x_28 = 0) (by decide +kernel) (by decide +kernel) f_31 (Iff.rfl) (fun hp_37 => ?_) (fun hp_37 => ?_)
  · have h := it_t hp_37 h
    refine go_aload_n (n := 0) (by decide +kernel) l0 f0 ?_
    refine go_getf (x := 40) (ci := 13) (kf := 11) (fin := 1) (t := 2) (by decide +kernel) (by decide +kernel) (by decide +kernel) R_33 f0 (fx_k (c := 13) R_33 (by decide +kernel)) fun v_38 f_39 => ?_
    have f_40 := q_is_eq (b := 79) f_39 (fx_v R_33 (by decide +kernel)).symm
    refine go_iload_n (n := 1) (by decide +kernel) l1 f1 ?_
    obtain ⟨g_43, h⟩ := gd_s h
    obtain ⟨x_45, e_46, h⟩ := lx_s h
    refine go_iald (kd := 100) (by decide +kernel) rfl R_33 f_40 f1 (fx_k (c := 100) R_33 (by decide +kernel)) (fx_x (a := 79) (ln := 4) R_33 (by decide +kernel) g_43) fun v_41 f_42 => ?_
    have f_44 := q_is_eq f_42 e_46
    refine go_istore_n (n := 3) (by decide +kernel) (by decide +kernel) f_44 fun L_47 l_48 kp_49 => ?_
    have l_50 := kp_49 0 _ l0 (by decide) (Or.inl (by decide))
    have l_51 := kp_49 1 _ l1 (by decide) (Or.inl (by decide))
    have l_52 := kp_49 2 _ l2 (by decide) (Or.inr (q_is_cat f2 (Or.inl rfl)))
    refine go_aload_n (n := 0) (by decide +kernel) l_50 f0 ?_
    refine go_getf (x := 40) (ci := 13) (kf := 11) (fin := 1) (t := 2) (by decide +kernel) (by decide +kernel) (by decide +kernel) R_33 f0 (fx_k (c := 13) R_33 (by decide +kernel)) fun v_53 f_54 => ?_
    have f_55 := q_is_eq (b := 79) f_54 (fx_v R_33 (by decide +kernel)).symm
    refine go_iload_n (n := 1) (by decide +kernel) l_51 f1 ?_
    refine go_iload_n (n := 2) (by decide +kernel) l_52 f2 ?_
    obtain ⟨m_56, e_57, h⟩ := up_s h
    refine go_iast (kd := 100) (by decide +kernel) rfl R_33 f_55 f1 f2 (fx_k (c := 100) R_33 (by decide +kernel)) (fx_x (a := 79) (ln := 4) R_33 (by decide +kernel) g_43) e_57 (fx_a R_33.2 (fx_k (c := 100) R_33 (by decide +kernel)) (And.left (fx_x (a := 79) (ln := 4) R_33 (by decide +kernel) g_43)) (by decide +kernel)) fun S_58 R_59 E_60 => ?_
    have E_61 := Ext.tr E_36 E_60
    refine go_iload_n (n := 3) (by decide +kernel) l_48 f_44 ?_
    cases h
    exact go_iret (by decide +kernel) rfl (Or.inl rfl) f_44 (hQ E_61 _ _ R_59 (q_out_v (by decide) f_44))
  · have h := it_f hp_37 h
    refine go_iconst (n := 0) (z := 0) (by decide +kernel) (by decide) fun v_62 f_63 => ?_
    cases h
    exact go_iret (by decide +kernel) rfl (Or.inl rfl) f_63 (hQ E_36 _ _ R_33 (q_out_v (by decide) f_63))
noncomputable def fm_X12_setPolicy (p1 p2 : Int) (m0 : MM) : Option (Int × MM) := bp (fm_X12_isType p1 m0) fun x_2 =>
if x_2 = 0 then
fj_X12_setPolicy_26 p1 p2 1 m0
else
bp (fm_X12_isIn p2 0 2 m0) fun x_16 =>
if x_16 = 0 then
fj_X12_setPolicy_26 p1 p2 2 m0
else
fj_X12_setPolicy_26 p1 p2 0 m0
set_option maxHeartbeats 4000000 in
theorem om_X12_setPolicy {xs : List Int32} {d : Nat} {S : QS} {m0 : MM} {p1 p2 : Int} {v0 : Value} {v1 : Value} {v2 : Value} {rz : Int} {rm : MM}
  (hd : 3 ≤ d) (R : Rp S m0) (f0 : q_is 2 v0 68) (f1 : q_is 0 v1 p1) (f2 : q_is 0 v2 p2)
  (h : fm_X12_setPolicy p1 p2 m0 = some (rz, rm)) : Mt xs d 202 [v0, v1, v2] S (Cr 0 m0 rm rz) := by
  obtain ⟨d, rfl⟩ : ∃ e, d = e + 1 := ⟨d - 1, by omega⟩
  have hd : 2 ≤ d := Nat.le_of_succ_le_succ hd
  refine Mt.of (M := qM_X12_setPolicy) rfl (by rw [sl_1 (q_is_cat f0 (Or.inr rfl)), sl_1 (q_is_cat f1 (Or.inl rfl)), sl_1 (q_is_cat f2 (Or.inl rfl)), sl_0]; decide) ?_
  rw [la_1 (q_is_cat f0 (Or.inr rfl)), la_1 (q_is_cat f1 (Or.inl rfl)), la_1 (q_is_cat f2 (Or.inl rfl)), la_0]
  obtain ⟨L, hL⟩ : ∃ L : QL, L = [(0, v0), (0 + 1, v1), (0 + 1 + 1, v2)] := ⟨_, rfl⟩
  rw [← hL]
  have l0 : q_lo L 0 = some v0 := by rw [hL]; rfl
  have l1 : q_lo L 1 = some v1 := by rw [hL]; rfl
  have l2 : q_lo L 2 = some v2 := by rw [hL]; rfl
  have hQ : Ext m0 rm → ∀ o S1, Rp S1 rm → q_out 0 o rz → (Cr 0 m0 rm rz) o S1 := fun a o S1 b e => ⟨b, a, e⟩
  unfold fm_X12_setPolicy at h
  refine go_aload_n (n := 0) (by decide +kernel) l0 f0 ?_
  refine go_iload_n (n := 1) (by decide +kernel) l1 f1 ?_
  obtain ⟨x_2, hc_1, h⟩ := bp_s h
  refine go_callS (x := 313) (mi := 191) (n := 1) (b := 0) (as := [v1]) (rest := [v0]) (by decide +kernel) (by decide +kernel) rfl rfl (q_sum8 _ (Nat.le_of_ble_eq_true rfl)) (om_X12_isType (Nat.le_trans (by decide) hd) R f1 hc_1) (fun _ S_6 q_9 => ?_) (fun _ _ qq => kr_x qq)
  refine kr_z (by decide) q_9 fun v_4 f_5 R_7 E_8 => ?_
  refine go_if (c := .ne) (o := 7) (t := 12) (P := ¬ (x_2 = 0)) (by decide +kernel) (by decide +kernel) f_5 (Iff.rfl) (fun hp_10 => ?_) (fun hp_10 => ?_)
  · have h := it_f hp_10 h
    refine go_iload_n (n := 2) (by decide +kernel) l2 f2 ?_
    refine go_iconst (n := 0) (z := 0) (by decide +kernel) (by decide) fun v_11 f_12 => ?_
    refine go_iconst (n := 2) (z := 2) (by decide +kernel) (by decide) fun v_13 f_14 => ?_
    obtain ⟨x_16, hc_15, h⟩ := bp_s h
    refine go_callS (x := 306) (mi := 188) (n := 3) (b := 0) (as := [v2, v_11, v_13]) (rest := [v0]) (by decide +kernel) (by decide +kernel) rfl rfl (q_sum8 _ (Nat.le_of_ble_eq_true rfl)) (om_X12_isIn (Nat.le_trans (by decide) hd) R_7 f2 f_12 f_14 hc_15) (fun _ S_20 q_23 => ?_) (fun _ _ qq => kr_x qq)
    refine kr_z (by decide) q_23 fun v_18 f_19 R_21 E_22 => ?_
    refine go_if (c := .eq) (o := 7) (t := 25) (P := x_16 = 0) (by decide +kernel) (by decide +kernel) f_19 (Iff.rfl) (fun hp_24 => ?_) (fun hp_24 => ?_)
    · have h := it_t hp_24 h
      refine go_iconst (n := 2) (z := 2) (by decide +kernel) (by decide) fun v_25 f_26 => ?_
      exact oj_X12_setPolicy_26 hd R_21 l0 f0 l1 f1 l2 f2 f_26 f0 hQ h
    · have h := it_f hp_24 h
      refine go_iconst (n := 0) (z := 0) (by decide +kernel) (by decide) fun v_64 f_65 => ?_
      refine go_goto (o := 4) (t := 26) (by decide +kernel) (by decide +kernel) ?_
      exact oj_X12_setPolicy_26 hd R_21 l0 f0 l1 f1 l2 f2 f_65 f0 hQ h
  · have h := it_n hp_10 h
    refine go_iconst (n := 1) (z := 1) (by decide +kernel) (by decide) fun v_66 f_67 => ?_
    refine go_goto (o := 17) (t := 26) (by decide +kernel) (by decide +kernel) ?_
    exact oj_X12_setPolicy_26 hd R_7 l0 f0 l1 f1 l2 f2 f_67 f0 hQ h
noncomputable def fl_X12_at_2 (y2 : Int) (m0 : MM) (k22 : Int → Option Int) : Nat → Int → Option Int
  | 0, _ => none
  | n + 1, y3 => gd (0 ≤ y3 ∧ y3 < 30) <| lx (m0 88 y3) fun x_13 =>
if y2 < x_13 then
lx (m0 87 y3) fun x_22 =>
fl_X12_at_2 y2 m0 k22 n x_22
else
k22 y3
set_option maxHeartbeats 4000000 in
theorem ol_X12_at_2 {xs : List Int32} {d : Nat} {Q : QO → QS → Prop} {m0 : MM} {y2 : Int} {k22 : Int → Option Int} {rz : Int}
  (hd : 0 ≤ d)
  (hk22 : ∀ {z3 : Int} {Sq : QS} {Lq : QL} {u0 : Value} {u2 : Value} {u3 : Value}, k22 z3 = some rz → Rp Sq m0 → q_lo Lq 0 = some u0 → q_is 2 u0 68 → q_lo Lq 2 = some u2 → q_is 0 u2 y2 → q_lo Lq 3 = some u3 → q_is 0 u3 z3 → Go xs d qM_X12_at 22 Lq [] Sq Q)
  (hQ : ∀ o S1, Rp S1 m0 → q_out 0 o rz → Q o S1) :
  ∀ (n : Nat) {S : QS} {L : QL} {y3 : Int} {v0 : Value} {v2 : Value} {v3 : Value} , fl_X12_at_2 y2 m0 k22 n y3 = some rz → Rp S m0 → q_lo L 0 = some v0 → q_is 2 v0 68 → q_lo L 2 = some v2 → q_is 0 v2 y2 → q_lo L 3 = some v3 → q_is 0 v3 y3 → Go xs d qM_X12_at 2 L [] S Q := by
  intro n
  induction n with
  | zero => intro S L y3 v0 v2 v3; intro h R l0 f0 l2 f2 l3 f3; cases h
  | succ n ih0 =>
    intro S L y3 v0 v2 v3; intro h R l0 f0 l2 f2 l3 f3
    have ih : ∀ {z3 : Int} {Sq : QS} {Lq : QL} {u0 : Value} {u2 : Value} {u3 : Value}, fl_X12_at_2 y2 m0 k22 n z3 = some rz → Rp Sq m0 → q_lo Lq 0 = some u0 → q_is 2 u0 68 → q_lo Lq 2 = some u2 → q_is 0 u2 y2 → q_lo Lq 3 = some u3 → q_is 0 u3 z3 → Go xs d qM_X12_at 2 Lq [] Sq Q := by intros; exact ih0 ‹_› ‹_› ‹_› ‹_› ‹_› ‹_› ‹_› ‹_›
    unfold fl_X12_at_2 at h
    refine go_iload_n (n := 2) (by decide +kernel) l2 f2 ?_
    refine go_aload_n (n := 0) (by decide +kernel) l0 f0 ?_
    refine go_getf (x := 67) (ci := 13) (kf := 21) (fin := 1) (t := 2) (by decide +kernel) (by decide +kernel) (by decide +kernel) R f0 (fx_k (c := 13) R (by decide +kernel)) fun v_6 f_7 => ?_
    have f_8 := q_is_eq (b := 88) f_7 (fx_v R (by decide +kernel)).symm
    refine go_iload_n (n := 3) (by decide +kernel) l3 f3 ?_
    obtain ⟨g_11, h⟩ := gd_s h
    obtain ⟨x_13, e_14, h⟩ := lx_s h
    refine go_iald (kd := 100) (by decide +kernel) rfl R f_8 f3 (fx_k (c := 100) R (by decide +kernel)) (fx_x (a := 88) (ln := 30) R (by decide +kernel) g_11) fun v_9 f_10 => ?_
    have f_12 := q_is_eq f_10 e_14
    refine go_icmp (c := .ge) (o := 13) (t := 22) (P := ¬ (y2 < x_13)) (by decide +kernel) (by decide +kernel) f2 f_12 (Int.not_lt.symm) (fun hp_15 => ?_) (fun hp_15 => ?_)
    · have h := it_f hp_15 h
      exact hk22 h R l0 f0 l2 f2 l3 f3
    · have h := it_n hp_15 h
      refine go_aload_n (n := 0) (by decide +kernel) l0 f0 ?_
      refine go_getf (x := 64) (ci := 13) (kf := 20) (fin := 1) (t := 2) (by decide +kernel) (by decide +kernel) (by decide +kernel) R f0 (fx_k (c := 13) R (by decide +kernel)) fun v_16 f_17 => ?_
      have f_18 := q_is_eq (b := 87) f_17 (fx_v R (by decide +kernel)).symm
      refine go_iload_n (n := 3) (by decide +kernel) l3 f3 ?_
      obtain ⟨x_22, e_23, h⟩ := lx_s h
      refine go_iald (kd := 100) (by decide +kernel) rfl R f_18 f3 (fx_k (c := 100) R (by decide +kernel)) (fx_x (a := 87) (ln := 30) R (by decide +kernel) g_11) fun v_19 f_20 => ?_
      have f_21 := q_is_eq f_20 e_23
      refine go_istore_n (n := 3) (by decide +kernel) (by decide +kernel) f_21 fun L_24 l_25 kp_26 => ?_
      have l_27 := kp_26 0 _ l0 (by decide) (Or.inl (by decide))
      have l_28 := kp_26 2 _ l2 (by decide) (Or.inr (q_is_cat f2 (Or.inl rfl)))
      refine go_goto (o := (-17)) (t := 2) (by decide +kernel) (by decide +kernel) ?_
      exact ih h R l_27 f0 l_28 f2 l_25 f_21
noncomputable def fm_X12_at (p1 p2 : Int) (m0 : MM) : Option Int := fl_X12_at_2 p2 m0 (fun x_29 =>
gd (0 ≤ x_29 ∧ x_29 < 30) <| lx (m0 88 x_29) fun x_49 =>
lx (w32 (p2 - x_49)) fun x_53 =>
gd (0 ≤ w32 ((w32 (2048 * x_29)) + (w32 (Int.tdiv x_53 256))) ∧ w32 ((w32 (2048 * x_29)) + (w32 (Int.tdiv x_53 256))) < 61440) <| lx (m0 96 (w32 ((w32 (2048 * x_29)) + (w32 (Int.tdiv x_53 256))))) fun x_80 =>
some (w32 ((w32 (256 * (w32 (x_80 - 1)))) + (Int.tmod x_53 256)))) BIG p1
set_option maxHeartbeats 4000000 in
theorem om_X12_at {xs : List Int32} {d : Nat} {S : QS} {m0 : MM} {p1 p2 : Int} {v0 : Value} {v1 : Value} {v2 : Value} {rz : Int}
  (hd : 1 ≤ d) (R : Rp S m0) (f0 : q_is 2 v0 68) (f1 : q_is 0 v1 p1) (f2 : q_is 0 v2 p2)
  (h : fm_X12_at p1 p2 m0 = some rz) : Mt xs d 203 [v0, v1, v2] S (Cr 0 m0 m0 rz) := by
  obtain ⟨d, rfl⟩ : ∃ e, d = e + 1 := ⟨d - 1, by omega⟩
  have hd : 0 ≤ d := Nat.le_of_succ_le_succ hd
  refine Mt.of (M := qM_X12_at) rfl (by rw [sl_1 (q_is_cat f0 (Or.inr rfl)), sl_1 (q_is_cat f1 (Or.inl rfl)), sl_1 (q_is_cat f2 (Or.inl rfl)), sl_0]; decide) ?_
  rw [la_1 (q_is_cat f0 (Or.inr rfl)), la_1 (q_is_cat f1 (Or.inl rfl)), la_1 (q_is_cat f2 (Or.inl rfl)), la_0]
  obtain ⟨L, hL⟩ : ∃ L : QL, L = [(0, v0), (0 + 1, v1), (0 + 1 + 1, v2)] := ⟨_, rfl⟩
  rw [← hL]
  have l0 : q_lo L 0 = some v0 := by rw [hL]; rfl
  have l1 : q_lo L 1 = some v1 := by rw [hL]; rfl
  have l2 : q_lo L 2 = some v2 := by rw [hL]; rfl
  have hQ : ∀ o S1, Rp S1 m0 → q_out 0 o rz → (Cr 0 m0 m0 rz) o S1 := fun o S1 a b => ⟨a, Ext.rf _, b⟩
  unfold fm_X12_at at h
  refine go_iload_n (n := 1) (by decide +kernel) l1 f1 ?_
  refine go_istore_n (n := 3) (by decide +kernel) (by decide +kernel) f1 fun L_1 l_2 kp_3 => ?_
  have l_4 := kp_3 0 _ l0 (by decide) (Or.inl (by decide))
  have l_5 := kp_3 2 _ l2 (by decide) (Or.inr (q_is_cat f2 (Or.inl rfl)))
  refine ol_X12_at_2 hd  ?_ hQ BIG h R l_4 f0 l_5 f2 l_2 f1
  intro x_29 S_39 L_40 v_30 v_31 v_32
  intro h R_41 l_33 f_36 l_34 f_37 l_35 f_38
  refine go_iload_n (n := 2) (by decide +kernel) l_34 f_37 ?_
  refine go_aload_n (n := 0) (by decide +kernel) l_33 f_36 ?_
  refine go_getf (x := 67) (ci := 13) (kf := 21) (fin := 1) (t := 2) (by decide +kernel) (by decide +kernel) (by decide +kernel) R_41 f_36 (fx_k (c := 13) R_41 (by decide +kernel)) fun v_42 f_43 => ?_
  have f_44 := q_is_eq (b := 88) f_43 (fx_v R_41 (by decide +kernel)).symm
  refine go_iload_n (n := 3) (by decide +kernel) l_35 f_38 ?_
  obtain ⟨g_47, h⟩ := gd_s h
  obtain ⟨x_49, e_50, h⟩ := lx_s h
  refine go_iald (kd := 100) (by decide +kernel) rfl R_41 f_44 f_38 (fx_k (c := 100) R_41 (by decide +kernel)) (fx_x (a := 88) (ln := 30) R_41 (by decide +kernel) g_47) fun v_45 f_46 => ?_
  have f_48 := q_is_eq f_46 e_50
  refine go_isub (by decide +kernel) f_37 f_48 fun v_51 f_52 => ?_
  obtain ⟨x_53, e_54, h⟩ := lx_s h
  have f_55 := q_is_eq f_52 e_54
  refine go_istore (n := 4) (by decide +kernel) (by decide +kernel) f_55 fun L_56 l_57 kp_58 => ?_
  have l_59 := kp_58 0 _ l_33 (by decide) (Or.inl (by decide))
  have l_60 := kp_58 3 _ l_35 (by decide) (Or.inr (q_is_cat f_38 (Or.inl rfl)))
  refine go_sipush (n := 256) (z := 256) (by decide +kernel) (by decide) fun v_61 f_62 => ?_
  refine go_aload_n (n := 0) (by decide +kernel) l_59 f_36 ?_
  refine go_getf (x := 98) (ci := 13) (kf := 31) (fin := 1) (t := 2) (by decide +kernel) (by decide +kernel) (by decide +kernel) R_41 f_36 (fx_k (c := 13) R_41 (by decide +kernel)) fun v_63 f_64 => ?_
  have f_65 := q_is_eq (b := 96) f_64 (fx_v R_41 (by decide +kernel)).symm
  refine go_sipush (n := 2048) (z := 2048) (by decide +kernel) (by decide) fun v_66 f_67 => ?_
  refine go_iload_n (n := 3) (by decide +kernel) l_60 f_38 ?_
  refine go_imul (by decide +kernel) f_67 f_38 fun v_68 f_69 => ?_
  refine go_iload (n := 4) (by decide +kernel) l_57 f_55 ?_
  refine go_sipush (n := 256) (z := 256) (by decide +kernel) (by decide) fun v_70 f_71 => ?_
  refine go_idiv (by decide +kernel) f_55 f_71 (by decide) fun v_72 f_73 => ?_
  refine go_iadd (by decide +kernel) f_69 f_73 fun v_74 f_75 => ?_
  obtain ⟨g_78, h⟩ := gd_s h
  obtain ⟨x_80, e_81, h⟩ := lx_s h
  refine go_iald (kd := 100) (by decide +kernel) rfl R_41 f_65 f_75 (fx_k (c := 100) R_41 (by decide +kernel)) (fx_x (a := 96) (ln := 61440) R_41 (by decide +kernel) g_78) fun v_76 f_77 => ?_
  have f_79 := q_is_eq f_77 e_81
  refine go_iconst (n := 1) (z := 1) (by decide +kernel) (by decide) fun v_82 f_83 => ?_
  refine go_isub (by decide +kernel) f_79 f_83 fun v_84 f_85 => ?_
  refine go_imul (by decide +kernel) f_62 f_85 fun v_86 f_87 => ?_
  refine go_iload (n := 4) (by decide +kernel) l_57 f_55 ?_
  refine go_sipush (n := 256) (z := 256) (by decide +kernel) (by decide) fun v_88 f_89 => ?_
  refine go_irem (by decide +kernel) f_55 f_89 (by decide) fun v_90 f_91 => ?_
  refine go_iadd (by decide +kernel) f_87 f_91 fun v_92 f_93 => ?_
  cases h
  exact go_iret (by decide +kernel) rfl (Or.inl rfl) f_93 (hQ _ _ R_41 (q_out_v (by decide) f_93))
end DF25
