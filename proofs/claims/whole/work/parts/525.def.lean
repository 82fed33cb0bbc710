/-! Methods as functions (written by wip/whole/dec.py), 25: X12_deploy, X12_setKind, X12_setPolicy, X12_at. -/
section DF25
noncomputable def fl_X12_deploy_71 (y1 y3 y4 : Int) (k149 : MM → Option (Int × MM)) : Nat → Int → MM → Option (Int × MM)
  | 0, _, _ => none
  | n + 1, y5, m => gd (0 ≤ w32 ((w32 (5 * y1)) + 4) ∧ w32 ((w32 (5 * y1)) + 4) < 20) <| lx (m 70 (w32 ((w32 (5 * y1)) + 4))) fun x_113 =>
if y5 < x_113 then
gd (0 ≤ w32 (y3 + y5) ∧ w32 (y3 + y5) < 480) <| lx (m 71 (w32 (y3 + y5))) fun x_130 =>
gd (0 ≤ w32 (y4 + y5) ∧ w32 (y4 + y5) < 480) <| up m 71 (w32 (y4 + y5)) x_130 fun m_133 =>
lx (m_133 72 (w32 (y3 + y5))) fun x_153 =>
up m_133 72 (w32 (y4 + y5)) x_153 fun m_155 =>
lx (m_155 73 (w32 (y3 + y5))) fun x_175 =>
up m_155 73 (w32 (y4 + y5)) x_175 fun m_177 =>
lx (w32 (y5 + 1)) fun x_189 =>
fl_X12_deploy_71 y1 y3 y4 k149 n x_189 m_177
else
k149 m
set_option maxHeartbeats 4000000 in
theorem ol_X12_deploy_71 {xs : List Int32} {d : Nat} {Q : QO → QS → Prop} {mb : MM} {y1 y3 y4 : Int} {k149 : MM → Option (Int × MM)} {rz : Int} {rm : MM}
  (hd : 2 ≤ d)
  (hk149 : ∀ mq : MM, Ext mb mq → ∀ {Sq : QS} {Lq : QL} {u0 : Value} {u1 : Value}, k149 mq = some (rz, rm) → Rp Sq mq → q_lo Lq 0 = some u0 → q_is 2 u0 68 → q_lo Lq 1 = some u1 → q_is 0 u1 y1 → Go xs d qM_X12_deploy 149 Lq [] Sq Q)
  (hQ : Ext mb rm → ∀ o S1, Rp S1 rm → q_out 0 o rz → Q o S1) :
  ∀ (n : Nat) {m : MM} {S : QS} {L : QL} {y5 : Int} {v0 : Value} {v1 : Value} {v3 : Value} {v4 : Value} {v5 : Value} , Ext mb m → fl_X12_deploy_71 y1 y3 y4 k149 n y5 m = some (rz, rm) → Rp S m → q_lo L 0 = some v0 → q_is 2 v0 68 → q_lo L 1 = some v1 → q_is 0 v1 y1 → q_lo L 3 = some v3 → q_is 0 v3 y3 → q_lo L 4 = some v4 → q_is 0 v4 y4 → q_lo L 5 = some v5 → q_is 0 v5 y5 → Go xs d qM_X12_deploy 71 L [] S Q := by
  intro n
  induction n with
  | zero => intro m S L y5 v0 v1 v3 v4 v5; intro E h R l0 f0 l1 f1 l3 f3 l4 f4 l5 f5; cases h
  | succ n ih0 =>
    intro m S L y5 v0 v1 v3 v4 v5; intro E h R l0 f0 l1 f1 l3 f3 l4 f4 l5 f5
    have ih : ∀ mq : MM, Ext mb mq → ∀ {z5 : Int} {Sq : QS} {Lq : QL} {u0 : Value} {u1 : Value} {u3 : Value} {u4 : Value} {u5 : Value}, fl_X12_deploy_71 y1 y3 y4 k149 n z5 mq = some (rz, rm) → Rp Sq mq → q_lo Lq 0 = some u0 → q_is 2 u0 68 → q_lo Lq 1 = some u1 → q_is 0 u1 y1 → q_lo Lq 3 = some u3 → q_is 0 u3 y3 → q_lo Lq 4 = some u4 → q_is 0 u4 y4 → q_lo Lq 5 = some u5 → q_is 0 u5 z5 → Go xs d qM_X12_deploy 71 Lq [] Sq Q := fun mq b => by intros; exact ih0 b ‹_› ‹_› ‹_› ‹_› ‹_› ‹_› ‹_› ‹_› ‹_› ‹_› ‹_› ‹_›
    unfold fl_X12_deploy_71 at h
    refine go_iload (n := 5) (by decide +kernel) l5 f5 ?_
    refine go_aload_n (n := 0) (by decide +kernel) l0 f0 ?_
    refine go_getf (x := 13) (ci := 13) (kf := 2) (fin := 1) (t := 2) (by decide +kernel) (by decide +kernel) (by decide +kernel) R f0 (fx_k (c := 13) R (by decide +kernel)) fun v_98 f_99 => ?_
    have f_100 := q_is_eq (b := 70) f_99 (fx_v R (by decide +kernel)).symm
    refine go_iconst (n := 5) (z := 5) (by decide +kernel) (by decide) fun v_101 f_102 => ?_
    refine go_iload_n (n := 1) (by decide +kernel) l1 f1 ?_
    refine go_imul (by decide +kernel) f_102 f1 fun v_103 f_104 => ?_
    refine go_iconst (n := 4) (z := 4) (by decide +kernel) (by decide) fun v_105 f_106 => ?_
    refine go_iadd (by decide +kernel) f_104 f_106 fun v_107 f_108 => ?_
    obtain ⟨g_111, h⟩ := gd_s h
    obtain ⟨x_113, e_114, h⟩ := lx_s h
    refine go_iald (kd := 100) (by decide +kernel) rfl R f_100 f_108 (fx_k (c := 100) R (by decide +kernel)) (fx_x (a := 70) (ln := 20) R (by decide +kernel) g_111) fun v_109 f_110 => ?_
    have f_112 := q_is_eq f_110 e_114
    refine go_icmp (c := .ge) (o := 66) (t := 149) (P := ¬ (y5 < x_113)) (by decide +kernel) (by decide +kernel) f5 f_112 (Int.not_lt.symm) (fun hp_115 => ?_) (fun hp_115 => ?_)
    · have h := it_f hp_115 h
      exact hk149 m E h R l0 f0 l1 f1
    · have h := it_n hp_115 h
      refine go_aload_n (n := 0) (by decide +kernel) l0 f0 ?_
      refine go_getf (x := 16) (ci := 13) (kf := 3) (fin := 1) (t := 2) (by decide +kernel) (by decide +kernel) (by decide +kernel) R f0 (fx_k (c := 13) R (by decide +kernel)) fun v_116 f_117 => ?_
      have f_118 := q_is_eq (b := 71) f_117 (fx_v R (by decide +kernel)).symm
      refine go_iload (n := 4) (by decide +kernel) l4 f4 ?_
      refine go_iload (n := 5) (by decide +kernel) l5 f5 ?_
      refine go_iadd (by decide +kernel) f4 f5 fun v_119 f_120 => ?_
      refine go_aload_n (n := 0) (by decide +kernel) l0 f0 ?_
      refine go_getf (x := 16) (ci := 13) (kf := 3) (fin := 1) (t := 2) (by decide +kernel) (by decide +kernel) (by decide +kernel) R f0 (fx_k (c := 13) R (by decide +kernel)) fun v_121 f_122 => ?_
      have f_123 := q_is_eq (b := 71) f_122 (fx_v R (by decide +kernel)).symm
      refine go_iload_n (n := 3) (by decide +kernel) l3 f3 ?_
      refine go_iload (n := 5) (by decide +kernel) l5 f5 ?_
      refine go_iadd (by decide +kernel) f3 f5 fun v_124 f_125 => ?_
      obtain ⟨g_128, h⟩ := gd_s h
      obtain ⟨x_130, e_131, h⟩ := lx_s h
      refine go_iald (kd := 100) (by decide +kernel) rfl R f_123 f_125 (fx_k (c := 100) R (by decide +kernel)) (fx_x (a := 71) (ln := 480) R (by decide +kernel) g_128) fun v_126 f_127 => ?_
      have f_129 := q_is_eq f_127 e_131
      obtain ⟨g_132, h⟩ := gd_s h
      obtain ⟨m_133, e_134, h⟩ := up_s h
      refine go_iast (kd := 100) (by decide +kernel) rfl R f_118 f_120 f_129 (fx_k (c := 100) R (by decide +kernel)) (fx_x (a := 71) (ln := 480) R (by decide +kernel) g_132) e_134 (fx_a R.2 (fx_k (c := 100) R (by decide +kernel)) (And.left (fx_x (a := 71) (ln := 480) R (by decide +kernel) g_132)) (by decide +kernel)) fun S_135 R_136 E_137 => ?_
      have E_139 := Ext.tr E E_137
      refine go_aload_n (n := 0) (by decide +kernel) l0 f0 ?_
      refine go_getf (x := 19) (ci := 13) (kf := 4) (fin := 1) (t := 2) (by decide +kernel) (by decide +kernel) (by decide +kernel) R_136 f0 (fx_k (c := 13) R_136 (by decide +kernel)) fun v_140 f_141 => ?_
      have f_142 := q_is_eq (b := 72) f_141 (fx_v R_136 (by decide +kernel)).symm
      refine go_iload (n := 4) (by decide +kernel) l4 f4 ?_
      refine go_iload (n := 5) (by decide +kernel) l5 f5 ?_
      refine go_iadd (by decide +kernel) f4 f5 fun v_143 f_144 => ?_
      refine go_aload_n (n := 0) (by decide +kernel) l0 f0 ?_
      refine go_getf (x := 19) (ci := 13) (kf := 4) (fin := 1) (t := 2) (by decide +kernel) (by decide +kernel) (by decide +kernel) R_136 f0 (fx_k (c := 13) R_136 (by decide +kernel)) fun v_145 f_146 => ?_
      have f_147 := q_is_eq (b := 72) f_146 (fx_v R_136 (by decide +kernel)).symm
      refine go_iload_n (n := 3) (by decide +kernel) l3 f3 ?_
      refine go_iload (n := 5) (by decide +kernel) l5 f5 ?_
      refine go_iadd (by decide +kernel) f3 f5 fun v_148 f_149 => ?_
      obtain ⟨x_153, e_154, h⟩ := lx_s h
      refine go_iald (kd := 100) (by decide +kernel) rfl R_136 f_147 f_149 (fx_k (c := 100) R_136 (by decide +kernel)) (fx_x (a := 72) (ln := 480) R_136 (by decide +kernel) g_128) fun v_150 f_151 => ?_
      have f_152 := q_is_eq f_151 e_154
      obtain ⟨m_155, e_156, h⟩ := up_s h
      refine go_iast (kd := 100) (by decide +kernel) rfl R_136 f_142 f_144 f_152 (fx_k (c := 100) R_136 (by decide +kernel)) (fx_x (a := 72) (ln := 480) R_136 (by decide +kernel) g_132) e_156 (fx_a R_136.2 (fx_k (c := 100) R_136 (by decide +kernel)) (And.left (fx_x (a := 72) (ln := 480) R_136 (by decide +kernel) g_132)) (by decide +kernel)) fun S_157 R_158 E_159 => ?_
      have E_161 := Ext.tr E_139 E_159
      refine go_aload_n (n := 0) (by decide +kernel) l0 f0 ?_
      refine go_getf (x := 22) (ci := 13) (kf := 5) (fin := 1) (t := 2) (by decide +kernel) (by decide +kernel) (by decide +kernel) R_158 f0 (fx_k (c := 13) R_158 (by decide +kernel)) fun v_162 f_163 => ?_
      have f_164 := q_is_eq (b := 73) f_163 (fx_v R_158 (by decide +kernel)).symm
      refine go_iload (n := 4) (by decide +kernel) l4 f4 ?_
      refine go_iload (n := 5) (by decide +kernel) l5 f5 ?_
      refine go_iadd (by decide +kernel) f4 f5 fun v_165 f_166 => ?_
      refine go_aload_n (n := 0) (by decide +kernel) l0 f0 ?_
      refine go_getf (x := 22) (ci := 13) (kf := 5) (fin := 1) (t := 2) (by decide +kernel) (by decide +kernel) (by decide +kernel) R_158 f0 (fx_k (c := 13) R_158 (by decide +kernel)) fun v_167 f_168 => ?_
      have f_169 := q_is_eq (b := 73) f_168 (fx_v R_158 (by decide +kernel)).symm
      refine go_iload_n (n := 3) (by decide +kernel) l3 f3 ?_
      refine go_iload (n := 5) (by decide +kernel) l5 f5 ?_
      refine go_iadd (by decide +kernel) f3 f5 fun v_170 f_171 => ?_
      obtain ⟨x_175, e_176, h⟩ := lx_s h
      refine go_iald (kd := 100) (by decide +kernel) rfl R_158 f_169 f_171 (fx_k (c := 100) R_158 (by decide +kernel)) (fx_x (a := 73) (ln := 480) R_158 (by decide +kernel) g_128) fun v_172 f_173 => ?_
      have f_174 := q_is_eq f_173 e_176
      obtain ⟨m_177, e_178, h⟩ := up_s h
      refine go_iast (kd := 100) (by decide +kernel) rfl R_158 f_164 f_166 f_174 (fx_k (c := 100) R_158 (by decide +kernel)) (fx_x (a := 73) (ln := 480) R_158 (by decide +kernel) g_132) e_178 (fx_a R_158.2 (fx_k (c := 100) R_158 (by decide +kernel)) (And.left (fx_x (a := 73) (ln := 480) R_158 (by decide +kernel) g_132)) (by decide +kernel)) fun S_179 R_180 E_181 => ?_
      have E_183 := Ext.tr E_161 E_181
      refine go_iinc (n := 5) (c := 1) (c' := 1) (by decide +kernel) (by decide +kernel) l5 f5 (by decide) fun L_184 v_185 f_186 l_187 kp_188 => ?_
      obtain ⟨x_189, e_190, h⟩ := lx_s h
      have f_191 := q_is_eq f_186 e_190
      have l_192 := kp_188 0 _ l0 (by decide) (Or.inl (by decide))
      have l_193 := kp_188 1 _ l1 (by decide) (Or.inl (by decide))
      have l_194 := kp_188 3 _ l3 (by decide) (Or.inl (by decide))
      have l_195 := kp_188 4 _ l4 (by decide) (Or.inr (q_is_cat f4 (Or.inl rfl)))
      refine go_goto (o := (-75)) (t := 71) (by decide +kernel) (by decide +kernel) ?_
      exact ih m_177 E_183 h R_180 l_192 f0 l_193 f1 l_194 f3 l_195 f4 l_187 f_191
noncomputable def fj_X12_deploy_42 (y1 s0 : Int) (m : MM) : Option (Int × MM) := bd (fm_X12_fails s0 m) fun x_37 m_38 =>
if x_37 = 0 then
bp (fm_X12_code y1 4 m_38) fun x_52 =>
gd (0 ≤ y1 ∧ y1 < 4) <| lx (m_38 69 y1) fun x_72 =>
bp (fm_X12_code y1 x_72 m_38) fun x_75 =>
fl_X12_deploy_71 y1 x_52 x_75 (fun m_205 =>
lx (m_205 69 y1) fun x_223 =>
gd (0 ≤ w32 ((w32 (5 * y1)) + 4) ∧ w32 ((w32 (5 * y1)) + 4) < 20) <| lx (m_205 70 (w32 ((w32 (5 * y1)) + 4))) fun x_242 =>
gd (0 ≤ w32 ((w32 (5 * y1)) + x_223) ∧ w32 ((w32 (5 * y1)) + x_223) < 20) <| up m_205 70 (w32 ((w32 (5 * y1)) + x_223)) x_242 fun m_245 =>
up m_245 70 (w32 ((w32 (5 * y1)) + 4)) 0 fun m_265 =>
lx (m_265 69 y1) fun x_278 =>
up m_265 69 y1 (w32 (x_278 + 1)) fun m_284 =>
lx (m_284 69 y1) fun x_297 =>
some (w32 (x_297 - 1), m_284)) BIG 0 m_38
else
some (0, m_38)
set_option maxHeartbeats 4000000 in
theorem oj_X12_deploy_42 {xs : List Int32} {d : Nat} {S : QS} {L : QL} {Q : QO → QS → Prop} {m : MM} {y1 s0 : Int} {v0 : Value} {v1 : Value} {w0 : Value} {w1 : Value}  {rz : Int} {rm : MM}
  (hd : 2 ≤ d) (R : Rp S m) (l0 : q_lo L 0 = some v0) (f0 : q_is 2 v0 68) (l1 : q_lo L 1 = some v1) (f1 : q_is 0 v1 y1) (fs0 : q_is 0 w0 s0) (fs1 : q_is 2 w1 68)
  (hQ : Ext m rm → ∀ o S1, Rp S1 rm → q_out 0 o rz → Q o S1)
  (h : fj_X12_deploy_42 y1 s0 m = some (rz, rm)) : Go xs d qM_X12_deploy 42 L [w0, w1] S Q := by
  unfold fj_X12_deploy_42 at h
  obtain ⟨x_37, m_38, hc_36, h⟩ := bd_s h
  refine go_callV (x := 324) (mi := 186) (n := 1) (ci := 13) (as := [w0]) (rest := []) (by decide +kernel) (by decide +kernel) rfl rfl (q_sum8 _ (Nat.le_of_ble_eq_true rfl)) R fs1 (fx_k (c := 13) R (by decide +kernel)) (om_X12_fails (Nat.le_trans (by decide) hd) R fs1 fs0 hc_36) (fun _ S_41 q_44 => ?_) (fun _ _ qq => kr_x qq)
  refine kr_z (by decide) q_44 fun v_39 f_40 R_42 E_43 => ?_
  have E_47 := E_43
  refine go_if (c := .eq) (o := 5) (t := 50) (P := x_37 = 0) (by decide +kernel) (by decide +kernel) f_40 (Iff.rfl) (fun hp_48 => ?_) (fun hp_48 => ?_)
  · have h := it_t hp_48 h
    refine go_iload_n (n := 1) (by decide +kernel) l1 f1 ?_
    refine go_iconst (n := 4) (z := 4) (by decide +kernel) (by decide) fun v_49 f_50 => ?_
    obtain ⟨x_52, hc_51, h⟩ := bp_s h
    refine go_callS (x := 327) (mi := 196) (n := 2) (b := 0) (as := [v1, v_49]) (rest := []) (by decide +kernel) (by decide +kernel) rfl rfl (q_sum8 _ (Nat.le_of_ble_eq_true rfl)) (om_X12_code (Nat.le_trans (by decide) hd) R_42 f1 f_50 hc_51) (fun _ S_56 q_59 => ?_) (fun _ _ qq => kr_x qq)
    refine kr_z (by decide) q_59 fun v_54 f_55 R_57 E_58 => ?_
    refine go_istore_n (n := 3) (by decide +kernel) (by decide +kernel) f_55 fun L_60 l_61 kp_62 => ?_
    have l_63 := kp_62 0 _ l0 (by decide) (Or.inl (by decide))
    have l_64 := kp_62 1 _ l1 (by decide) (Or.inl (by decide))
    refine go_iload_n (n := 1) (by decide +kernel) l_64 f1 ?_
    refine go_aload_n (n := 0) (by decide +kernel) l_63 f0 ?_
    refine go_getf (x := 7) (ci := 13) (kf := 1) (fin := 1) (t := 2) (by decide +kernel) (by decide +kernel) (by decide +kernel) R_57 f0 (fx_k (c := 13) R_57 (by decide +kernel)) fun v_65 f_66 => ?_
    have f_67 := q_is_eq (b := 69) f_66 (fx_v R_57 (by decide +kernel)).symm
    refine go_iload_n (n := 1) (by decide +kernel) l_64 f1 ?_
    obtain ⟨g_70, h⟩ := gd_s h
    obtain ⟨x_72, e_73, h⟩ := lx_s h
    refine go_iald (kd := 100) (by decide +kernel) rfl R_57 f_67 f1 (fx_k (c := 100) R_57 (by decide +kernel)) (fx_x (a := 69) (ln := 4) R_57 (by decide +kernel) g_70) fun v_68 f_69 => ?_
    have f_71 := q_is_eq f_69 e_73
    obtain ⟨x_75, hc_74, h⟩ := bp_s h
    refine go_callS (x := 327) (mi := 196) (n := 2) (b := 0) (as := [v1, v_68]) (rest := []) (by decide +kernel) (by decide +kernel) rfl rfl (q_sum8 _ (Nat.le_of_ble_eq_true rfl)) (om_X12_code (Nat.le_trans (by decide) hd) R_57 f1 f_71 hc_74) (fun _ S_79 q_82 => ?_) (fun _ _ qq => kr_x qq)
    refine kr_z (by decide) q_82 fun v_77 f_78 R_80 E_81 => ?_
    refine go_istore (n := 4) (by decide +kernel) (by decide +kernel) f_78 fun L_83 l_84 kp_85 => ?_
    have l_86 := kp_85 0 _ l_63 (by decide) (Or.inl (by decide))
    have l_87 := kp_85 1 _ l_64 (by decide) (Or.inl (by decide))
    have l_88 := kp_85 3 _ l_61 (by decide) (Or.inr (q_is_cat f_55 (Or.inl rfl)))
    refine go_iconst (n := 0) (z := 0) (by decide +kernel) (by decide) fun v_89 f_90 => ?_
    refine go_istore (n := 5) (by decide +kernel) (by decide +kernel) f_90 fun L_91 l_92 kp_93 => ?_
    have l_94 := kp_93 0 _ l_86 (by decide) (Or.inl (by decide))
    have l_95 := kp_93 1 _ l_87 (by decide) (Or.inl (by decide))
    have l_96 := kp_93 3 _ l_88 (by decide) (Or.inl (by decide))
    have l_97 := kp_93 4 _ l_84 (by decide) (Or.inr (q_is_cat f_78 (Or.inl rfl)))
    refine ol_X12_deploy_71 hd  ?_ (fun b => hQ (Ext.tr E_47 b)) BIG (Ext.rf _) h R_80 l_94 f0 l_95 f1 l_96 f_55 l_97 f_78 l_92 f_90
    intro m_205 E_206
    intro S_202 L_203 v_196 v_197
    intro h R_204 l_198 f_200 l_199 f_201
    have E_207 := Ext.tr E_47 E_206
    refine go_aload_n (n := 0) (by decide +kernel) l_198 f_200 ?_
    refine go_getf (x := 13) (ci := 13) (kf := 2) (fin := 1) (t := 2) (by decide +kernel) (by decide +kernel) (by decide +kernel) R_204 f_200 (fx_k (c := 13) R_204 (by decide +kernel)) fun v_210 f_211 => ?_
    have f_212 := q_is_eq (b := 70) f_211 (fx_v R_204 (by decide +kernel)).symm
    refine go_iconst (n := 5) (z := 5) (by decide +kernel) (by decide) fun v_213 f_214 => ?_
    refine go_iload_n (n := 1) (by decide +kernel) l_199 f_201 ?_
    refine go_imul (by decide +kernel) f_214 f_201 fun v_215 f_216 => ?_
    refine go_aload_n (n := 0) (by decide +kernel) l_198 f_200 ?_
    refine go_getf (x := 7) (ci := 13) (kf := 1) (fin := 1) (t := 2) (by decide +kernel) (by decide +kernel) (by decide +kernel) R_204 f_200 (fx_k (c := 13) R_204 (by decide +kernel)) fun v_217 f_218 => ?_
    have f_219 := q_is_eq (b := 69) f_218 (fx_v R_204 (by decide +kernel)).symm
    refine go_iload_n (n := 1) (by decide +kernel) l_199 f_201 ?_
    obtain ⟨x_223, e_224, h⟩ := lx_s h
    refine go_iald (kd := 100) (by decide +kernel) rfl R_204 f_219 f_201 (fx_k (c := 100) R_204 (by decide +kernel)) (fx_x (a := 69) (ln := 4) R_204 (by decide +kernel) g_70) fun v_220 f_221 => ?_
    have f_222 := q_is_eq f_221 e_224
    refine go_iadd (by decide +kernel) f_216 f_222 fun v_225 f_226 => ?_
    refine go_aload_n (n := 0) (by decide +kernel) l_198 f_200 ?_
    refine go_getf (x := 13) (ci := 13) (kf := 2) (fin := 1) (t := 2) (by decide +kernel) (by decide +kernel) (by decide +kernel) R_204 f_200 (fx_k (c := 13) R_204 (by decide +kernel)) fun v_227 f_228 => ?_
    have f_229 := q_is_eq (b := 70) f_228 (fx_v R_204 (by decide +kernel)).symm
    refine go_iconst (n := 5) (z := 5) (by decide +kernel) (by decide) fun v_230 f_231 => ?_
    refine go_iload_n (n := 1) (by decide +kernel) l_199 f_201 ?_
    refine go_imul (by decide +kernel) f_231 f_201 fun v_232 f_233 => ?_
    refine go_iconst (n := 4) (z := 4) (by decide +kernel) (by decide) fun v_234 f_235 => ?_
    refine go_iadd (by decide +kernel) f_233 f_235 fun v_236 f_237 => ?_
    obtain ⟨g_240, h⟩ := gd_s h
    obtain ⟨x_242, e_243, h⟩ := lx_s h
    refine go_iald (kd := 100) (by decide +kernel) rfl R_204 f_229 f_237 (fx_k (c := 100) R_204 (by decide +kernel)) (fx_x (a := 70) (ln := 20) R_204 (by decide +kernel) g_240) fun v_238 f_239 => ?_
    have f_241 := q_is_eq f_239 e_243
    obtain ⟨g_244, h⟩ := gd_s h
    obtain ⟨m_245, e_246, h⟩ := up_s h
    refine go_iast (kd := 100) (by decide +kernel) rfl R_204 f_212 f_226 f_241 (fx_k (c := 100) R_204 (by decide +kernel)) (fx_x (a := 70) (ln := 20) R_204 (by decide +kernel) g_244) e_246 (fx_a R_204.2 (fx_k (c := 100) R_204 (by decide +kernel)) (And.left (fx_x (a := 70) (ln := 20) R_204 (by decide +kernel) g_244)) (by decide +kernel)) fun S_247 R_248 E_249 => ?_
    have E_251 := Ext.tr E_207 E_249
    refine go_aload_n (n := 0) (by decide +kernel) l_198 f_200 ?_
    refine go_getf (x := 13) (ci := 13) (kf := 2) (fin := 1) (t := 2) (by decide +kernel) (by decide +kernel) (by decide +kernel) R_248 f_200 (fx_k (c := 13) R_248 (by decide +kernel)) fun v_252 f_253 => ?_
    have f_254 := q_is_eq (b := 70) f_253 (fx_v R_248 (by decide +kernel)).symm
    refine go_iconst (n := 5) (z := 5) (by decide +kernel) (by decide) fun v_255 f_256 => ?_
    refine go_iload_n (n := 1) (by decide +kernel) l_199 f_201 ?_
    refine go_imul (by decide +kernel) f_256 f_201 fun v_257 f_258 => ?_
    refine go_iconst (n := 4) (z := 4) (by decide +kernel) (by decide) fun v_259 f_260 => ?_
    refine go_iadd (by decide +kernel) f_258 f_260 fun v_261 f_262 => ?_
    refine go_iconst (n := 0) (z := 0) (by decide +kernel) (by decide) fun v_263 f_264 => ?_
    obtain ⟨m_265, e_266, h⟩ := up_s h
    refine go_iast (kd := 100) (by decide +kernel) rfl R_248 f_254 f_262 f_264 (fx_k (c := 100) R_248 (by decide +kernel)) (fx_x (a := 70) (ln := 20) R_248 (by decide +kernel) g_240) e_266 (fx_a R_248.2 (fx_k (c := 100) R_248 (by decide +kernel)) (And.left (fx_x (a := 70) (ln := 20) R_248 (by decide +kernel) g_240)) (by decide +kernel)) fun S_267 R_268 E_269 => ?_
    have E_271 := Ext.tr E_251 E_269
    refine go_aload_n (n := 0) (by decide +kernel) l_198 f_200 ?_
    refine go_getf (x := 7) (ci := 13) (kf := 1) (fin := 1) (t := 2) (by decide +kernel) (by decide +kernel) (by decide +kernel) R_268 f_200 (fx_k (c := 13) R_268 (by decide +kernel)) fun v_272 f_273 => ?_
    have f_274 := q_is_eq (b := 69) f_273 (fx_v R_268 (by decide +kernel)).symm
    refine go_iload_n (n := 1) (by decide +kernel) l_199 f_201 ?_
    refine go_dup2 (by decide +kernel) f_201 (Or.inl rfl) f_274 (Or.inr rfl) ?_
    obtain ⟨x_278, e_279, h⟩ := lx_s h
    refine go_iald (kd := 100) (by decide +kernel) rfl R_268 f_274 f_201 (fx_k (c := 100) R_268 (by decide +kernel)) (fx_x (a := 69) (ln := 4) R_268 (by decide +kernel) g_70) fun v_275 f_276 => ?_
    have f_277 := q_is_eq f_276 e_279
    refine go_iconst (n := 1) (z := 1) (by decide +kernel) (by decide) fun v_280 f_281 => ?_
    refine go_iadd (by decide +kernel) f_277 f_281 fun v_282 f_283 => ?_
    obtain ⟨m_284, e_285, h⟩ := up_s h
    refine go_iast (kd := 100) (by decide +kernel) rfl R_268 f_274 f_201 f_283 (fx_k (c := 100) R_268 (by decide +kernel)) (fx_x (a := 69) (ln := 4) R_268 (by decide +kernel) g_70) e_285 (fx_a R_268.2 (fx_k (c := 100) R_268 (by decide +kernel)) (And.left (fx_x (a := 69) (ln := 4) R_268 (by decide +kernel) g_70)) (by decide +kernel)) fun S_286 R_287 E_288 => ?_
    have E_290 := Ext.tr E_271 E_288
    refine go_aload_n (n := 0) (by decide +kernel) l_198 f_200 ?_
    refine go_getf (x := 7) (ci := 13) (kf := 1) (fin := 1) (t := 2) (by decide +kernel) (by decide +kernel) (by decide +kernel) R_287 f_200 (fx_k (c := 13) R_287 (by decide +kernel)) fun v_291 f_292 => ?_
    have f_293 := q_is_eq (b := 69) f_292 (fx_v R_287 (by decide +kernel)).symm
    refine go_iload_n (n := 1) (by decide +kernel) l_199 f_201 ?_
    obtain ⟨x_297, e_298, h⟩ := lx_s h
    refine go_iald (kd := 100) (by decide +kernel) rfl R_287 f_293 f_201 (fx_k (c := 100) R_287 (by decide +kernel)) (fx_x (a := 69) (ln := 4) R_287 (by decide +kernel) g_70) fun v_294 f_295 => ?_
    have f_296 := q_is_eq f_295 e_298
    refine go_iconst (n := 1) (z := 1) (by decide +kernel) (by decide) fun v_299 f_300 => ?_
    refine go_isub (by decide +kernel) f_296 f_300 fun v_301 f_302 => ?_
    cases h
    exact go_iret (by decide +kernel) rfl (Or.inl rfl) f_302 (hQ E_290 _ _ R_287 (q_out_v (by decide) f_302))
  · have h := it_f hp_48 h
    refine go_iconst (n := 0) (z := 0) (by decide +kernel) (by decide) fun v_303 f_304 => ?_
    cases h
    exact go_iret (by decide +kernel) rfl (Or.inl rfl) f_304 (hQ E_47 _ _ R_42 (q_out_v (by decide) f_304))
noncomputable def fm_X12_deploy (p1 : Int) (m0 : MM) : Option (Int × MM) := bp (fm_X12_isType p1 m0) fun x_2 =>
if x_2 = 0 then
fj_X12_deploy_42 p1 1 m0
else
gd (0 ≤ w32 ((w32 (5 * p1)) + 4) ∧ w32 ((w32 (5 * p1)) + 4) < 20) <| lx (m0 70 (w32 ((w32 (5 * p1)) + 4))) fun x_31 =>
if x_31 = 0 then
fj_X12_deploy_42 p1 2 m0
else
gd (0 ≤ p1 ∧ p1 < 4) <| lx (m0 69 p1) fun x_312 =>
if x_312 = 4 then
fj_X12_deploy_42 p1 2 m0
else
fj_X12_deploy_42 p1 0 m0
set_option maxHeartbeats 4000000 in
theorem om_X12_deploy {xs : List Int32} {d : Nat} {S : QS} {m0 : MM} {p1 : Int} {v0 : Value} {v1 : Value} {rz : Int} {rm : MM}
  (hd : 3 ≤ d) (R : Rp S m0) (f0 : q_is 2 v0 68) (f1 : q_is 0 v1 p1)
  (h : fm_X12_deploy p1 m0 = some (rz, rm)) : Mt xs d 200 [v0, v1] S (Cr 0 m0 rm rz) := by
  obtain ⟨d, rfl⟩ : ∃ e, d = e + 1 := ⟨d - 1, by omega⟩
  have hd : 2 ≤ d := Nat.le_of_succ_le_succ hd
  refine Mt.of (M := qM_X12_deploy) rfl (by rw [sl_1 (q_is_cat f0 (Or.inr rfl)), sl_1 (q_is_cat f1 (Or.inl rfl)), sl_0]; decide) ?_
  rw [la_1 (q_is_cat f0 (Or.inr rfl)), la_1 (q_is_cat f1 (Or.inl rfl)), la_0]
  obtain ⟨L, hL⟩ : ∃ L : QL, L = [(0, v0), (0 + 1, v1)] := ⟨_, rfl⟩
  rw [← hL]
  have l0 : q_lo L 0 = some v0 := by rw [hL]; rfl
  have l1 : q_lo L 1 = some v1 := by rw [hL]; rfl
  have hQ : Ext m0 rm → ∀ o S1, Rp S1 rm → q_out 0 o rz → (Cr 0 m0 rm rz) o S1 := fun a o S1 b e => ⟨b, a, e⟩
  unfold fm_X12_deploy at h
  refine go_iload_n (n := 1) (by decide +kernel) l1 f1 ?_
  obtain ⟨x_2, hc_1, h⟩ := bp_s h
  refine go_callS (x := 313) (mi := 191) (n := 1) (b := 0) (as := [v1]) (rest := []) (by decide +kernel) (by decide +kernel) rfl rfl (q_sum8 _ (Nat.le_of_ble_eq_true rfl)) (om_X12_isType (Nat.le_trans (by decide) hd) R f1 hc_1) (fun _ S_6 q_9 => ?_) (fun _ _ qq => kr_x qq)
  refine kr_z (by decide) q_9 fun v_4 f_5 R_7 E_8 => ?_
  refine go_istore_n (n := 2) (by decide +kernel) (by decide +kernel) f_5 fun L_10 l_11 kp_12 => ?_
  have l_13 := kp_12 0 _ l0 (by decide) (Or.inl (by decide))
  have l_14 := kp_12 1 _ l1 (by decide) (Or.inr (q_is_cat f1 (Or.inl rfl)))
  refine go_aload_n (n := 0) (by decide +kernel) l_13 f0 ?_
  refine go_iload_n (n := 2) (by decide +kernel) l_11 f_5 ?_
  refine go_if (c := .ne) (o := 7) (t := 14) (P := ¬ (x_2 = 0)) (by decide +kernel) (by decide +kernel) f_5 (Iff.rfl) (fun hp_15 => ?_) (fun hp_15 => ?_)
  · have h := it_f hp_15 h
    refine go_aload_n (n := 0) (by decide +kernel) l_13 f0 ?_
    refine go_getf (x := 13) (ci := 13) (kf := 2) (fin := 1) (t := 2) (by decide +kernel) (by decide +kernel) (by decide +kernel) R_7 f0 (fx_k (c := 13) R_7 (by decide +kernel)) fun v_16 f_17 => ?_
    have f_18 := q_is_eq (b := 70) f_17 (fx_v R_7 (by decide +kernel)).symm
    refine go_iconst (n := 5) (z := 5) (by decide +kernel) (by decide) fun v_19 f_20 => ?_
    refine go_iload_n (n := 1) (by decide +kernel) l_14 f1 ?_
    refine go_imul (by decide +kernel) f_20 f1 fun v_21 f_22 => ?_
    refine go_iconst (n := 4) (z := 4) (by decide +kernel) (by decide) fun v_23 f_24 => ?_
    refine go_iadd (by decide +kernel) f_22 f_24 fun v_25 f_26 => ?_
    obtain ⟨g_29, h⟩ := gd_s h
    obtain ⟨x_31, e_32, h⟩ := lx_s h
    refine go_iald (kd := 100) (by decide +kernel) rfl R_7 f_18 f_26 (fx_k (c := 100) R_7 (by decide +kernel)) (fx_x (a := 70) (ln := 20) R_7 (by decide +kernel) g_29) fun v_27 f_28 => ?_
    have f_30 := q_is_eq f_28 e_32
    refine go_if (c := .eq) (o := 13) (t := 37) (P := x_31 = 0) (by decide +kernel) (by decide +kernel) f_30 (Iff.rfl) (fun hp_33 => ?_) (fun hp_33 => ?_)
    · have h := it_t hp_33 h
      refine go_iconst (n := 2) (z := 2) (by decide +kernel) (by decide) fun v_34 f_35 => ?_
      refine go_goto (o := 4) (t := 42) (by decide +kernel) (by decide +kernel) ?_
      exact oj_X12_deploy_42 hd R_7 l_13 f0 l_14 f1 f_35 f0 hQ h
    · have h := it_f hp_33 h
      refine go_aload_n (n := 0) (by decide +kernel) l_13 f0 ?_
      refine go_getf (x := 7) (ci := 13) (kf := 1) (fin := 1) (t := 2) (by decide +kernel) (by decide +kernel) (by decide +kernel) R_7 f0 (fx_k (c := 13) R_7 (by decide +kernel)) fun v_305 f_306 => ?_
      have f_307 := q_is_eq (b := 69) f_306 (fx_v R_7 (by decide +kernel)).symm
      refine go_iload_n (n := 1) (by decide +kernel) l_14 f1 ?_
      obtain ⟨g_310, h⟩ := gd_s h
      obtain ⟨x_312, e_313, h⟩ := lx_s h
      refine go_iald (kd := 100) (by decide +kernel) rfl R_7 f_307 f1 (fx_k (c := 100) R_7 (by decide +kernel)) (fx_x (a := 69) (ln := 4) R_7 (by decide +kernel) g_310) fun v_308 f_309 => ?_
      have f_311 := q_is_eq f_309 e_313
      refine go_iconst (n := 4) (z := 4) (by decide +kernel) (by decide) fun v_314 f_315 => ?_
      refine go_icmp (c := .ne) (o := 7) (t := 41) (P := ¬ (x_312 = 4)) (by decide +kernel) (by decide +kernel) f_311 f_315 (Iff.rfl) (fun hp_316 => ?_) (fun hp_316 => ?_)
      · have h := it_f hp_316 h
        refine go_iconst (n := 0) (z := 0) (by decide +kernel) (by decide) fun v_317 f_318 => ?_
        exact oj_X12_deploy_42 hd R_7 l_13 f0 l_14 f1 f_318 f0 hQ h
      · have h := it_n hp_316 h
        refine go_iconst (n := 2) (z := 2) (by decide +kernel) (by decide) fun v_319 f_320 => ?_
        refine go_goto (o := 4) (t := 42) (by decide +kernel) (by decide +kernel) ?_
        exact oj_X12_deploy_42 hd R_7 l_13 f0 l_14 f1 f_320 f0 hQ h
  · have h := it_n hp_15 h
    refine go_iconst (n := 1) (z := 1) (by decide +kernel) (by decide) fun v_321 f_322 => ?_
    refine go_goto (o := 31) (t := 42) (by decide +kernel) (by decide +kernel) ?_
    exact oj_X12_deploy_42 hd R_7 l_13 f0 l_14 f1 f_322 f0 hQ h
noncomputable def fj_X12_setKind_87 (y1 y2 y3 y4 y5 y6 s0 : Int) (m : MM) : Option (Int × MM) := bd (fm_X12_fails s0 m) fun x_56 m_57 =>
if x_56 = 0 then
gd (0 ≤ y1 ∧ y1 < 4) <| up m_57 74 y1 y2 fun m_72 =>
up m_72 75 y1 y3 fun m_82 =>
up m_82 76 y1 y4 fun m_92 =>
up m_92 77 y1 y5 fun m_102 =>
up m_102 78 y1 y6 fun m_112 =>
some (0, m_112)
else
some (0, m_57)
set_option maxHeartbeats 4000000 in
theorem oj_X12_setKind_87 {xs : List Int32} {d : Nat} {S : QS} {L : QL} {Q : QO → QS → Prop} {m : MM} {y1 y2 y3 y4 y5 y6 s0 : Int} {v0 : Value} {v1 : Value} {v2 : Value} {v3 : Value} {v4 : Value} {v5 : Value} {v6 : Value} {w0 : Value} {w1 : Value}  {rz : Int} {rm : MM}
  (hd : 1 ≤ d) (R : Rp S m) (l0 : q_lo L 0 = some v0) (f0 : q_is 2 v0 68) (l1 : q_lo L 1 = some v1) (f1 : q_is 0 v1 y1) (l2 : q_lo L 2 = some v2) (f2 : q_is 0 v2 y2) (l3 : q_lo L 3 = some v3) (f3 : q_is 0 v3 y3) (l4 : q_lo L 4 = some v4) (f4 : q_is 0 v4 y4) (l5 : q_lo L 5 = some v5) (f5 : q_is 0 v5 y5) (l6 : q_lo L 6 = some v6) (f6 : q_is 0 v6 y6) (fs0 : q_is 0 w0 s0) (fs1 : q_is 2 w1 68)
  (hQ : Ext m rm → ∀ o S1, Rp S1 rm → q_out 9 o rz → Q o S1)
  (h : fj_X12_setKind_87 y1 y2 y3 y4 y5 y6 s0 m = some (rz, rm)) : Go xs d qM_X12_setKind 87 L [w0, w1] S Q := by
  unfold fj_X12_setKind_87 at h
  obtain ⟨x_56, m_57, hc_55, h⟩ := bd_s h
  refine go_callV (x := 324) (mi := 186) (n := 1) (ci := 13) (as := [w0]) (rest := []) (by decide +kernel) (by decide +kernel) rfl rfl (q_sum8 _ (Nat.le_of_ble_eq_true rfl)) R fs1 (fx_k (c := 13) R (by decide +kernel)) (om_X12_fails (Nat.le_trans (by decide) hd) R fs1 fs0 hc_55) (fun _ S_60 q_63 => ?_) (fun _ _ qq => kr_x qq)
  refine kr_z (by decide) q_63 fun v_58 f_59 R_61 E_62 => ?_
  have E_66 := E_62
  refine go_if (c := .ne) (o := 41) (t := 131) (P := ¬ (x_56 = 0)) (by decide +kernel) (by decide +kernel) f_59 (Iff.rfl) (fun hp_67 => ?_) (fun hp_67 => ?_)
  · have h := it_f hp_67 h
    cases h
    exact go_vret (by decide +kernel) rfl (hQ E_66 _ _ R_61 q_out_n)
  · have h := it_n hp_67 h
    refine go_aload_n (n := 0) (by decide +kernel) l0 f0 ?_
    refine go_getf (x := 25) (ci := 13) (kf := 6) (fin := 1) (t := 2) (by decide +kernel) (by decide +kernel) (by decide +kernel) R_61 f0 (fx_k (c := 13) R_61 (by decide +kernel)) fun v_68 f_69 => ?_
    have f_70 := q_is_eq (b := 74) f_69 (fx_v R_61 (by decide +kernel)).symm
    refine go_iload_n (n := 1) (by decide +kernel) l1 f1 ?_
    refine go_iload_n (n := 2) (by decide +kernel) l2 f2 ?_
    obtain ⟨g_71, h⟩ := gd_s h
    obtain ⟨m_72, e_73, h⟩ := up_s h
    refine go_iast (kd := 100) (by decide +kernel) rfl R_61 f_70 f1 f2 (fx_k (c := 100) R_61 (by decide +kernel)) (fx_x (a := 74) (ln := 4) R_61 (by decide +kernel) g_71) e_73 (fx_a R_61.2 (fx_k (c := 100) R_61 (by decide +kernel)) (And.left (fx_x (a := 74) (ln := 4) R_61 (by decide +kernel) g_71)) (by decide +kernel)) fun S_74 R_75 E_76 => ?_
    have E_78 := Ext.tr E_66 E_76
    refine go_aload_n (n := 0) (by decide +kernel) l0 f0 ?_
    refine go_getf (x := 28) (ci := 13) (kf := 7) (fin := 1) (t := 2) (by decide +kernel) (by decide +kernel) (by decide +kernel) R_75 f0 (fx_k (c := 13) R_75 (by decide +kernel)) fun v_79 f_80 => ?_
    have f_81 := q_is_eq (b := 75) f_80 (fx_v R_75 (by decide +kernel)).symm
    refine go_iload_n (n := 1) (by decide +kernel) l1 f1 ?_
    refine go_iload_n (n := 3) (by decide +kernel) l3 f3 ?_
    obtain ⟨m_82, e_83, h⟩ := up_s h
    refine go_iast (kd := 100) (by decide +kernel) rfl R_75 f_81 f1 f3 (fx_k (c := 100) R_75 (by decide +kernel)) (fx_x (a := 75) (ln := 4) R_75 (by decide +kernel) g_71) e_83 (fx_a R_75.2 (fx_k (c := 100) R_75 (by decide +kernel)) (And.left (fx_x (a := 75) (ln := 4) R_75 (by decide +kernel) g_71)) (by decide +kernel)) fun S_84 R_85 E_86 => ?_
    have E_88 := Ext.tr E_78 E_86
    refine go_aload_n (n := 0) (by decide +kernel) l0 f0 ?_
    refine go_getf (x := 31) (ci := 13) (kf := 8) (fin := 1) (t := 2) (by decide +kernel) (by decide +kernel) (by decide +kernel) R_85 f0 (fx_k (c := 13) R_85 (by decide +kernel)) fun v_89 f_90 => ?_
    have f_91 := q_is_eq (b := 76) f_90 (fx_v R_85 (by decide +kernel)).symm
    refine go_iload_n (n := 1) (by decide +kernel) l1 f1 ?_
    refine go_iload (n := 4) (by decide +kernel) l4 f4 ?_
    obtain ⟨m_92, e_93, h⟩ := up_s h
    refine go_iast (kd := 100) (by decide +kernel) rfl R_85 f_91 f1 f4 (fx_k (c := 100) R_85 (by decide +kernel)) (fx_x (a := 76) (ln := 4) R_85 (by decide +kernel) g_71) e_93 (fx_a R_85.2 (fx_k (c := 100) R_85 (by decide +kernel)) (And.left (fx_x (a := 76) (ln := 4) R_85 (by decide +kernel) g_71)) (by decide +kernel)) fun S_94 R_95 E_96 => ?_
    have E_98 := Ext.tr E_88 E_96
    refine go_aload_n (n := 0) (by decide +kernel) l0 f0 ?_
    refine go_getf (x := 34) (ci := 13) (kf := 9) (fin := 1) (t := 2) (by decide +kernel) (by decide +kernel) (by decide +kernel) R_95 f0 (fx_k (c := 13) R_95 (by decide +kernel)) fun v_99 f_100 => ?_
    have f_101 := q_is_eq (b := 77) f_100 (fx_v R_95 (by decide +kernel)).symm
    refine go_iload_n (n := 1) (by decide +kernel) l1 f1 ?_
    refine go_iload (n := 5) (by decide +kernel) l5 f5 ?_
    obtain ⟨m_102, e_103, h⟩ := up_s h
    refine go_iast (kd := 100) (by decide +kernel) rfl R_95 f_101 f1 f5 (fx_k (c := 100) R_95 (by decide +kernel)) (fx_x (a := 77) (ln := 4) R_95 (by decide +kernel) g_71) e_103 (fx_a R_95.2 (fx_k (c := 100) R_95 (by decide +kernel)) (And.left (fx_x (a := 77) (ln := 4) R_95 (by decide +kernel) g_71)) (by decide +kernel)) fun S_104 R_105 E_106 => ?_
    have E_108 := Ext.tr E_98 E_106
    refine go_aload_n (n := 0) (by decide +kernel) l0 f0 ?_
    refine go_getf (x := 37) (ci := 13) (kf := 10) (fin := 1) (t := 2) (by decide +kernel) (by decide +kernel) (by decide +kernel) R_105 f0 (fx_k (c := 13) R_105 (by decide +kernel)) fun v_109 f_110 => ?_
    have f_111 := q_is_eq (b := 78) f_110 (fx_v R_105 (by decide +kernel)).symm
    refine go_iload_n (n := 1) (by decide +kernel) l1 f1 ?_
    refine go_iload (n := 6) (by decide +kernel) l6 f6 ?_
    obtain ⟨m_112, e_113, h⟩ := up_s h
    refine go_iast (kd := 100) (by decide +kernel) rfl R_105 f_111 f1 f6 (fx_k (c := 100) R_105 (by decide +kernel)) (fx_x (a := 78) (ln := 4) R_105 (by decide +kernel) g_71) e_113 (fx_a R_105.2 (fx_k (c := 100) R_105 (by decide +kernel)) (And.left (fx_x (a := 78) (ln := 4) R_105 (by decide +kernel) g_71)) (by decide +kernel)) fun S_114 R_115 E_116 => ?_
    have E_118 := Ext.tr E_108 E_116
    cases h
    exact go_vret (by decide +kernel) rfl (hQ E_118 _ _ R_115 q_out_n)
noncomputable def fj_X12_setKind_65 (y1 y2 y3 y4 y5 y6 y7 s0 : Int) (m : MM) : Option (Int × MM) := if y7 = 0 then
fj_X12_setKind_87 y1 y2 y3 y4 y5 y6 1 m
else
if s0 = 0 then
fj_X12_setKind_87 y1 y2 y3 y4 y5 y6 2 m
else
fj_X12_setKind_87 y1 y2 y3 y4 y5 y6 0 m
set_option maxHeartbeats 4000000 in
theorem oj_X12_setKind_65 {xs : List Int32} {d : Nat} {S : QS} {L : QL} {Q : QO → QS → Prop} {m : MM} {y1 y2 y3 y4 y5 y6 y7 s0 : Int} {v0 : Value} {v1 : Value} {v2 : Value} {v3 : Value} {v4 : Value} {v5 : Value} {v6 : Value} {v7 : Value} {w0 : Value}  {rz : Int} {rm : MM}
  (hd : 1 ≤ d) (R : Rp S m) (l0 : q_lo L 0 = some v0) (f0 : q_is 2 v0 68) (l1 : q_lo L 1 = some v1) (f1 : q_is 0 v1 y1) (l2 : q_lo L 2 = some v2) (f2 : q_is 0 v2 y2) (l3 : q_lo L 3 = some v3) (f3 : q_is 0 v3 y3) (l4 : q_lo L 4 = some v4) (f4 : q_is 0 v4 y4) (l5 : q_lo L 5 = some v5) (f5 : q_is 0 v5 y5) (l6 : q_lo L 6 = some v6) (f6 : q_is 0 v6 y6) (l7 : q_lo L 7 = some v7) (f7 : q_is 0 v7 y7) (fs0 : q_is 0 w0 s0)
  (hQ : Ext m rm → ∀ o S1, Rp S1 rm → q_out 9 o rz → Q o S1)
  (h : fj_X12_setKind_65 y1 y2 y3 y4 y5 y6 y7 s0 m = some (rz, rm)) : Go xs d qM_X12_setKind 65 L [w0] S Q := by
  unfold fj_X12_setKind_65 at h
  refine go_istore (n := 8) (by decide +kernel) (by decide +kernel) fs0 fun L_40 l_41 kp_42 => ?_
  have l_43 := kp_42 0 _ l0 (by decide) (Or.inl (by decide))
  have l_44 := kp_42 1 _ l1 (by decide) (Or.inl (by decide))
  have l_45 := kp_42 2 _ l2 (by decide) (Or.inl (by decide))
  have l_46 := kp_42 3 _ l3 (by decide) (Or.inl (by decide))
  have l_47 := kp_42 4 _ l4 (by decide) (Or.inl (by decide))
  have l_48 := kp_42 5 _ l5 (by decide) (Or.inl (by decide))
  have l_49 := kp_42 6 _ l6 (by decide) (Or.inl (by decide))
  have l_50 := kp_42 7 _ l7 (by decide) (Or.inr (q_is_cat f7 (Or.inl rfl)))
  refine go_aload_n (n := 0) (by decide +kernel) l_43 f0 ?_
  refine go_iload (n := 7) (by decide +kernel) l_50 f7 ?_
  refine go_if (c := .ne) (o := 7) (t := 77) (P := ¬ (y7 = 0)) (by decide +kernel) (by decide +kernel) f7 (Iff.rfl) (fun hp_51 => ?_) (fun hp_51 => ?_)
  · have h := it_f hp_51 h
    refine go_iload (n := 8) (by decide +kernel) l_41 fs0 ?_
    refine go_if (c := .eq) (o := 7) (t := 86) (P := s0 = 0) (by decide +kernel) (by decide +kernel) fs0 (Iff.rfl) (fun hp_52 => ?_) (fun hp_52 => ?_)
    · have h := it_t hp_52 h
      refine go_iconst (n := 2) (z := 2) (by decide +kernel) (by decide) fun v_53 f_54 => ?_
      exact oj_X12_setKind_87 hd R l_43 f0 l_44 f1 l_45 f2 l_46 f3 l_47 f4 l_48 f5 l_49 f6 f_54 f0 hQ h
    · have h := it_f hp_52 h
      refine go_iconst (n := 0) (z := 0) (by decide +kernel) (by decide) fun v_119 f_120 => ?_
      refine go_goto (o := 4) (t := 87) (by decide +kernel) (by decide +kernel) ?_
      exact oj_X12_setKind_87 hd R l_43 f0 l_44 f1 l_45 f2 l_46 f3 l_47 f4 l_48 f5 l_49 f6 f_120 f0 hQ h
  · have h := it_n hp_51 h
    refine go_iconst (n := 1) (z := 1) (by decide +kernel) (by decide) fun v_121 f_122 => ?_
    refine go_goto (o := 13) (t := 87) (by decide +kernel) (by decide +kernel) ?_
    exact oj_X12_setKind_87 hd R l_43 f0 l_44 f1 l_45 f2 l_46 f3 l_47 f4 l_48 f5 l_49 f6 f_122 f0 hQ h
noncomputable def fm_X12_setKind (p1 p2 p3 p4 p5 p6 : Int) (m0 : MM) : Option (Int × MM) := bp (fm_X12_isIn p1 0 3 m0) fun x_6 =>
bp (fm_X12_isIn p2 1 4 m0) fun x_29 =>
if x_29 = 0 then
fj_X12_setKind_65 p1 p2 p3 p4 p5 p6 x_6 0 m0
else
bp (fm_X12_isIn p3 0 20 m0) fun x_128 =>
if x_128 = 0 then
fj_X12_setKind_65 p1 p2 p3 p4 p5 p6 x_6 0 m0
else
bp (fm_X12_isIn p4 0 50 m0) fun x_144 =>
if x_144 = 0 then
fj_X12_setKind_65 p1 p2 p3 p4 p5 p6 x_6 0 m0
else
bp (fm_X12_isIn p5 0 50 m0) fun x_160 =>
if x_160 = 0 then
fj_X12_setKind_65 p1 p2 p3 p4 p5 p6 x_6 0 m0
else
bp (fm_X12_isIn p6 0 50 m0) fun x_176 =>
if x_176 = 0 then
fj_X12_setKind_65 p1 p2 p3 p4 p5 p6 x_6 0 m0
else
fj_X12_setKind_65 p1 p2 p3 p4 p5 p6 x_6 1 m0
set_option maxHeartbeats 4000000 in
theorem om_X12_setKind {xs : List Int32} {d : Nat} {S : QS} {m0 : MM} {p1 p2 p3 p4 p5 p6 : Int} {v0 : Value} {v1 : Value} {v2 : Value} {v3 : Value} {v4 : Value} {v5 : Value} {v6 : Value} {rz : Int} {rm : MM}
  (hd : 2 ≤ d) (R : Rp S m0) (f0 : q_is 2 v0 68) (f1 : q_is 0 v1 p1) (f2 : q_is 0 v2 p2) (f3 : q_is 0 v3 p3) (f4 : q_is 0 v4 p4) (f5 : q_is 0 v5 p5) (f6 : q_is 0 v6 p6)
  (h : fm_X12_setKind p1 p2 p3 p4 p5 p6 m0 = some (rz, rm)) : Mt xs d 201 [v0, v1, v2, v3, v4, v5, v6] S (Cr 9 m0 rm rz) := by
  obtain ⟨d, rfl⟩ : ∃ e, d = e + 1 := ⟨d - 1, by omega⟩
  have hd : 1 ≤ d := Nat.le_of_succ_le_succ hd
  refine Mt.of (M := qM_X12_setKind) rfl (by rw [sl_1 (q_is_cat f0 (Or.inr rfl)), sl_1 (q_is_cat f1 (Or.inl rfl)), sl_1 (q_is_cat f2 (Or.inl rfl)), sl_1 (q_is_cat f3 (Or.inl rfl)), sl_1 (q_is_cat f4 (Or.inl rfl)), sl_1 (q_is_cat f5 (Or.inl rfl)), sl_1 (q_is_cat f6 (Or.inl rfl)), sl_0]; decide) ?_
  rw [la_1 (q_is_cat f0 (Or.inr rfl)), la_1 (q_is_cat f1 (Or.inl rfl)), la_1 (q_is_cat f2 (Or.inl rfl)), la_1 (q_is_cat f3 (Or.inl rfl)), la_1 (q_is_cat f4 (Or.inl rfl)), la_1 (q_is_cat f5 (Or.inl rfl)), la_1 (q_is_cat f6 (Or.inl rfl)), la_0]
  obtain ⟨L, hL⟩ : ∃ L : QL, L = [(0, v0), (0 + 1, v1), (0 + 1 + 1, v2), (0 + 1 + 1 + 1, v3), (0 + 1 + 1 + 1 + 1, v4), (0 + 1 + 1 + 1 + 1 + 1, v5), (0 + 1 + 1 + 1 + 1 + 1 + 1, v6)] := ⟨_, rfl⟩
  rw [← hL]
  have l0 : q_lo L 0 = some v0 := by rw [hL]; rfl
  have l1 : q_lo L 1 = some v1 := by rw [hL]; rfl
  have l2 : q_lo L 2 = some v2 := by rw [hL]; rfl
  have l3 : q_lo L 3 = some v3 := by rw [hL]; rfl
  have l4 : q_lo L 4 = some v4 := by rw [hL]; rfl
  have l5 : q_lo L 5 = some v5 := by rw [hL]; rfl
  have l6 : q_lo L 6 = some v6 := by rw [hL]; rfl
  have hQ : Ext m0 rm → ∀ o S1, Rp S1 rm → q_out 9 o rz → (Cr 9 m0 rm rz) o S1 := fun a o S1 b e => ⟨b, a, e⟩
  unfold fm_X12_setKind at h
  refine go_iload_n (n := 1) (by decide +kernel) l1 f1 ?_
  refine go_iconst (n := 0) (z := 0) (by decide +kernel) (by decide) fun v_1 f_2 => ?_
  refine go_iconst (n := 3) (z := 3) (by decide +kernel) (by decide) fun v_3 f_4 => ?_
  obtain ⟨x_6, hc_5, h⟩ := bp_s h
  refine go_callS (x := 306) (mi := 188) (n := 3) (b := 0) (as := [v1, v_1, v_3]) (rest := []) (by decide +kernel) (by decide +kernel) rfl rfl (q_sum8 _ (Nat.le_of_ble_eq_true rfl)) (om_X12_isIn (Nat.le_trans (by decide) hd) R f1 f_2 f_4 hc_5) (fun _ S_10 q_13 => ?_) (fun _ _ qq => kr_x qq)
  refine kr_z (by decide) q_13 fun v_8 f_9 R_11 E_12 => ?_
  refine go_istore (n := 7) (by decide +kernel) (by decide +kernel) f_9 fun L_14 l_15 kp_16 => ?_
  have l_17 := kp_16 0 _ l0 (by decide) (Or.inl (by decide))
  have l_18 := kp_16 1 _ l1 (by decide) (Or.inl (by decide))
  have l_19 := kp_16 2 _ l2 (by decide) (Or.inl (by decide))
  have l_20 := kp_16 3 _ l3 (by decide) (Or.inl (by decide))
  have l_21 := kp_16 4 _ l4 (by decide) (Or.inl (by decide))
  have l_22 := kp_16 5 _ l5 (by decide) (Or.inl (by decide))
  have l_23 := kp_16 6 _ l6 (by decide) (Or.inr (q_is_cat f6 (Or.inl rfl)))
  refine go_iload_n (n := 2) (by decide +kernel) l_19 f2 ?_
  refine go_iconst (n := 1) (z := 1) (by decide +kernel) (by decide) fun v_24 f_25 => ?_
  refine go_iconst (n := 4) (z := 4) (by decide +kernel) (by decide) fun v_26 f_27 => ?_
  obtain ⟨x_29, hc_28, h⟩ := bp_s h
  refine go_callS (x := 306) (mi := 188) (n := 3) (b := 0) (as := [v2, v_24, v_26]) (rest := []) (by decide +kernel) (by decide +kernel) rfl rfl (q_sum8 _ (Nat.le_of_ble_eq_true rfl)) (om_X12_isIn (Nat.le_trans (by decide) hd) R_11 f2 f_25 f_27 hc_28) (fun _ S_33 q_36 => ?_) (fun _ _ qq => kr_x qq)
  refine kr_z (by decide) q_36 fun v_31 f_32 R_34 E_35 => ?_
  refine go_if (c := .eq) (o := 50) (t := 64) (P := x_29 = 0) (by decide +kernel) (by decide +kernel) f_32 (Iff.rfl) (fun hp_37 => ?_) (fun hp_37 => ?_)
  · have h := it_t hp_37 h
    refine go_iconst (n := 0) (z := 0) (by decide +kernel) (by decide) fun v_38 f_39 => ?_
    exact oj_X12_setKind_65 hd R_34 l_17 f0 l_18 f1 l_19 f2 l_20 f3 l_21 f4 l_22 f5 l_23 f6 l_15 f_9 f_39 hQ h
  · have h := it_f hp_37 h
    refine go_iload_n (n := 3) (by decide +kernel) l_20 f3 ?_
    refine go_iconst (n := 0) (z := 0) (by decide +kernel) (by decide) fun v_123 f_124 => ?_
    refine go_bipush (n := 20) (z := 20) (by decide +kernel) (by decide) fun v_125 f_126 => ?_
    obtain ⟨x_128, hc_127, h⟩ := bp_s h
    refine go_callS (x := 306) (mi := 188) (n := 3) (b := 0) (as := [v3, v_123, v_125]) (rest := []) (by decide +kernel) (by decide +kernel) rfl rfl (q_sum8 _ (Nat.le_of_ble_eq_true rfl)) (om_X12_isIn (Nat.le_trans (by decide) hd) R_34 f3 f_124 f_126 hc_127) (fun _ S_132 q_135 => ?_) (fun _ _ qq => kr_x qq)
    refine kr_z (by decide) q_135 fun v_130 f_131 R_133 E_134 => ?_
    refine go_if (c := .eq) (o := 40) (t := 64) (P := x_128 = 0) (by decide +kernel) (by decide +kernel) f_131 (Iff.rfl) (fun hp_136 => ?_) (fun hp_136 => ?_)
    · have h := it_t hp_136 h
      refine go_iconst (n := 0) (z := 0) (by decide +kernel) (by decide) fun v_137 f_138 => ?_
      exact oj_X12_setKind_65 hd R_133 l_17 f0 l_18 f1 l_19 f2 l_20 f3 l_21 f4 l_22 f5 l_23 f6 l_15 f_9 f_138 hQ h
    · have h := it_f hp_136 h
      refine go_iload (n := 4) (by decide +kernel) l_21 f4 ?_
      refine go_iconst (n := 0) (z := 0) (by decide +kernel) (by decide) fun v_139 f_140 => ?_
      refine go_bipush (n := 50) (z := 50) (by decide +kernel) (by decide) fun v_141 f_142 => ?_
      obtain ⟨x_144, hc_143, h⟩ := bp_s h
      refine go_callS (x := 306) (mi := 188) (n := 3) (b := 0) (as := [v4, v_139, v_141]) (rest := []) (by decide +kernel) (by decide +kernel) rfl rfl (q_sum8 _ (Nat.le_of_ble_eq_true rfl)) (om_X12_isIn (Nat.le_trans (by decide) hd) R_133 f4 f_140 f_142 hc_143) (fun _ S_148 q_151 => ?_) (fun _ _ qq => kr_x qq)
      refine kr_z (by decide) q_151 fun v_146 f_147 R_149 E_150 => ?_
      refine go_if (c := .eq) (o := 29) (t := 64) (P := x_144 = 0) (by decide +kernel) (by decide +kernel) f_147 (Iff.rfl) (fun hp_152 => ?_) (fun hp_152 => ?_)
      · have h := it_t hp_152 h
        refine go_iconst (n := 0) (z := 0) (by decide +kernel) (by decide) fun v_153 f_154 => ?_
        exact oj_X12_setKind_65 hd R_149 l_17 f0 l_18 f1 l_19 f2 l_20 f3 l_21 f4 l_22 f5 l_23 f6 l_15 f_9 f_154 hQ h
      · have h := it_f hp_152 h
        refine go_iload (n := 5) (by decide +kernel) l_22 f5 ?_
        refine go_iconst (n := 0) (z := 0) (by decide +kernel) (by decide) fun v_155 f_156 => ?_
        refine go_bipush (n := 50) (z := 50) (by decide +kernel) (by decide) fun v_157 f_158 => ?_
        obtain ⟨x_160, hc_159, h⟩ := bp_s h
        refine go_callS (x := 306) (mi := 188) (n := 3) (b := 0) (as := [v5, v_155, v_157]) (rest := []) (by decide +kernel) (by decide +kernel) rfl rfl (q_sum8 _ (Nat.le_of_ble_eq_true rfl)) (om_X12_isIn (Nat.le_trans (by decide) hd) R_149 f5 f_156 f_158 hc_159) (fun _ S_164 q_167 => ?_) (fun _ _ qq => kr_x qq)
        refine kr_z (by decide) q_167 fun v_162 f_163 R_165 E_166 => ?_
        refine go_if (c := .eq) (o := 18) (t := 64) (P := x_160 = 0) (by decide +kernel) (by decide +kernel) f_163 (Iff.rfl) (fun hp_168 => ?_) (fun hp_168 => ?_)
        · have h := it_t hp_168 h
          refine go_iconst (n := 0) (z := 0) (by decide +kernel) (by decide) fun v_169 f_170 => ?_
          exact oj_X12_setKind_65 hd R_165 l_17 f0 l_18 f1 l_19 f2 l_20 f3 l_21 f4 l_22 f5 l_23 f6 l_15 f_9 f_170 hQ h
        · have h := it_f hp_168 h
          refine go_iload (n := 6) (by decide +kernel) l_23 f6 ?_
          refine go_iconst (n := 0) (z := 0) (by decide +kernel) (by decide) fun v_171 f_172 => ?_
          refine go_bipush (n := 50) (z := 50) (by decide +kernel) (by decide) fun v_173 f_174 => ?_
          obtain ⟨x_176, hc_175, h⟩ := bp_s h
          refine go_callS (x := 306) (mi := 188) (n := 3) (b := 0) (as := [v6, v_171, v_173]) (rest := []) (by decide +kernel) (by decide +kernel) rfl rfl (q_sum8 _ (Nat.le_of_ble_eq_true rfl)) (om_X12_isIn (Nat.le_trans (by decide) hd) R_165 f6 f_172 f_174 hc_175) (fun _ S_180 q_183 => ?_) (fun _ _ qq => kr_x qq)
          refine kr_z (by decide) q_183 fun v_178 f_179 R_181 E_182 => ?_
          refine go_if (c := .eq) (o := 7) (t := 64) (P := x_176 = 0) (by decide +kernel) (by decide +kernel) f_179 (Iff.rfl) (fun hp_184 => ?_) (fun hp_184 => ?_)
          · have h := it_t hp_184 h
            refine go_iconst (n := 0) (z := 0) (by decide +kernel) (by decide) fun v_185 f_186 => ?_
            exact oj_X12_setKind_65 hd R_181 l_17 f0 l_18 f1 l_19 f2 l_20 f3 l_21 f4 l_22 f5 l_23 f6 l_15 f_9 f_186 hQ h
          · have h := it_f hp_184 h
            refine go_iconst (n := 1) (z := 1) (by decide +kernel) (by decide) fun v_187 f_188 => ?_
            refine go_goto (o := 4) (t := 65) (by decide +kernel) (by decide +kernel) ?_
            exact oj_X12_setKind_65 hd R_181 l_17 f0 l_18 f1 l_19 f2 l_20 f3 l_21 f4 l_22 f5 l_23 f6 l_15 f_9 f_188 hQ h
noncomputable def fj_X12_setPolicy_26 (y1 y2 s0 : Int) (m : MM) : Option (Int × MM) := bd (fm_X12_fails s0 m) fun x_28 m_29 =>
if x_28 = 0 then
gd (0 ≤ y1 ∧ y1 < 4) <| lx (m_29 79 y1) fun x_47 =>
up m_29 79 y1 y2 fun m_58 =>
some (x_47, m_58)
else
some (0, m_29)
set_option maxHeartbeats 4000000 in
theorem oj_X12_setPolicy_26 {xs : List Int32} {d : Nat} {S : QS} {L : QL} {Q : QO → QS → Prop} {m : MM} {y1 y2 s0 : Int} {v0 : Value} {v1 : Value} {v2 : Value} {w0 : Value} {w1 : Value}  {rz : Int} {rm : MM}
  (hd : 2 ≤ d) (R : Rp S m) (l0 : q_lo L 0 = some v0) (f0 : q_is 2 v0 68) (l1 : q_lo L 1 = some v1) (f1 : q_is 0 v1 y1) (l2 : q_lo L 2 = some v2) (f2 : q_is 0 v2 y2) (fs0 : q_is 0 w0 s0) (fs1 : q_is 2 w1 68)
  (hQ : Ext m rm → ∀ o S1, Rp S1 rm → q_out 0 o rz → Q o S1)
  (h : fj_X12_setPolicy_26 y1 y2 s0 m = some (rz, rm)) : Go xs d qM_X12_setPolicy 26 L [w0, w1] S Q := by
  unfold fj_X12_setPolicy_26 at h
  obtain ⟨x_28, m_29, hc_27, h⟩ := bd_s h
  refine go_callV (x := 324) (mi := 186) (n := 1) (ci := 13) (as := [w0]) (rest := []) (by decide +kernel) (by decide +kernel) rfl rfl (q_sum8 _ (Nat.le_of_ble_eq_true rfl)) R fs1 (fx_k (c := 13) R (by decide +kernel)) (om_X12_fails (Nat.le_trans (by decide) hd) R fs1 fs0 hc_27) (fun _ S_32 q_35 => ?_) (fun _ _ qq => kr_x qq)
  refine kr_z (by decide) q_35 fun v_30 f_31 R_33 E_34 => ?_
  have E_38 := E_34
  refine go_if (c := .eq) (o := 5) (t := 34) (P := x_28 = 0) (by decide +kernel) (by decide +kernel) f_31 (Iff.rfl) (fun hp_39 => ?_) (fun hp_39 => ?_)
  · have h := it_t hp_39 h
    refine go_aload_n (n := 0) (by decide +kernel) l0 f0 ?_
    refine go_getf (x := 40) (ci := 13) (kf := 11) (fin := 1) (t := 2) (by decide +kernel) (by decide +kernel) (by decide +kernel) R_33 f0 (fx_k (c := 13) R_33 (by decide +kernel)) fun v_40 f_41 => ?_
    have f_42 := q_is_eq (b := 79) f_41 (fx_v R_33 (by decide +kernel)).symm
    refine go_iload_n (n := 1) (by decide +kernel) l1 f1 ?_
    obtain ⟨g_45, h⟩ := gd_s h
    obtain ⟨x_47, e_48, h⟩ := lx_s h
    refine go_iald (kd := 100) (by decide +kernel) rfl R_33 f_42 f1 (fx_k (c := 100) R_33 (by decide +kernel)) (fx_x (a := 79) (ln := 4) R_33 (by decide +kernel) g_45) fun v_43 f_44 => ?_
    have f_46 := q_is_eq f_44 e_48
    refine go_istore_n (n := 3) (by decide +kernel) (by decide +kernel) f_46 fun L_49 l_50 kp_51 => ?_
    have l_52 := kp_51 0 _ l0 (by decide) (Or.inl (by decide))
    have l_53 := kp_51 1 _ l1 (by decide) (Or.inl (by decide))
    have l_54 := kp_51 2 _ l2 (by decide) (Or.inr (q_is_cat f2 (Or.inl rfl)))
    refine go_aload_n (n := 0) (by decide +kernel) l_52 f0 ?_
    refine go_getf (x := 40) (ci := 13) (kf := 11) (fin := 1) (t := 2) (by decide +kernel) (by decide +kernel) (by decide +kernel) R_33 f0 (fx_k (c := 13) R_33 (by decide +kernel)) fun v_55 f_56 => ?_
    have f_57 := q_is_eq (b := 79) f_56 (fx_v R_33 (by decide +kernel)).symm
    refine go_iload_n (n := 1) (by decide +kernel) l_53 f1 ?_
    refine go_iload_n (n := 2) (by decide +kernel) l_54 f2 ?_
    obtain ⟨m_58, e_59, h⟩ := up_s h
    refine go_iast (kd := 100) (by decide +kernel) rfl R_33 f_57 f1 f2 (fx_k (c := 100) R_33 (by decide +kernel)) (fx_x (a := 79) (ln := 4) R_33 (by decide +kernel) g_45) e_59 (fx_a R_33.2 (fx_k (c := 100) R_33 (by decide +kernel)) (And.left (fx_x (a := 79) (ln := 4) R_33 (by decide +kernel) g_45)) (by decide +kernel)) fun S_60 R_61 E_62 => ?_
    have E_64 := Ext.tr E_38 E_62
    refine go_iload_n (n := 3) (by decide +kernel) l_50 f_46 ?_
    cases h
    exact go_iret (by decide +kernel) rfl (Or.inl rfl) f_46 (hQ E_64 _ _ R_61 (q_out_v (by decide) f_46))
  · have h := it_f hp_39 h
    refine go_iconst (n := 0) (z := 0) (by decide +kernel) (by decide) fun v_65 f_66 => ?_
    cases h
    exact go_iret (by decide +kernel) rfl (Or.inl rfl) f_66 (hQ E_38 _ _ R_33 (q_out_v (by decide) f_66))
noncomputable def fm_X12_setPolicy (p1 p2 : Int) (m0 : MM) : Option (Int × MM) := bp (fm_X12_isType p1 m0) fun x_2 =>
if x_2 = 0 then
fj_X12_setPolicy_26 p1 p2 1 m0
else
bp (fm_X12_isIn p2 0 2 m0) fun x_16 =>
if x_16 = 0 then
fj_X12_setPolicy_26 p1 p2 2 m0
else
fj_X12_setPolicy_26 p1 p2 0 m0
set_option maxHeartbeats 4000000 in
theorem om_X12_setPolicy {xs : List Int32} {d : Nat} {S : QS} {m0 : MM} {p1 p2 : Int} {v0 : Value} {v1 : Value} {v2 : Value} {rz : Int} {rm : MM}
  (hd : 3 ≤ d) (R : Rp S m0) (f0 : q_is 2 v0 68) (f1 : q_is 0 v1 p1) (f2 : q_is 0 v2 p2)
  (h : fm_X12_setPolicy p1 p2 m0 = some (rz, rm)) : Mt xs d 202 [v0, v1, v2] S (Cr 0 m0 rm rz) := by
  obtain ⟨d, rfl⟩ : ∃ e, d = e + 1 := ⟨d - 1, by omega⟩
  have hd : 2 ≤ d := Nat.le_of_succ_le_succ hd
  refine Mt.of (M := qM_X12_setPolicy) rfl (by rw [sl_1 (q_is_cat f0 (Or.inr rfl)), sl_1 (q_is_cat f1 (Or.inl rfl)), sl_1 (q_is_cat f2 (Or.inl rfl)), sl_0]; decide) ?_
  rw [la_1 (q_is_cat f0 (Or.inr rfl)), la_1 (q_is_cat f1 (Or.inl rfl)), la_1 (q_is_cat f2 (Or.inl rfl)), la_0]
  obtain ⟨L, hL⟩ : ∃ L : QL, L = [(0, v0), (0 + 1, v1), (0 + 1 + 1, v2)] := ⟨_, rfl⟩
  rw [← hL]
  have l0 : q_lo L 0 = some v0 := by rw [hL]; rfl
  have l1 : q_lo L 1 = some v1 := by rw [hL]; rfl
  have l2 : q_lo L 2 = some v2 := by rw [hL]; rfl
  have hQ : Ext m0 rm → ∀ o S1, Rp S1 rm → q_out 0 o rz → (Cr 0 m0 rm rz) o S1 := fun a o S1 b e => ⟨b, a, e⟩
  unfold fm_X12_setPolicy at h
  refine go_aload_n (n := 0) (by decide +kernel) l0 f0 ?_
  refine go_iload_n (n := 1) (by decide +kernel) l1 f1 ?_
  obtain ⟨x_2, hc_1, h⟩ := bp_s h
  refine go_callS (x := 313) (mi := 191) (n := 1) (b := 0) (as := [v1]) (rest := [v0]) (by decide +kernel) (by decide +kernel) rfl rfl (q_sum8 _ (Nat.le_of_ble_eq_true rfl)) (om_X12_isType (Nat.le_trans (by decide) hd) R f1 hc_1) (fun _ S_6 q_9 => ?_) (fun _ _ qq => kr_x qq)
  refine kr_z (by decide) q_9 fun v_4 f_5 R_7 E_8 => ?_
  refine go_if (c := .ne) (o := 7) (t := 12) (P := ¬ (x_2 = 0)) (by decide +kernel) (by decide +kernel) f_5 (Iff.rfl) (fun hp_10 => ?_) (fun hp_10 => ?_)
  · have h := it_f hp_10 h
    refine go_iload_n (n := 2) (by decide +kernel) l2 f2 ?_
    refine go_iconst (n := 0) (z := 0) (by decide +kernel) (by decide) fun v_11 f_12 => ?_
    refine go_iconst (n := 2) (z := 2) (by decide +kernel) (by decide) fun v_13 f_14 => ?_
    obtain ⟨x_16, hc_15, h⟩ := bp_s h
    refine go_callS (x := 306) (mi := 188) (n := 3) (b := 0) (as := [v2, v_11, v_13]) (rest := [v0]) (by decide +kernel) (by decide +kernel) rfl rfl (q_sum8 _ (Nat.le_of_ble_eq_true rfl)) (om_X12_isIn (Nat.le_trans (by decide) hd) R_7 f2 f_12 f_14 hc_15) (fun _ S_20 q_23 => ?_) (fun _ _ qq => kr_x qq)
    refine kr_z (by decide) q_23 fun v_18 f_19 R_21 E_22 => ?_
    refine go_if (c := .eq) (o := 7) (t := 25) (P := x_16 = 0) (by decide +kernel) (by decide +kernel) f_19 (Iff.rfl) (fun hp_24 => ?_) (fun hp_24 => ?_)
    · have h := it_t hp_24 h
      refine go_iconst (n := 2) (z := 2) (by decide +kernel) (by decide) fun v_25 f_26 => ?_
      exact oj_X12_setPolicy_26 hd R_21 l0 f0 l1 f1 l2 f2 f_26 f0 hQ h
    · have h := it_f hp_24 h
      refine go_iconst (n := 0) (z := 0) (by decide +kernel) (by decide) fun v_67 f_68 => ?_
      refine go_goto (o := 4) (t := 26) (by decide +kernel) (by decide +kernel) ?_
      exact oj_X12_setPolicy_26 hd R_21 l0 f0 l1 f1 l2 f2 f_68 f0 hQ h
  · have h := it_n hp_10 h
    refine go_iconst (n := 1) (z := 1) (by decide +kernel) (by decide) fun v_69 f_70 => ?_
    refine go_goto (o := 17) (t := 26) (by decide +kernel) (by decide +kernel) ?_
    exact oj_X12_setPolicy_26 hd R_7 l0 f0 l1 f1 l2 f2 f_70 f0 hQ h
noncomputable def fl_X12_at_2 (y2 : Int) (m0 : MM) (k22 : Int → Option Int) : Nat → Int → Option Int
  | 0, _ => none
  | n + 1, y3 => gd (0 ≤ y3 ∧ y3 < 30) <| lx (m0 88 y3) fun x_13 =>
if y2 < x_13 then
lx (m0 87 y3) fun x_22 =>
fl_X12_at_2 y2 m0 k22 n x_22
else
k22 y3
set_option maxHeartbeats 4000000 in
theorem ol_X12_at_2 {xs : List Int32} {d : Nat} {Q : QO → QS → Prop} {m0 : MM} {y2 : Int} {k22 : Int → Option Int} {rz : Int}
  (hd : 0 ≤ d)
  (hk22 : ∀ {z3 : Int} {Sq : QS} {Lq : QL} {u0 : Value} {u2 : Value} {u3 : Value}, k22 z3 = some rz → Rp Sq m0 → q_lo Lq 0 = some u0 → q_is 2 u0 68 → q_lo Lq 2 = some u2 → q_is 0 u2 y2 → q_lo Lq 3 = some u3 → q_is 0 u3 z3 → Go xs d qM_X12_at 22 Lq [] Sq Q)
  (hQ : ∀ o S1, Rp S1 m0 → q_out 0 o rz → Q o S1) :
  ∀ (n : Nat) {S : QS} {L : QL} {y3 : Int} {v0 : Value} {v2 : Value} {v3 : Value} , fl_X12_at_2 y2 m0 k22 n y3 = some rz → Rp S m0 → q_lo L 0 = some v0 → q_is 2 v0 68 → q_lo L 2 = some v2 → q_is 0 v2 y2 → q_lo L 3 = some v3 → q_is 0 v3 y3 → Go xs d qM_X12_at 2 L [] S Q := by
  intro n
  induction n with
  | zero => intro S L y3 v0 v2 v3; intro h R l0 f0 l2 f2 l3 f3; cases h
  | succ n ih0 =>
    intro S L y3 v0 v2 v3; intro h R l0 f0 l2 f2 l3 f3
    have ih : ∀ {z3 : Int} {Sq : QS} {Lq : QL} {u0 : Value} {u2 : Value} {u3 : Value}, fl_X12_at_2 y2 m0 k22 n z3 = some rz → Rp Sq m0 → q_lo Lq 0 = some u0 → q_is 2 u0 68 → q_lo Lq 2 = some u2 → q_is 0 u2 y2 → q_lo Lq 3 = some u3 → q_is 0 u3 z3 → Go xs d qM_X12_at 2 Lq [] Sq Q := by intros; exact ih0 ‹_› ‹_› ‹_› ‹_› ‹_› ‹_› ‹_› ‹_›
    unfold fl_X12_at_2 at h
    refine go_iload_n (n := 2) (by decide +kernel) l2 f2 ?_
    refine go_aload_n (n := 0) (by decide +kernel) l0 f0 ?_
    refine go_getf (x := 67) (ci := 13) (kf := 21) (fin := 1) (t := 2) (by decide +kernel) (by decide +kernel) (by decide +kernel) R f0 (fx_k (c := 13) R (by decide +kernel)) fun v_6 f_7 => ?_
    have f_8 := q_is_eq (b := 88) f_7 (fx_v R (by decide +kernel)).symm
    refine go_iload_n (n := 3) (by decide +kernel) l3 f3 ?_
    obtain ⟨g_11, h⟩ := gd_s h
    obtain ⟨x_13, e_14, h⟩ := lx_s h
    refine go_iald (kd := 100) (by decide +kernel) rfl R f_8 f3 (fx_k (c := 100) R (by decide +kernel)) (fx_x (a := 88) (ln := 30) R (by decide +kernel) g_11) fun v_9 f_10 => ?_
    have f_12 := q_is_eq f_10 e_14
    refine go_icmp (c := .ge) (o := 13) (t := 22) (P := ¬ (y2 < x_13)) (by decide +kernel) (by decide +kernel) f2 f_12 (Int.not_lt.symm) (fun hp_15 => ?_) (fun hp_15 => ?_)
    · have h := it_f hp_15 h
      exact hk22 h R l0 f0 l2 f2 l3 f3
    · have h := it_n hp_15 h
      refine go_aload_n (n := 0) (by decide +kernel) l0 f0 ?_
      refine go_getf (x := 64) (ci := 13) (kf := 20) (fin := 1) (t := 2) (by decide +kernel) (by decide +kernel) (by decide +kernel) R f0 (fx_k (c := 13) R (by decide +kernel)) fun v_16 f_17 => ?_
      have f_18 := q_is_eq (b := 87) f_17 (fx_v R (by decide +kernel)).symm
      refine go_iload_n (n := 3) (by decide +kernel) l3 f3 ?_
      obtain ⟨x_22, e_23, h⟩ := lx_s h
      refine go_iald (kd := 100) (by decide +kernel) rfl R f_18 f3 (fx_k (c := 100) R (by decide +kernel)) (fx_x (a := 87) (ln := 30) R (by decide +kernel) g_11) fun v_19 f_20 => ?_
      have f_21 := q_is_eq f_20 e_23
      refine go_istore_n (n := 3) (by decide +kernel) (by decide +kernel) f_21 fun L_24 l_25 kp_26 => ?_
      have l_27 := kp_26 0 _ l0 (by decide) (Or.inl (by decide))
      have l_28 := kp_26 2 _ l2 (by decide) (Or.inr (q_is_cat f2 (Or.inl rfl)))
      refine go_goto (o := (-17)) (t := 2) (by decide +kernel) (by decide +kernel) ?_
      exact ih h R l_27 f0 l_28 f2 l_25 f_21
noncomputable def fm_X12_at (p1 p2 : Int) (m0 : MM) : Option Int := fl_X12_at_2 p2 m0 (fun x_29 =>
gd (0 ≤ x_29 ∧ x_29 < 30) <| lx (m0 88 x_29) fun x_49 =>
lx (w32 (p2 - x_49)) fun x_53 =>
gd (0 ≤ w32 ((w32 (2048 * x_29)) + (w32 (Int.tdiv x_53 256))) ∧ w32 ((w32 (2048 * x_29)) + (w32 (Int.tdiv x_53 256))) < 61440) <| lx (m0 96 (w32 ((w32 (2048 * x_29)) + (w32 (Int.tdiv x_53 256))))) fun x_80 =>
some (w32 ((w32 (256 * (w32 (x_80 - 1)))) + (Int.tmod x_53 256)))) BIG p1
set_option maxHeartbeats 4000000 in
theorem om_X12_at {xs : List Int32} {d : Nat} {S : QS} {m0 : MM} {p1 p2 : Int} {v0 : Value} {v1 : Value} {v2 : Value} {rz : Int}
  (hd : 1 ≤ d) (R : Rp S m0) (f0 : q_is 2 v0 68) (f1 : q_is 0 v1 p1) (f2 : q_is 0 v2 p2)
  (h : fm_X12_at p1 p2 m0 = some rz) : Mt xs d 203 [v0, v1, v2] S (Cr 0 m0 m0 rz) := by
  obtain ⟨d, rfl⟩ : ∃ e, d = e + 1 := ⟨d - 1, by omega⟩
  have hd : 0 ≤ d := Nat.le_of_succ_le_succ hd
  refine Mt.of (M := qM_X12_at) rfl (by rw [sl_1 (q_is_cat f0 (Or.inr rfl)), sl_1 (q_is_cat f1 (Or.inl rfl)), sl_1 (q_is_cat f2 (Or.inl rfl)), sl_0]; decide) ?_
  rw [la_1 (q_is_cat f0 (Or.inr rfl)), la_1 (q_is_cat f1 (Or.inl rfl)), la_1 (q_is_cat f2 (Or.inl rfl)), la_0]
  obtain ⟨L, hL⟩ : ∃ L : QL, L = [(0, v0), (0 + 1, v1), (0 + 1 + 1, v2)] := ⟨_, rfl⟩
  rw [← hL]
  have l0 : q_lo L 0 = some v0 := by rw [hL]; rfl
  have l1 : q_lo L 1 = some v1 := by rw [hL]; rfl
  have l2 : q_lo L 2 = some v2 := by rw [hL]; rfl
  have hQ : ∀ o S1, Rp S1 m0 → q_out 0 o rz → (Cr 0 m0 m0 rz) o S1 := fun o S1 a b => ⟨a, Ext.rf _, b⟩
  unfold fm_X12_at at h
  refine go_iload_n (n := 1) (by decide +kernel) l1 f1 ?_
  refine go_istore_n (n := 3) (by decide +kernel) (by decide +kernel) f1 fun L_1 l_2 kp_3 => ?_
  have l_4 := kp_3 0 _ l0 (by decide) (Or.inl (by decide))
  have l_5 := kp_3 2 _ l2 (by decide) (Or.inr (q_is_cat f2 (Or.inl rfl)))
  refine ol_X12_at_2 hd  ?_ hQ BIG h R l_4 f0 l_5 f2 l_2 f1
  intro x_29 S_39 L_40 v_30 v_31 v_32
  intro h R_41 l_33 f_36 l_34 f_37 l_35 f_38
  refine go_iload_n (n := 2) (by decide +kernel) l_34 f_37 ?_
  refine go_aload_n (n := 0) (by decide +kernel) l_33 f_36 ?_
  refine go_getf (x := 67) (ci := 13) (kf := 21) (fin := 1) (t := 2) (by decide +kernel) (by decide +kernel) (by decide +kernel) R_41 f_36 (fx_k (c := 13) R_41 (by decide +kernel)) fun v_42 f_43 => ?_
  have f_44 := q_is_eq (b := 88) f_43 (fx_v R_41 (by decide +kernel)).symm
  refine go_iload_n (n := 3) (by decide +kernel) l_35 f_38 ?_
  obtain ⟨g_47, h⟩ := gd_s h
  obtain ⟨x_49, e_50, h⟩ := lx_s h
  refine go_iald (kd := 100) (by decide +kernel) rfl R_41 f_44 f_38 (fx_k (c := 100) R_41 (by decide +kernel)) (fx_x (a := 88) (ln := 30) R_41 (by decide +kernel) g_47) fun v_45 f_46 => ?_
  have f_48 := q_is_eq f_46 e_50
  refine go_isub (by decide +kernel) f_37 f_48 fun v_51 f_52 => ?_
  obtain ⟨x_53, e_54, h⟩ := lx_s h
  have f_55 := q_is_eq f_52 e_54
  refine go_istore (n := 4) (by decide +kernel) (by decide +kernel) f_55 fun L_56 l_57 kp_58 => ?_
  have l_59 := kp_58 0 _ l_33 (by decide) (Or.inl (by decide))
  have l_60 := kp_58 3 _ l_35 (by decide) (Or.inr (q_is_cat f_38 (Or.inl rfl)))
  refine go_sipush (n := 256) (z := 256) (by decide +kernel) (by decide) fun v_61 f_62 => ?_
  refine go_aload_n (n := 0) (by decide +kernel) l_59 f_36 ?_
  refine go_getf (x := 98) (ci := 13) (kf := 31) (fin := 1) (t := 2) (by decide +kernel) (by decide +kernel) (by decide +kernel) R_41 f_36 (fx_k (c := 13) R_41 (by decide +kernel)) fun v_63 f_64 => ?_
  have f_65 := q_is_eq (b := 96) f_64 (fx_v R_41 (by decide +kernel)).symm
  refine go_sipush (n := 2048) (z := 2048) (by decide +kernel) (by decide) fun v_66 f_67 => ?_
  refine go_iload_n (n := 3) (by decide +kernel) l_60 f_38 ?_
  refine go_imul (by decide +kernel) f_67 f_38 fun v_68 f_69 => ?_
  refine go_iload (n := 4) (by decide +kernel) l_57 f_55 ?_
  refine go_sipush (n := 256) (z := 256) (by decide +kernel) (by decide) fun v_70 f_71 => ?_
  refine go_idiv (by decide +kernel) f_55 f_71 (by decide) fun v_72 f_73 => ?_
  refine go_iadd (by decide +kernel) f_69 f_73 fun v_74 f_75 => ?_
  obtain ⟨g_78, h⟩ := gd_s h
  obtain ⟨x_80, e_81, h⟩ := lx_s h
  refine go_iald (kd := 100) (by decide +kernel) rfl R_41 f_65 f_75 (fx_k (c := 100) R_41 (by decide +kernel)) (fx_x (a := 96) (ln := 61440) R_41 (by decide +kernel) g_78) fun v_76 f_77 => ?_
  have f_79 := q_is_eq f_77 e_81
  refine go_iconst (n := 1) (z := 1) (by decide +kernel) (by decide) fun v_82 f_83 => ?_
  refine go_isub (by decide +kernel) f_79 f_83 fun v_84 f_85 => ?_
  refine go_imul (by decide +kernel) f_62 f_85 fun v_86 f_87 => ?_
  refine go_iload (n := 4) (by decide +kernel) l_57 f_55 ?_
  refine go_sipush (n := 256) (z := 256) (by decide +kernel) (by decide) fun v_88 f_89 => ?_
  refine go_irem (by decide +kernel) f_55 f_89 (by decide) fun v_90 f_91 => ?_
  refine go_iadd (by decide +kernel) f_87 f_91 fun v_92 f_93 => ?_
  cases h
  exact go_iret (by decide +kernel) rfl (Or.inl rfl) f_93 (hQ _ _ R_41 (q_out_v (by decide) f_93))
end DF25
