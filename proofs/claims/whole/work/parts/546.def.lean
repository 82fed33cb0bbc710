/-! Methods as functions (written by wip/whole/dec.py), 46: X12_takeOver, X12_join, X12_isSchedule, X12_schedule. -/
section DF46
noncomputable def fl_X12_takeOver_30 (k65 : Int → MM → Option (Int × MM)) : Nat → Int → Int → MM → Option (Int × MM)
  | 0, _, _, _ => none
  | n + 1, y1, y2, m => lx (m 68 12) fun x_47 =>
if y2 < x_47 then
gd (0 ≤ y2 ∧ y2 < 30) <| lx (m 83 y2) fun x_57 =>
if x_57 = 0 then
bd (fm_X12_cutsRun y2 m) fun x_83 m_84 =>
lx (w32 (y1 + x_83)) fun x_96 =>
lx (w32 (y2 + 1)) fun x_109 =>
fl_X12_takeOver_30 k65 n x_96 x_109 m_84
else
lx (w32 (y1 + 0)) fun x_64 =>
lx (w32 (y2 + 1)) fun x_77 =>
fl_X12_takeOver_30 k65 n x_64 x_77 m
else
k65 y1 m
set_option maxHeartbeats 4000000 in
theorem ol_X12_takeOver_30 {xs : List Int32} {d : Nat} {Q : QO → QS → Prop} {mb : MM} {k65 : Int → MM → Option (Int × MM)} {rz : Int} {rm : MM}
  (hd : 5 ≤ d)
  (hk65 : ∀ mq : MM, Ext mb mq → ∀ {z1 : Int} {Sq : QS} {Lq : QL} {u0 : Value} {u1 : Value}, k65 z1 mq = some (rz, rm) → Rp Sq mq → q_lo Lq 0 = some u0 → q_is 2 u0 68 → q_lo Lq 1 = some u1 → q_is 0 u1 z1 → Go xs d qM_X12_takeOver 65 Lq [] Sq Q)
  (hQ : Ext mb rm → ∀ o S1, Rp S1 rm → q_out 0 o rz → Q o S1) :
  ∀ (n : Nat) {m : MM} {S : QS} {L : QL} {y1 y2 : Int} {v0 : Value} {v1 : Value} {v2 : Value} , Ext mb m → fl_X12_takeOver_30 k65 n y1 y2 m = some (rz, rm) → Rp S m → q_lo L 0 = some v0 → q_is 2 v0 68 → q_lo L 1 = some v1 → q_is 0 v1 y1 → q_lo L 2 = some v2 → q_is 0 v2 y2 → Go xs d qM_X12_takeOver 30 L [] S Q := by
  intro n
  induction n with
  | zero => intro m S L y1 y2 v0 v1 v2; intro E h R l0 f0 l1 f1 l2 f2; cases h
  | succ n ih0 =>
    intro m S L y1 y2 v0 v1 v2; intro E h R l0 f0 l1 f1 l2 f2
    have ih : ∀ mq : MM, Ext mb mq → ∀ {z1 : Int} {z2 : Int} {Sq : QS} {Lq : QL} {u0 : Value} {u1 : Value} {u2 : Value}, fl_X12_takeOver_30 k65 n z1 z2 mq = some (rz, rm) → Rp Sq mq → q_lo Lq 0 = some u0 → q_is 2 u0 68 → q_lo Lq 1 = some u1 → q_is 0 u1 z1 → q_lo Lq 2 = some u2 → q_is 0 u2 z2 → Go xs d qM_X12_takeOver 30 Lq [] Sq Q := fun mq b => by intros; exact ih0 b ‹_› ‹_› ‹_› ‹_› ‹_› ‹_› ‹_› ‹_›
    unfold fl_X12_takeOver_30 at h
    refine go_iload_n (n := 2) (by decide +kernel) l2 f2 ?_
    refine go_aload_n (n := 0) (by decide +kernel) l0 f0 ?_
    obtain ⟨x_47, e_48, h⟩ := lx_s h
    refine go_getf (x := 310) (ci := 13) (kf := 12) (fin := 0) (t := 0) (by decide +kernel) (by decide +kernel) (by decide +kernel) R f0 (fx_k (c := 13) R (by decide +kernel)) fun v_44 f_45 => ?_
    have f_46 := q_is_eq f_45 e_48
    refine go_icmp (c := .ge) (o := 30) (t := 65) (P := ¬ (y2 < x_47)) (by decide +kernel) (by decide +kernel) f2 f_46 (Int.not_lt.symm) (fun hp_49 => ?_) (fun hp_49 => ?_)
    · have h := it_f hp_49 h
      exact hk65 m E h R l0 f0 l1 f1
    · have h := it_n hp_49 h
      refine go_iload_n (n := 1) (by decide +kernel) l1 f1 ?_
      refine go_aload_n (n := 0) (by decide +kernel) l0 f0 ?_
      refine go_getf (x := 52) (ci := 13) (kf := 16) (fin := 1) (t := 2) (by decide +kernel) (by decide +kernel) (by decide +kernel) R f0 (fx_k (c := 13) R (by decide +kernel)) fun v_50 f_51 => ?_
      have f_52 := q_is_eq (b := 83) f_51 (fx_v R (by decide +kernel)).symm
      refine go_iload_n (n := 2) (by decide +kernel) l2 f2 ?_
      obtain ⟨g_55, h⟩ := gd_s h
      obtain ⟨x_57, e_58, h⟩ := lx_s h
      refine go_iald (kd := 100) (by decide +kernel) rfl R f_52 f2 (fx_k (c := 100) R (by decide +kernel)) (fx_x (a := 83) (ln := 30) R (by decide +kernel) g_55) fun v_53 f_54 => ?_
      have f_56 := q_is_eq f_54 e_58
      refine go_if (c := .ne) (o := 11) (t := 56) (P := ¬ (x_57 = 0)) (by decide +kernel) (by decide +kernel) f_56 (Iff.rfl) (fun hp_59 => ?_) (fun hp_59 => ?_)
      · have h := it_f hp_59 h
        refine go_iconst (n := 0) (z := 0) (by decide +kernel) (by decide) fun v_60 f_61 => ?_
        refine go_iadd (by decide +kernel) f1 f_61 fun v_62 f_63 => ?_
        obtain ⟨x_64, e_65, h⟩ := lx_s h
        have f_66 := q_is_eq f_63 e_65
        refine go_istore_n (n := 1) (by decide +kernel) (by decide +kernel) f_66 fun L_67 l_68 kp_69 => ?_
        have l_70 := kp_69 0 _ l0 (by decide) (Or.inr (q_is_cat f0 (Or.inr rfl)))
        have l_71 := kp_69 2 _ l2 (by decide) (Or.inl (by decide))
        refine go_iinc (n := 2) (c := 1) (c' := 1) (by decide +kernel) (by decide +kernel) l_71 f2 (by decide) fun L_72 v_73 f_74 l_75 kp_76 => ?_
        obtain ⟨x_77, e_78, h⟩ := lx_s h
        have f_79 := q_is_eq f_74 e_78
        have l_80 := kp_76 0 _ l_70 (by decide) (Or.inl (by decide))
        have l_81 := kp_76 1 _ l_68 (by decide) (Or.inr (q_is_cat f_66 (Or.inl rfl)))
        refine go_goto (o := (-32)) (t := 30) (by decide +kernel) (by decide +kernel) ?_
        exact ih m E h R l_80 f0 l_81 f_66 l_75 f_79
      · have h := it_n hp_59 h
        refine go_aload_n (n := 0) (by decide +kernel) l0 f0 ?_
        refine go_iload_n (n := 2) (by decide +kernel) l2 f2 ?_
        obtain ⟨x_83, m_84, hc_82, h⟩ := bd_s h
        refine go_callV (x := 688) (mi := 303) (n := 1) (ci := 13) (as := [v2]) (rest := [v1]) (by decide +kernel) (by decide +kernel) rfl rfl (q_sum8 _ (Nat.le_of_ble_eq_true rfl)) R f0 (fx_k (c := 13) R (by decide +kernel)) (om_X12_cutsRun (Nat.le_trans (by decide) hd) R f0 f2 hc_82) (fun _ S_87 q_90 => ?_) (fun _ _ qq => kr_x qq)
        refine kr_z (by decide) q_90 fun v_85 f_86 R_88 E_89 => ?_
        have E_93 := Ext.tr E E_89
        refine go_goto (o := 4) (t := 57) (by decide +kernel) (by decide +kernel) ?_
        refine go_iadd (by decide +kernel) f1 f_86 fun v_94 f_95 => ?_
        obtain ⟨x_96, e_97, h⟩ := lx_s h
        have f_98 := q_is_eq f_95 e_97
        refine go_istore_n (n := 1) (by decide +kernel) (by decide +kernel) f_98 fun L_99 l_100 kp_101 => ?_
        have l_102 := kp_101 0 _ l0 (by decide) (Or.inr (q_is_cat f0 (Or.inr rfl)))
        have l_103 := kp_101 2 _ l2 (by decide) (Or.inl (by decide))
        refine go_iinc (n := 2) (c := 1) (c' := 1) (by decide +kernel) (by decide +kernel) l_103 f2 (by decide) fun L_104 v_105 f_106 l_107 kp_108 => ?_
        obtain ⟨x_109, e_110, h⟩ := lx_s h
        have f_111 := q_is_eq f_106 e_110
        have l_112 := kp_108 0 _ l_102 (by decide) (Or.inl (by decide))
        have l_113 := kp_108 1 _ l_100 (by decide) (Or.inr (q_is_cat f_98 (Or.inl rfl)))
        refine go_goto (o := (-32)) (t := 30) (by decide +kernel) (by decide +kernel) ?_
        exact ih m_84 E_93 h R_88 l_112 f0 l_113 f_98 l_107 f_111
noncomputable def fl_X12_takeOver_67 (y1 : Int) (k113 : MM → Option (Int × MM)) : Nat → Int → MM → Option (Int × MM)
  | 0, _, _ => none
  | n + 1, y2, m => lx (m 68 12) fun x_139 =>
if y2 < x_139 then
gd (0 ≤ y2 ∧ y2 < 30) <| lx (m 83 y2) fun x_149 =>
if x_149 = 0 then
lx (m 86 y2) fun x_168 =>
if x_168 = 0 then
up m 83 y2 5 fun m_186 =>
bd (fm_X12_closes y2 1 0 m_186) fun x_198 m_199 =>
lx (w32 (y2 + 1)) fun x_214 =>
fl_X12_takeOver_67 y1 k113 n x_214 m_199
else
lx (w32 (y2 + 1)) fun x_176 =>
fl_X12_takeOver_67 y1 k113 n x_176 m
else
lx (w32 (y2 + 1)) fun x_157 =>
fl_X12_takeOver_67 y1 k113 n x_157 m
else
k113 m
set_option maxHeartbeats 4000000 in
theorem ol_X12_takeOver_67 {xs : List Int32} {d : Nat} {Q : QO → QS → Prop} {mb : MM} {y1 : Int} {k113 : MM → Option (Int × MM)} {rz : Int} {rm : MM}
  (hd : 5 ≤ d)
  (hk113 : ∀ mq : MM, Ext mb mq → ∀ {Sq : QS} {Lq : QL} {u0 : Value} {u1 : Value}, k113 mq = some (rz, rm) → Rp Sq mq → q_lo Lq 0 = some u0 → q_is 2 u0 68 → q_lo Lq 1 = some u1 → q_is 0 u1 y1 → Go xs d qM_X12_takeOver 113 Lq [] Sq Q)
  (hQ : Ext mb rm → ∀ o S1, Rp S1 rm → q_out 0 o rz → Q o S1) :
  ∀ (n : Nat) {m : MM} {S : QS} {L : QL} {y2 : Int} {v0 : Value} {v1 : Value} {v2 : Value} , Ext mb m → fl_X12_takeOver_67 y1 k113 n y2 m = some (rz, rm) → Rp S m → q_lo L 0 = some v0 → q_is 2 v0 68 → q_lo L 1 = some v1 → q_is 0 v1 y1 → q_lo L 2 = some v2 → q_is 0 v2 y2 → Go xs d qM_X12_takeOver 67 L [] S Q := by
  intro n
  induction n with
  | zero => intro m S L y2 v0 v1 v2; intro E h R l0 f0 l1 f1 l2 f2; cases h
  | succ n ih0 =>
    intro m S L y2 v0 v1 v2; intro E h R l0 f0 l1 f1 l2 f2
    have ih : ∀ mq : MM, Ext mb mq → ∀ {z2 : Int} {Sq : QS} {Lq : QL} {u0 : Value} {u1 : Value} {u2 : Value}, fl_X12_takeOver_67 y1 k113 n z2 mq = some (rz, rm) → Rp Sq mq → q_lo Lq 0 = some u0 → q_is 2 u0 68 → q_lo Lq 1 = some u1 → q_is 0 u1 y1 → q_lo Lq 2 = some u2 → q_is 0 u2 z2 → Go xs d qM_X12_takeOver 67 Lq [] Sq Q := fun mq b => by intros; exact ih0 b ‹_› ‹_› ‹_› ‹_› ‹_› ‹_› ‹_› ‹_›
    unfold fl_X12_takeOver_67 at h
    refine go_iload_n (n := 2) (by decide +kernel) l2 f2 ?_
    refine go_aload_n (n := 0) (by decide +kernel) l0 f0 ?_
    obtain ⟨x_139, e_140, h⟩ := lx_s h
    refine go_getf (x := 310) (ci := 13) (kf := 12) (fin := 0) (t := 0) (by decide +kernel) (by decide +kernel) (by decide +kernel) R f0 (fx_k (c := 13) R (by decide +kernel)) fun v_136 f_137 => ?_
    have f_138 := q_is_eq f_137 e_140
    refine go_icmp (c := .ge) (o := 41) (t := 113) (P := ¬ (y2 < x_139)) (by decide +kernel) (by decide +kernel) f2 f_138 (Int.not_lt.symm) (fun hp_141 => ?_) (fun hp_141 => ?_)
    · have h := it_f hp_141 h
      exact hk113 m E h R l0 f0 l1 f1
    · have h := it_n hp_141 h
      refine go_aload_n (n := 0) (by decide +kernel) l0 f0 ?_
      refine go_getf (x := 52) (ci := 13) (kf := 16) (fin := 1) (t := 2) (by decide +kernel) (by decide +kernel) (by decide +kernel) R f0 (fx_k (c := 13) R (by decide +kernel)) fun v_142 f_143 => ?_
      have f_144 := q_is_eq (b := 83) f_143 (fx_v R (by decide +kernel)).symm
      refine go_iload_n (n := 2) (by decide +kernel) l2 f2 ?_
      obtain ⟨g_147, h⟩ := gd_s h
      obtain ⟨x_149, e_150, h⟩ := lx_s h
      refine go_iald (kd := 100) (by decide +kernel) rfl R f_144 f2 (fx_k (c := 100) R (by decide +kernel)) (fx_x (a := 83) (ln := 30) R (by decide +kernel) g_147) fun v_145 f_146 => ?_
      have f_148 := q_is_eq f_146 e_150
      refine go_if (c := .ne) (o := 26) (t := 107) (P := ¬ (x_149 = 0)) (by decide +kernel) (by decide +kernel) f_148 (Iff.rfl) (fun hp_151 => ?_) (fun hp_151 => ?_)
      · have h := it_f hp_151 h
        refine go_iinc (n := 2) (c := 1) (c' := 1) (by decide +kernel) (by decide +kernel) l2 f2 (by decide) fun L_152 v_153 f_154 l_155 kp_156 => ?_
        obtain ⟨x_157, e_158, h⟩ := lx_s h
        have f_159 := q_is_eq f_154 e_158
        have l_160 := kp_156 0 _ l0 (by decide) (Or.inl (by decide))
        have l_161 := kp_156 1 _ l1 (by decide) (Or.inr (q_is_cat f1 (Or.inl rfl)))
        refine go_goto (o := (-43)) (t := 67) (by decide +kernel) (by decide +kernel) ?_
        exact ih m E h R l_160 f0 l_161 f1 l_155 f_159
      · have h := it_n hp_151 h
        refine go_aload_n (n := 0) (by decide +kernel) l0 f0 ?_
        refine go_getf (x := 61) (ci := 13) (kf := 19) (fin := 1) (t := 2) (by decide +kernel) (by decide +kernel) (by decide +kernel) R f0 (fx_k (c := 13) R (by decide +kernel)) fun v_162 f_163 => ?_
        have f_164 := q_is_eq (b := 86) f_163 (fx_v R (by decide +kernel)).symm
        refine go_iload_n (n := 2) (by decide +kernel) l2 f2 ?_
        obtain ⟨x_168, e_169, h⟩ := lx_s h
        refine go_iald (kd := 100) (by decide +kernel) rfl R f_164 f2 (fx_k (c := 100) R (by decide +kernel)) (fx_x (a := 86) (ln := 30) R (by decide +kernel) g_147) fun v_165 f_166 => ?_
        have f_167 := q_is_eq f_166 e_169
        refine go_if (c := .ne) (o := 17) (t := 107) (P := ¬ (x_168 = 0)) (by decide +kernel) (by decide +kernel) f_167 (Iff.rfl) (fun hp_170 => ?_) (fun hp_170 => ?_)
        · have h := it_f hp_170 h
          refine go_iinc (n := 2) (c := 1) (c' := 1) (by decide +kernel) (by decide +kernel) l2 f2 (by decide) fun L_171 v_172 f_173 l_174 kp_175 => ?_
          obtain ⟨x_176, e_177, h⟩ := lx_s h
          have f_178 := q_is_eq f_173 e_177
          have l_179 := kp_175 0 _ l0 (by decide) (Or.inl (by decide))
          have l_180 := kp_175 1 _ l1 (by decide) (Or.inr (q_is_cat f1 (Or.inl rfl)))
          refine go_goto (o := (-43)) (t := 67) (by decide +kernel) (by decide +kernel) ?_
          exact ih m E h R l_179 f0 l_180 f1 l_174 f_178
        · have h := it_n hp_170 h
          refine go_aload_n (n := 0) (by decide +kernel) l0 f0 ?_
          refine go_getf (x := 52) (ci := 13) (kf := 16) (fin := 1) (t := 2) (by decide +kernel) (by decide +kernel) (by decide +kernel) R f0 (fx_k (c := 13) R (by decide +kernel)) fun v_181 f_182 => ?_
          have f_183 := q_is_eq (b := 83) f_182 (fx_v R (by decide +kernel)).symm
          refine go_iload_n (n := 2) (by decide +kernel) l2 f2 ?_
          refine go_iconst (n := 5) (z := 5) (by decide +kernel) (by decide) fun v_184 f_185 => ?_
          obtain ⟨m_186, e_187, h⟩ := up_s h
          refine go_iast (kd := 100) (by decide +kernel) rfl R f_183 f2 f_185 (fx_k (c := 100) R (by decide +kernel)) (fx_x (a := 83) (ln := 30) R (by decide +kernel) g_147) e_187 (fx_a R.2 (fx_k (c := 100) R (by decide +kernel)) (And.left (fx_x (a := 83) (ln := 30) R (by decide +kernel) g_147)) (by decide +kernel)) fun S_188 R_189 E_190 => ?_
          have E_192 := Ext.tr E E_190
          refine go_aload_n (n := 0) (by decide +kernel) l0 f0 ?_
          refine go_iload_n (n := 2) (by decide +kernel) l2 f2 ?_
          refine go_iconst (n := 1) (z := 1) (by decide +kernel) (by decide) fun v_193 f_194 => ?_
          refine go_iconst (n := 0) (z := 0) (by decide +kernel) (by decide) fun v_195 f_196 => ?_
          obtain ⟨x_198, m_199, hc_197, h⟩ := bd_s h
          refine go_callV (x := 635) (mi := 257) (n := 3) (ci := 13) (as := [v2, v_193, v_195]) (rest := []) (by decide +kernel) (by decide +kernel) rfl rfl (q_sum8 _ (Nat.le_of_ble_eq_true rfl)) R_189 f0 (fx_k (c := 13) R_189 (by decide +kernel)) (om_X12_closes (Nat.le_trans (by decide) hd) R_189 f0 f2 f_194 f_196 hc_197) (fun _ S_202 q_205 => ?_) (fun _ _ qq => kr_x qq)
          refine kr_v q_205 fun R_203 E_204 => ?_
          have E_208 := Ext.tr E_192 E_204
          refine go_iinc (n := 2) (c := 1) (c' := 1) (by decide +kernel) (by decide +kernel) l2 f2 (by decide) fun L_209 v_210 f_211 l_212 kp_213 => ?_
          obtain ⟨x_214, e_215, h⟩ := lx_s h
          have f_216 := q_is_eq f_211 e_215
          have l_217 := kp_213 0 _ l0 (by decide) (Or.inl (by decide))
          have l_218 := kp_213 1 _ l1 (by decide) (Or.inr (q_is_cat f1 (Or.inl rfl)))
          refine go_goto (o := (-43)) (t := 67) (by decide +kernel) (by decide +kernel) ?_
          exact ih m_199 E_208 h R_203 l_217 f0 l_218 f1 l_212 f_216
noncomputable def fl_X12_takeOver_115 (y1 : Int) : Nat → Int → MM → Option (Int × MM)
  | 0, _, _ => none
  | n + 1, y2, m => lx (m 68 12) fun x_243 =>
if y2 < x_243 then
gd (0 ≤ y2 ∧ y2 < 30) <| lx (m 83 y2) fun x_253 =>
if x_253 = 0 then
bd (fm_X12_beginsAnew y2 m) fun x_267 m_268 =>
lx (w32 (y2 + 1)) fun x_283 =>
fl_X12_takeOver_115 y1 n x_283 m_268
else
lx (w32 (y2 + 1)) fun x_261 =>
fl_X12_takeOver_115 y1 n x_261 m
else
some (y1, m)
set_option maxHeartbeats 4000000 in
theorem ol_X12_takeOver_115 {xs : List Int32} {d : Nat} {Q : QO → QS → Prop} {mb : MM} {y1 : Int} {rz : Int} {rm : MM}
  (hd : 5 ≤ d)
  (hQ : Ext mb rm → ∀ o S1, Rp S1 rm → q_out 0 o rz → Q o S1) :
  ∀ (n : Nat) {m : MM} {S : QS} {L : QL} {y2 : Int} {v0 : Value} {v1 : Value} {v2 : Value} , Ext mb m → fl_X12_takeOver_115 y1 n y2 m = some (rz, rm) → Rp S m → q_lo L 0 = some v0 → q_is 2 v0 68 → q_lo L 1 = some v1 → q_is 0 v1 y1 → q_lo L 2 = some v2 → q_is 0 v2 y2 → Go xs d qM_X12_takeOver 115 L [] S Q := by
  intro n
  induction n with
  | zero => intro m S L y2 v0 v1 v2; intro E h R l0 f0 l1 f1 l2 f2; cases h
  | succ n ih0 =>
    intro m S L y2 v0 v1 v2; intro E h R l0 f0 l1 f1 l2 f2
    have ih : ∀ mq : MM, Ext mb mq → ∀ {z2 : Int} {Sq : QS} {Lq : QL} {u0 : Value} {u1 : Value} {u2 : Value}, fl_X12_takeOver_115 y1 n z2 mq = some (rz, rm) → Rp Sq mq → q_lo Lq 0 = some u0 → q_is 2 u0 68 → q_lo Lq 1 = some u1 → q_is 0 u1 y1 → q_lo Lq 2 = some u2 → q_is 0 u2 z2 → Go xs d qM_X12_takeOver 115 Lq [] Sq Q := fun mq b => by intros; exact ih0 b ‹_› ‹_› ‹_› ‹_› ‹_› ‹_› ‹_› ‹_›
    unfold fl_X12_takeOver_115 at h
    refine go_iload_n (n := 2) (by decide +kernel) l2 f2 ?_
    refine go_aload_n (n := 0) (by decide +kernel) l0 f0 ?_
    obtain ⟨x_243, e_244, h⟩ := lx_s h
    refine go_getf (x := 310) (ci := 13) (kf := 12) (fin := 0) (t := 0) (by decide +kernel) (by decide +kernel) (by decide +kernel) R f0 (fx_k (c := 13) R (by decide +kernel)) fun v_240 f_241 => ?_
    have f_242 := q_is_eq f_241 e_244
    refine go_icmp (c := .ge) (o := 23) (t := 143) (P := ¬ (y2 < x_243)) (by decide +kernel) (by decide +kernel) f2 f_242 (Int.not_lt.symm) (fun hp_245 => ?_) (fun hp_245 => ?_)
    · have h := it_f hp_245 h
      refine go_iload_n (n := 1) (by decide +kernel) l1 f1 ?_
      cases h
      exact go_iret (by decide +kernel) rfl (Or.inl rfl) f1 (hQ E _ _ R (q_out_v (by decide) f1))
    · have h := it_n hp_245 h
      refine go_aload_n (n := 0) (by decide +kernel) l0 f0 ?_
      refine go_getf (x := 52) (ci := 13) (kf := 16) (fin := 1) (t := 2) (by decide +kernel) (by decide +kernel) (by decide +kernel) R f0 (fx_k (c := 13) R (by decide +kernel)) fun v_246 f_247 => ?_
      have f_248 := q_is_eq (b := 83) f_247 (fx_v R (by decide +kernel)).symm
      refine go_iload_n (n := 2) (by decide +kernel) l2 f2 ?_
      obtain ⟨g_251, h⟩ := gd_s h
      obtain ⟨x_253, e_254, h⟩ := lx_s h
      refine go_iald (kd := 100) (by decide +kernel) rfl R f_248 f2 (fx_k (c := 100) R (by decide +kernel)) (fx_x (a := 83) (ln := 30) R (by decide +kernel) g_251) fun v_249 f_250 => ?_
      have f_252 := q_is_eq f_250 e_254
      refine go_if (c := .ne) (o := 8) (t := 137) (P := ¬ (x_253 = 0)) (by decide +kernel) (by decide +kernel) f_252 (Iff.rfl) (fun hp_255 => ?_) (fun hp_255 => ?_)
      · have h := it_f hp_255 h
        refine go_iinc (n := 2) (c := 1) (c' := 1) (by decide +kernel) (by decide +kernel) l2 f2 (by decide) fun L_256 v_257 f_258 l_259 kp_260 => ?_
        obtain ⟨x_261, e_262, h⟩ := lx_s h
        have f_263 := q_is_eq f_258 e_262
        have l_264 := kp_260 0 _ l0 (by decide) (Or.inl (by decide))
        have l_265 := kp_260 1 _ l1 (by decide) (Or.inr (q_is_cat f1 (Or.inl rfl)))
        refine go_goto (o := (-25)) (t := 115) (by decide +kernel) (by decide +kernel) ?_
        exact ih m E h R l_264 f0 l_265 f1 l_259 f_263
      · have h := it_n hp_255 h
        refine go_aload_n (n := 0) (by decide +kernel) l0 f0 ?_
        refine go_iload_n (n := 2) (by decide +kernel) l2 f2 ?_
        obtain ⟨x_267, m_268, hc_266, h⟩ := bd_s h
        refine go_callV (x := 676) (mi := 299) (n := 1) (ci := 13) (as := [v2]) (rest := []) (by decide +kernel) (by decide +kernel) rfl rfl (q_sum8 _ (Nat.le_of_ble_eq_true rfl)) R f0 (fx_k (c := 13) R (by decide +kernel)) (om_X12_beginsAnew (Nat.le_trans (by decide) hd) R f0 f2 hc_266) (fun _ S_271 q_274 => ?_) (fun _ _ qq => kr_x qq)
        refine kr_v q_274 fun R_272 E_273 => ?_
        have E_277 := Ext.tr E E_273
        refine go_iinc (n := 2) (c := 1) (c' := 1) (by decide +kernel) (by decide +kernel) l2 f2 (by decide) fun L_278 v_279 f_280 l_281 kp_282 => ?_
        obtain ⟨x_283, e_284, h⟩ := lx_s h
        have f_285 := q_is_eq f_280 e_284
        have l_286 := kp_282 0 _ l0 (by decide) (Or.inl (by decide))
        have l_287 := kp_282 1 _ l1 (by decide) (Or.inr (q_is_cat f1 (Or.inl rfl)))
        refine go_goto (o := (-25)) (t := 115) (by decide +kernel) (by decide +kernel) ?_
        exact ih m_268 E_277 h R_272 l_286 f0 l_287 f1 l_281 f_285
noncomputable def fj_X12_takeOver_13 ( s0 : Int) (m : MM) : Option (Int × MM) := bd (fm_X12_fails s0 m) fun x_10 m_11 =>
if x_10 = 0 then
up m_11 68 83 1 fun m_24 =>
fl_X12_takeOver_30  (fun x_114 m_124 =>
fl_X12_takeOver_67 x_114 (fun m_228 =>
fl_X12_takeOver_115 x_114  BIG 0 m_228) BIG 0 m_124) BIG 0 0 m_24
else
some (0, m_11)
set_option maxHeartbeats 4000000 in
theorem oj_X12_takeOver_13 {xs : List Int32} {d : Nat} {S : QS} {L : QL} {Q : QO → QS → Prop} {m : MM} {s0 : Int} {v0 : Value} {w0 : Value} {w1 : Value}  {rz : Int} {rm : MM}
  (hd : 5 ≤ d) (R : Rp S m) (l0 : q_lo L 0 = some v0) (f0 : q_is 2 v0 68) (fs0 : q_is 0 w0 s0) (fs1 : q_is 2 w1 68)
  (hQ : Ext m rm → ∀ o S1, Rp S1 rm → q_out 0 o rz → Q o S1)
  (h : fj_X12_takeOver_13 s0 m = some (rz, rm)) : Go xs d qM_X12_takeOver 13 L [w0, w1] S Q := by
  unfold fj_X12_takeOver_13 at h
  obtain ⟨x_10, m_11, hc_9, h⟩ := bd_s h
  refine go_callV (x := 324) (mi := 186) (n := 1) (ci := 13) (as := [w0]) (rest := []) (by decide +kernel) (by decide +kernel) rfl rfl (q_sum8 _ (Nat.le_of_ble_eq_true rfl)) R fs1 (fx_k (c := 13) R (by decide +kernel)) (om_X12_fails (Nat.le_trans (by decide) hd) R fs1 fs0 hc_9) (fun _ S_14 q_17 => ?_) (fun _ _ qq => kr_x qq)
  refine kr_z (by decide) q_17 fun v_12 f_13 R_15 E_16 => ?_
  have E_20 := E_16
  refine go_if (c := .eq) (o := 5) (t := 21) (P := x_10 = 0) (by decide +kernel) (by decide +kernel) f_13 (Iff.rfl) (fun hp_21 => ?_) (fun hp_21 => ?_)
  · have h := it_t hp_21 h
    refine go_aload_n (n := 0) (by decide +kernel) l0 f0 ?_
    refine go_iconst (n := 1) (z := 1) (by decide +kernel) (by decide) fun v_22 f_23 => ?_
    obtain ⟨m_24, e_25, h⟩ := up_s h
    refine go_putf (x := 685) (ci := 13) (kf := 83) (fin := 0) (zt := 1) (by decide +kernel) (by decide +kernel) (by decide) (by decide +kernel) (by decide) (Or.inl rfl) R_15 f0 f_23 (fun _ => by decide) (fx_k (c := 13) R_15 (by decide +kernel)) e_25 (fx_f (j := 83) R_15.2 (fx_k (c := 13) R_15 (by decide +kernel)) (by decide +kernel)) fun S_26 R_27 E_28 => ?_
    have E_30 := Ext.tr E_20 E_28
    refine go_iconst (n := 0) (z := 0) (by decide +kernel) (by decide) fun v_31 f_32 => ?_
    refine go_istore_n (n := 1) (by decide +kernel) (by decide +kernel) f_32 fun L_33 l_34 kp_35 => ?_
    have l_36 := kp_35 0 _ l0 (by decide) (Or.inr (q_is_cat f0 (Or.inr rfl)))
    refine go_iconst (n := 0) (z := 0) (by decide +kernel) (by decide) fun v_37 f_38 => ?_
    refine go_istore_n (n := 2) (by decide +kernel) (by decide +kernel) f_38 fun L_39 l_40 kp_41 => ?_
    have l_42 := kp_41 0 _ l_36 (by decide) (Or.inl (by decide))
    have l_43 := kp_41 1 _ l_34 (by decide) (Or.inr (q_is_cat f_32 (Or.inl rfl)))
    refine ol_X12_takeOver_30 hd  ?_ (fun b => hQ (Ext.tr E_30 b)) BIG (Ext.rf _) h R_27 l_42 f0 l_43 f_32 l_40 f_38
    intro m_124 E_125
    intro x_114 S_121 L_122 v_115 v_116
    intro h R_123 l_117 f_119 l_118 f_120
    have E_126 := Ext.tr E_30 E_125
    refine go_iconst (n := 0) (z := 0) (by decide +kernel) (by decide) fun v_129 f_130 => ?_
    refine go_istore_n (n := 2) (by decide +kernel) (by decide +kernel) f_130 fun L_131 l_132 kp_133 => ?_
    have l_134 := kp_133 0 _ l_117 (by decide) (Or.inl (by decide))
    have l_135 := kp_133 1 _ l_118 (by decide) (Or.inr (q_is_cat f_120 (Or.inl rfl)))
    refine ol_X12_takeOver_67 hd  ?_ (fun b => hQ (Ext.tr E_126 b)) BIG (Ext.rf _) h R_123 l_134 f_119 l_135 f_120 l_132 f_130
    intro m_228 E_229
    intro S_225 L_226 v_219 v_220
    intro h R_227 l_221 f_223 l_222 f_224
    have E_230 := Ext.tr E_126 E_229
    refine go_iconst (n := 0) (z := 0) (by decide +kernel) (by decide) fun v_233 f_234 => ?_
    refine go_istore_n (n := 2) (by decide +kernel) (by decide +kernel) f_234 fun L_235 l_236 kp_237 => ?_
    have l_238 := kp_237 0 _ l_221 (by decide) (Or.inl (by decide))
    have l_239 := kp_237 1 _ l_222 (by decide) (Or.inr (q_is_cat f_224 (Or.inl rfl)))
    refine ol_X12_takeOver_115 hd   (fun b => hQ (Ext.tr E_230 b)) BIG (Ext.rf _) h R_227 l_238 f_223 l_239 f_224 l_236 f_234
  · have h := it_f hp_21 h
    refine go_iconst (n := 0) (z := 0) (by decide +kernel) (by decide) fun v_288 f_289 => ?_
    cases h
    exact go_iret (by decide +kernel) rfl (Or.inl rfl) f_289 (hQ E_20 _ _ R_15 (q_out_v (by decide) f_289))
noncomputable def fm_X12_takeOver (m0 : MM) : Option (Int × MM) := lx (m0 68 83) fun x_4 =>
if x_4 = 0 then
fj_X12_takeOver_13 0 m0
else
fj_X12_takeOver_13 1 m0
set_option maxHeartbeats 4000000 in
theorem om_X12_takeOver {xs : List Int32} {d : Nat} {S : QS} {m0 : MM} {v0 : Value} {rz : Int} {rm : MM}
  (hd : 6 ≤ d) (R : Rp S m0) (f0 : q_is 2 v0 68)
  (h : fm_X12_takeOver m0 = some (rz, rm)) : Mt xs d 304 [v0] S (Cr 0 m0 rm rz) := by
  obtain ⟨d, rfl⟩ : ∃ e, d = e + 1 := ⟨d - 1, by omega⟩
  have hd : 5 ≤ d := Nat.le_of_succ_le_succ hd
  refine Mt.of (M := qM_X12_takeOver) rfl (by rw [sl_1 (q_is_cat f0 (Or.inr rfl)), sl_0]; decide) ?_
  rw [la_1 (q_is_cat f0 (Or.inr rfl)), la_0]
  obtain ⟨L, hL⟩ : ∃ L : QL, L = [(0, v0)] := ⟨_, rfl⟩
  rw [← hL]
  have l0 : q_lo L 0 = some v0 := by rw [hL]; rfl
  have hQ : Ext m0 rm → ∀ o S1, Rp S1 rm → q_out 0 o rz → (Cr 0 m0 rm rz) o S1 := fun a o S1 b e => ⟨b, a, e⟩
  unfold fm_X12_takeOver at h
  refine go_aload_n (n := 0) (by decide +kernel) l0 f0 ?_
  refine go_aload_n (n := 0) (by decide +kernel) l0 f0 ?_
  obtain ⟨x_4, e_5, h⟩ := lx_s h
  refine go_getf (x := 685) (ci := 13) (kf := 83) (fin := 0) (t := 0) (by decide +kernel) (by decide +kernel) (by decide +kernel) R f0 (fx_k (c := 13) R (by decide +kernel)) fun v_1 f_2 => ?_
  have f_3 := q_is_eq f_2 e_5
  refine go_if (c := .eq) (o := 7) (t := 12) (P := x_4 = 0) (by decide +kernel) (by decide +kernel) f_3 (Iff.rfl) (fun hp_6 => ?_) (fun hp_6 => ?_)
  · have h := it_t hp_6 h
    refine go_iconst (n := 0) (z := 0) (by decide +kernel) (by decide) fun v_7 f_8 => ?_
    exact oj_X12_takeOver_13 hd R l0 f0 f_8 f0 hQ h
  · have h := it_f hp_6 h
    refine go_iconst (n := 1) (z := 1) (by decide +kernel) (by decide) fun v_290 f_291 => ?_
    refine go_goto (o := 4) (t := 13) (by decide +kernel) (by decide +kernel) ?_
    exact oj_X12_takeOver_13 hd R l0 f0 f_291 f0 hQ h
noncomputable def fl_X12_join_30 : Nat → Int → Int → MM → Option (Int × MM)
  | 0, _, _, _ => none
  | n + 1, y1, y2, m => lx (m 68 84) fun x_47 =>
if y2 < x_47 then
gd (0 ≤ y2 ∧ y2 < 4096) <| lx (m 139 y2) fun x_69 =>
gd (0 ≤ x_69 ∧ x_69 < 30) <| lx (m 83 x_69) fun x_75 =>
if x_75 = 0 then
lx (m 140 y2) fun x_102 =>
lx (m 141 y2) fun x_110 =>
bd (fm_X12_puts x_69 4 x_102 x_110 m) fun x_113 m_114 =>
lx (w32 (y1 + 1)) fun x_129 =>
lx (w32 (y2 + 1)) fun x_139 =>
fl_X12_join_30 n x_129 x_139 m_114
else
lx (w32 (y2 + 1)) fun x_83 =>
fl_X12_join_30 n y1 x_83 m
else
up m 68 84 0 fun m_52 =>
some (y1, m_52)
set_option maxHeartbeats 4000000 in
theorem ol_X12_join_30 {xs : List Int32} {d : Nat} {Q : QO → QS → Prop} {mb : MM} {rz : Int} {rm : MM}
  (hd : 3 ≤ d)
  (hQ : Ext mb rm → ∀ o S1, Rp S1 rm → q_out 0 o rz → Q o S1) :
  ∀ (n : Nat) {m : MM} {S : QS} {L : QL} {y1 y2 : Int} {v0 : Value} {v1 : Value} {v2 : Value} , Ext mb m → fl_X12_join_30 n y1 y2 m = some (rz, rm) → Rp S m → q_lo L 0 = some v0 → q_is 2 v0 68 → q_lo L 1 = some v1 → q_is 0 v1 y1 → q_lo L 2 = some v2 → q_is 0 v2 y2 → Go xs d qM_X12_join 30 L [] S Q := by
  intro n
  induction n with
  | zero => intro m S L y1 y2 v0 v1 v2; intro E h R l0 f0 l1 f1 l2 f2; cases h
  | succ n ih0 =>
    intro m S L y1 y2 v0 v1 v2; intro E h R l0 f0 l1 f1 l2 f2
    have ih : ∀ mq : MM, Ext mb mq → ∀ {z1 : Int} {z2 : Int} {Sq : QS} {Lq : QL} {u0 : Value} {u1 : Value} {u2 : Value}, fl_X12_join_30 n z1 z2 mq = some (rz, rm) → Rp Sq mq → q_lo Lq 0 = some u0 → q_is 2 u0 68 → q_lo Lq 1 = some u1 → q_is 0 u1 z1 → q_lo Lq 2 = some u2 → q_is 0 u2 z2 → Go xs d qM_X12_join 30 Lq [] Sq Q := fun mq b => by intros; exact ih0 b ‹_› ‹_› ‹_› ‹_› ‹_› ‹_› ‹_› ‹_›
    unfold fl_X12_join_30 at h
    refine go_iload_n (n := 2) (by decide +kernel) l2 f2 ?_
    refine go_aload_n (n := 0) (by decide +kernel) l0 f0 ?_
    obtain ⟨x_47, e_48, h⟩ := lx_s h
    refine go_getf (x := 682) (ci := 13) (kf := 84) (fin := 0) (t := 0) (by decide +kernel) (by decide +kernel) (by decide +kernel) R f0 (fx_k (c := 13) R (by decide +kernel)) fun v_44 f_45 => ?_
    have f_46 := q_is_eq f_45 e_48
    refine go_icmp (c := .ge) (o := 50) (t := 85) (P := ¬ (y2 < x_47)) (by decide +kernel) (by decide +kernel) f2 f_46 (Int.not_lt.symm) (fun hp_49 => ?_) (fun hp_49 => ?_)
    · have h := it_f hp_49 h
      refine go_aload_n (n := 0) (by decide +kernel) l0 f0 ?_
      refine go_iconst (n := 0) (z := 0) (by decide +kernel) (by decide) fun v_50 f_51 => ?_
      obtain ⟨m_52, e_53, h⟩ := up_s h
      refine go_putf (x := 682) (ci := 13) (kf := 84) (fin := 0) (zt := 0) (by decide +kernel) (by decide +kernel) (by decide) (by decide +kernel) (by decide) (Or.inl rfl) R f0 f_51 (fun hq => absurd hq (by decide)) (fx_k (c := 13) R (by decide +kernel)) e_53 (fx_f (j := 84) R.2 (fx_k (c := 13) R (by decide +kernel)) (by decide +kernel)) fun S_54 R_55 E_56 => ?_
      have E_58 := Ext.tr E E_56
      refine go_iload_n (n := 1) (by decide +kernel) l1 f1 ?_
      cases h
      exact go_iret (by decide +kernel) rfl (Or.inl rfl) f1 (hQ E_58 _ _ R_55 (q_out_v (by decide) f1))
    · have h := it_n hp_49 h
      refine go_aload_n (n := 0) (by decide +kernel) l0 f0 ?_
      refine go_getf (x := 52) (ci := 13) (kf := 16) (fin := 1) (t := 2) (by decide +kernel) (by decide +kernel) (by decide +kernel) R f0 (fx_k (c := 13) R (by decide +kernel)) fun v_59 f_60 => ?_
      have f_61 := q_is_eq (b := 83) f_60 (fx_v R (by decide +kernel)).symm
      refine go_aload_n (n := 0) (by decide +kernel) l0 f0 ?_
      refine go_getf (x := 232) (ci := 13) (kf := 85) (fin := 1) (t := 2) (by decide +kernel) (by decide +kernel) (by decide +kernel) R f0 (fx_k (c := 13) R (by decide +kernel)) fun v_62 f_63 => ?_
      have f_64 := q_is_eq (b := 139) f_63 (fx_v R (by decide +kernel)).symm
      refine go_iload_n (n := 2) (by decide +kernel) l2 f2 ?_
      obtain ⟨g_67, h⟩ := gd_s h
      obtain ⟨x_69, e_70, h⟩ := lx_s h
      refine go_iald (kd := 100) (by decide +kernel) rfl R f_64 f2 (fx_k (c := 100) R (by decide +kernel)) (fx_x (a := 139) (ln := 4096) R (by decide +kernel) g_67) fun v_65 f_66 => ?_
      have f_68 := q_is_eq f_66 e_70
      obtain ⟨g_73, h⟩ := gd_s h
      obtain ⟨x_75, e_76, h⟩ := lx_s h
      refine go_iald (kd := 100) (by decide +kernel) rfl R f_61 f_68 (fx_k (c := 100) R (by decide +kernel)) (fx_x (a := 83) (ln := 30) R (by decide +kernel) g_73) fun v_71 f_72 => ?_
      have f_74 := q_is_eq f_72 e_76
      refine go_if (c := .ne) (o := 30) (t := 79) (P := ¬ (x_75 = 0)) (by decide +kernel) (by decide +kernel) f_74 (Iff.rfl) (fun hp_77 => ?_) (fun hp_77 => ?_)
      · have h := it_f hp_77 h
        refine go_iinc (n := 2) (c := 1) (c' := 1) (by decide +kernel) (by decide +kernel) l2 f2 (by decide) fun L_78 v_79 f_80 l_81 kp_82 => ?_
        obtain ⟨x_83, e_84, h⟩ := lx_s h
        have f_85 := q_is_eq f_80 e_84
        have l_86 := kp_82 0 _ l0 (by decide) (Or.inl (by decide))
        have l_87 := kp_82 1 _ l1 (by decide) (Or.inr (q_is_cat f1 (Or.inl rfl)))
        refine go_goto (o := (-52)) (t := 30) (by decide +kernel) (by decide +kernel) ?_
        exact ih m E h R l_86 f0 l_87 f1 l_81 f_85
      · have h := it_n hp_77 h
        refine go_aload_n (n := 0) (by decide +kernel) l0 f0 ?_
        refine go_aload_n (n := 0) (by decide +kernel) l0 f0 ?_
        refine go_getf (x := 232) (ci := 13) (kf := 85) (fin := 1) (t := 2) (by decide +kernel) (by decide +kernel) (by decide +kernel) R f0 (fx_k (c := 13) R (by decide +kernel)) fun v_88 f_89 => ?_
        have f_90 := q_is_eq (b := 139) f_89 (fx_v R (by decide +kernel)).symm
        refine go_iload_n (n := 2) (by decide +kernel) l2 f2 ?_
        refine go_iald (kd := 100) (by decide +kernel) rfl R f_90 f2 (fx_k (c := 100) R (by decide +kernel)) (fx_x (a := 139) (ln := 4096) R (by decide +kernel) g_67) fun v_91 f_92 => ?_
        have f_93 := q_is_eq f_92 e_70
        refine go_iconst (n := 4) (z := 4) (by decide +kernel) (by decide) fun v_94 f_95 => ?_
        refine go_aload_n (n := 0) (by decide +kernel) l0 f0 ?_
        refine go_getf (x := 235) (ci := 13) (kf := 86) (fin := 1) (t := 2) (by decide +kernel) (by decide +kernel) (by decide +kernel) R f0 (fx_k (c := 13) R (by decide +kernel)) fun v_96 f_97 => ?_
        have f_98 := q_is_eq (b := 140) f_97 (fx_v R (by decide +kernel)).symm
        refine go_iload_n (n := 2) (by decide +kernel) l2 f2 ?_
        obtain ⟨x_102, e_103, h⟩ := lx_s h
        refine go_iald (kd := 100) (by decide +kernel) rfl R f_98 f2 (fx_k (c := 100) R (by decide +kernel)) (fx_x (a := 140) (ln := 4096) R (by decide +kernel) g_67) fun v_99 f_100 => ?_
        have f_101 := q_is_eq f_100 e_103
        refine go_aload_n (n := 0) (by decide +kernel) l0 f0 ?_
        refine go_getf (x := 238) (ci := 13) (kf := 87) (fin := 1) (t := 2) (by decide +kernel) (by decide +kernel) (by decide +kernel) R f0 (fx_k (c := 13) R (by decide +kernel)) fun v_104 f_105 => ?_
        have f_106 := q_is_eq (b := 141) f_105 (fx_v R (by decide +kernel)).symm
        refine go_iload_n (n := 2) (by decide +kernel) l2 f2 ?_
        obtain ⟨x_110, e_111, h⟩ := lx_s h
        refine go_iald (kd := 100) (by decide +kernel) rfl R f_106 f2 (fx_k (c := 100) R (by decide +kernel)) (fx_x (a := 141) (ln := 4096) R (by decide +kernel) g_67) fun v_107 f_108 => ?_
        have f_109 := q_is_eq f_108 e_111
        obtain ⟨x_113, m_114, hc_112, h⟩ := bd_s h
        refine go_callV (x := 360) (mi := 210) (n := 4) (ci := 13) (as := [v_91, v_94, v_99, v_107]) (rest := []) (by decide +kernel) (by decide +kernel) rfl rfl (q_sum8 _ (Nat.le_of_ble_eq_true rfl)) R f0 (fx_k (c := 13) R (by decide +kernel)) (om_X12_puts (Nat.le_trans (by decide) hd) R f0 f_93 f_95 f_101 f_109 hc_112) (fun _ S_117 q_120 => ?_) (fun _ _ qq => kr_x qq)
        refine kr_z (by decide) q_120 fun v_115 f_116 R_118 E_119 => ?_
        have E_123 := Ext.tr E E_119
        refine go_pop (by decide +kernel) f_116 (Or.inl rfl) ?_
        refine go_iinc (n := 1) (c := 1) (c' := 1) (by decide +kernel) (by decide +kernel) l1 f1 (by decide) fun L_124 v_125 f_126 l_127 kp_128 => ?_
        obtain ⟨x_129, e_130, h⟩ := lx_s h
        have f_131 := q_is_eq f_126 e_130
        have l_132 := kp_128 0 _ l0 (by decide) (Or.inr (q_is_cat f0 (Or.inr rfl)))
        have l_133 := kp_128 2 _ l2 (by decide) (Or.inl (by decide))
        refine go_iinc (n := 2) (c := 1) (c' := 1) (by decide +kernel) (by decide +kernel) l_133 f2 (by decide) fun L_134 v_135 f_136 l_137 kp_138 => ?_
        obtain ⟨x_139, e_140, h⟩ := lx_s h
        have f_141 := q_is_eq f_136 e_140
        have l_142 := kp_138 0 _ l_132 (by decide) (Or.inl (by decide))
        have l_143 := kp_138 1 _ l_127 (by decide) (Or.inr (q_is_cat f_131 (Or.inl rfl)))
        refine go_goto (o := (-52)) (t := 30) (by decide +kernel) (by decide +kernel) ?_
        exact ih m_114 E_123 h R_118 l_142 f0 l_143 f_131 l_137 f_141
noncomputable def fj_X12_join_13 ( s0 : Int) (m : MM) : Option (Int × MM) := bd (fm_X12_fails s0 m) fun x_10 m_11 =>
if x_10 = 0 then
up m_11 68 83 0 fun m_24 =>
fl_X12_join_30   BIG 0 0 m_24
else
some (0, m_11)
set_option maxHeartbeats 4000000 in
theorem oj_X12_join_13 {xs : List Int32} {d : Nat} {S : QS} {L : QL} {Q : QO → QS → Prop} {m : MM} {s0 : Int} {v0 : Value} {w0 : Value} {w1 : Value}  {rz : Int} {rm : MM}
  (hd : 3 ≤ d) (R : Rp S m) (l0 : q_lo L 0 = some v0) (f0 : q_is 2 v0 68) (fs0 : q_is 0 w0 s0) (fs1 : q_is 2 w1 68)
  (hQ : Ext m rm → ∀ o S1, Rp S1 rm → q_out 0 o rz → Q o S1)
  (h : fj_X12_join_13 s0 m = some (rz, rm)) : Go xs d qM_X12_join 13 L [w0, w1] S Q := by
  unfold fj_X12_join_13 at h
  obtain ⟨x_10, m_11, hc_9, h⟩ := bd_s h
  refine go_callV (x := 324) (mi := 186) (n := 1) (ci := 13) (as := [w0]) (rest := []) (by decide +kernel) (by decide +kernel) rfl rfl (q_sum8 _ (Nat.le_of_ble_eq_true rfl)) R fs1 (fx_k (c := 13) R (by decide +kernel)) (om_X12_fails (Nat.le_trans (by decide) hd) R fs1 fs0 hc_9) (fun _ S_14 q_17 => ?_) (fun _ _ qq => kr_x qq)
  refine kr_z (by decide) q_17 fun v_12 f_13 R_15 E_16 => ?_
  have E_20 := E_16
  refine go_if (c := .eq) (o := 5) (t := 21) (P := x_10 = 0) (by decide +kernel) (by decide +kernel) f_13 (Iff.rfl) (fun hp_21 => ?_) (fun hp_21 => ?_)
  · have h := it_t hp_21 h
    refine go_aload_n (n := 0) (by decide +kernel) l0 f0 ?_
    refine go_iconst (n := 0) (z := 0) (by decide +kernel) (by decide) fun v_22 f_23 => ?_
    obtain ⟨m_24, e_25, h⟩ := up_s h
    refine go_putf (x := 685) (ci := 13) (kf := 83) (fin := 0) (zt := 1) (by decide +kernel) (by decide +kernel) (by decide) (by decide +kernel) (by decide) (Or.inl rfl) R_15 f0 f_23 (fun _ => by decide) (fx_k (c := 13) R_15 (by decide +kernel)) e_25 (fx_f (j := 83) R_15.2 (fx_k (c := 13) R_15 (by decide +kernel)) (by decide +kernel)) fun S_26 R_27 E_28 => ?_
    have E_30 := Ext.tr E_20 E_28
    refine go_iconst (n := 0) (z := 0) (by decide +kernel) (by decide) fun v_31 f_32 => ?_
    refine go_istore_n (n := 1) (by decide +kernel) (by decide +kernel) f_32 fun L_33 l_34 kp_35 => ?_
    have l_36 := kp_35 0 _ l0 (by decide) (Or.inr (q_is_cat f0 (Or.inr rfl)))
    refine go_iconst (n := 0) (z := 0) (by decide +kernel) (by decide) fun v_37 f_38 => ?_
    refine go_istore_n (n := 2) (by decide +kernel) (by decide +kernel) f_38 fun L_39 l_40 kp_41 => ?_
    have l_42 := kp_41 0 _ l_36 (by decide) (Or.inl (by decide))
    have l_43 := kp_41 1 _ l_34 (by decide) (Or.inr (q_is_cat f_32 (Or.inl rfl)))
    refine ol_X12_join_30 hd   (fun b => hQ (Ext.tr E_30 b)) BIG (Ext.rf _) h R_27 l_42 f0 l_43 f_32 l_40 f_38
  · have h := it_f hp_21 h
    refine go_iconst (n := 0) (z := 0) (by decide +kernel) (by decide) fun v_144 f_145 => ?_
    cases h
    exact go_iret (by decide +kernel) rfl (Or.inl rfl) f_145 (hQ E_20 _ _ R_15 (q_out_v (by decide) f_145))
noncomputable def fm_X12_join (m0 : MM) : Option (Int × MM) := lx (m0 68 83) fun x_4 =>
if x_4 = 0 then
fj_X12_join_13 1 m0
else
fj_X12_join_13 0 m0
set_option maxHeartbeats 4000000 in
theorem om_X12_join {xs : List Int32} {d : Nat} {S : QS} {m0 : MM} {v0 : Value} {rz : Int} {rm : MM}
  (hd : 4 ≤ d) (R : Rp S m0) (f0 : q_is 2 v0 68)
  (h : fm_X12_join m0 = some (rz, rm)) : Mt xs d 305 [v0] S (Cr 0 m0 rm rz) := by
  obtain ⟨d, rfl⟩ : ∃ e, d = e + 1 := ⟨d - 1, by omega⟩
  have hd : 3 ≤ d := Nat.le_of_succ_le_succ hd
  refine Mt.of (M := qM_X12_join) rfl (by rw [sl_1 (q_is_cat f0 (Or.inr rfl)), sl_0]; decide) ?_
  rw [la_1 (q_is_cat f0 (Or.inr rfl)), la_0]
  obtain ⟨L, hL⟩ : ∃ L : QL, L = [(0, v0)] := ⟨_, rfl⟩
  rw [← hL]
  have l0 : q_lo L 0 = some v0 := by rw [hL]; rfl
  have hQ : Ext m0 rm → ∀ o S1, Rp S1 rm → q_out 0 o rz → (Cr 0 m0 rm rz) o S1 := fun a o S1 b e => ⟨b, a, e⟩
  unfold fm_X12_join at h
  refine go_aload_n (n := 0) (by decide +kernel) l0 f0 ?_
  refine go_aload_n (n := 0) (by decide +kernel) l0 f0 ?_
  obtain ⟨x_4, e_5, h⟩ := lx_s h
  refine go_getf (x := 685) (ci := 13) (kf := 83) (fin := 0) (t := 0) (by decide +kernel) (by decide +kernel) (by decide +kernel) R f0 (fx_k (c := 13) R (by decide +kernel)) fun v_1 f_2 => ?_
  have f_3 := q_is_eq f_2 e_5
  refine go_if (c := .eq) (o := 7) (t := 12) (P := x_4 = 0) (by decide +kernel) (by decide +kernel) f_3 (Iff.rfl) (fun hp_6 => ?_) (fun hp_6 => ?_)
  · have h := it_t hp_6 h
    refine go_iconst (n := 1) (z := 1) (by decide +kernel) (by decide) fun v_7 f_8 => ?_
    exact oj_X12_join_13 hd R l0 f0 f_8 f0 hQ h
  · have h := it_f hp_6 h
    refine go_iconst (n := 0) (z := 0) (by decide +kernel) (by decide) fun v_146 f_147 => ?_
    refine go_goto (o := 4) (t := 13) (by decide +kernel) (by decide +kernel) ?_
    exact oj_X12_join_13 hd R l0 f0 f_147 f0 hQ h
noncomputable def fm_X12_isSchedule (p1 : Int) (m0 : MM) : Option Int := lx (m0 68 69) fun x_6 =>
bp (fm_X12_isIn p1 0 (w32 (x_6 - 1)) m0) fun x_13 =>
gd (x_13 = 0 ∨ x_13 = 1) <| some x_13
set_option maxHeartbeats 4000000 in
theorem om_X12_isSchedule {xs : List Int32} {d : Nat} {S : QS} {m0 : MM} {p1 : Int} {v0 : Value} {v1 : Value} {rz : Int}
  (hd : 2 ≤ d) (R : Rp S m0) (f0 : q_is 2 v0 68) (f1 : q_is 0 v1 p1)
  (h : fm_X12_isSchedule p1 m0 = some rz) : Mt xs d 306 [v0, v1] S (Cr 0 m0 m0 rz) := by
  obtain ⟨d, rfl⟩ : ∃ e, d = e + 1 := ⟨d - 1, by omega⟩
  have hd : 1 ≤ d := Nat.le_of_succ_le_succ hd
  refine Mt.of (M := qM_X12_isSchedule) rfl (by rw [sl_1 (q_is_cat f0 (Or.inr rfl)), sl_1 (q_is_cat f1 (Or.inl rfl)), sl_0]; decide) ?_
  rw [la_1 (q_is_cat f0 (Or.inr rfl)), la_1 (q_is_cat f1 (Or.inl rfl)), la_0]
  obtain ⟨L, hL⟩ : ∃ L : QL, L = [(0, v0), (0 + 1, v1)] := ⟨_, rfl⟩
  rw [← hL]
  have l0 : q_lo L 0 = some v0 := by rw [hL]; rfl
  have l1 : q_lo L 1 = some v1 := by rw [hL]; rfl
  have hQ : ∀ o S1, Rp S1 m0 → q_out 0 o rz → (Cr 0 m0 m0 rz) o S1 := fun o S1 a b => ⟨a, Ext.rf _, b⟩
  unfold fm_X12_isSchedule at h
  refine go_iload_n (n := 1) (by decide +kernel) l1 f1 ?_
  refine go_iconst (n := 0) (z := 0) (by decide +kernel) (by decide) fun v_1 f_2 => ?_
  refine go_aload_n (n := 0) (by decide +kernel) l0 f0 ?_
  obtain ⟨x_6, e_7, h⟩ := lx_s h
  refine go_getf (x := 655) (ci := 13) (kf := 69) (fin := 0) (t := 0) (by decide +kernel) (by decide +kernel) (by decide +kernel) R f0 (fx_k (c := 13) R (by decide +kernel)) fun v_3 f_4 => ?_
  have f_5 := q_is_eq f_4 e_7
  refine go_iconst (n := 1) (z := 1) (by decide +kernel) (by decide) fun v_8 f_9 => ?_
  refine go_isub (by decide +kernel) f_5 f_9 fun v_10 f_11 => ?_
  obtain ⟨x_13, hc_12, h⟩ := bp_s h
  refine go_callS (x := 306) (mi := 188) (n := 3) (b := 0) (as := [v1, v_1, v_10]) (rest := []) (by decide +kernel) (by decide +kernel) rfl rfl (q_sum8 _ (Nat.le_of_ble_eq_true rfl)) (om_X12_isIn (Nat.le_trans (by decide) hd) R f1 f_2 f_11 hc_12) (fun _ S_17 q_20 => ?_) (fun _ _ qq => kr_x qq)
  refine kr_z (by decide) q_20 fun v_15 f_16 R_18 E_19 => ?_
  obtain ⟨g_21, h⟩ := gd_s h
  cases h
  exact go_iret (by decide +kernel) rfl (Or.inr ⟨rfl, g_21⟩) f_16 (hQ _ _ R_18 (q_out_v (by decide) f_16))
noncomputable def fj_X12_schedule_89 (y1 y2 y3 y4 s0 : Int) (m : MM) : Option (Int × MM) := bd (fm_X12_fails s0 m) fun x_61 m_62 =>
if x_61 = 0 then
lx (m_62 68 69) fun x_79 =>
gd (0 ≤ x_79 ∧ x_79 < 4) <| up m_62 128 x_79 y1 fun m_82 =>
lx (m_82 68 69) fun x_95 =>
gd (0 ≤ x_95 ∧ x_95 < 4) <| up m_82 129 x_95 y2 fun m_98 =>
lx (m_98 68 69) fun x_111 =>
gd (0 ≤ x_111 ∧ x_111 < 4) <| up m_98 130 x_111 y3 fun m_114 =>
lx (m_114 68 69) fun x_127 =>
gd (0 ≤ x_127 ∧ x_127 < 4) <| up m_114 131 x_127 y4 fun m_130 =>
lx (m_130 68 69) fun x_143 =>
lx (m_130 68 0) fun x_148 =>
lx (m_130 68 68) fun x_153 =>
gd (0 ≤ x_143 ∧ x_143 < 4) <| up m_130 132 x_143 (w32 (x_148 + x_153)) fun m_158 =>
lx (m_158 68 69) fun x_168 =>
up m_158 68 69 (w32 (x_168 + 1)) fun m_174 =>
lx (m_174 68 69) fun x_184 =>
some (w32 (x_184 - 1), m_174)
else
some (0, m_62)
set_option maxHeartbeats 4000000 in
theorem oj_X12_schedule_89 {xs : List Int32} {d : Nat} {S : QS} {L : QL} {Q : QO → QS → Prop} {m : MM} {y1 y2 y3 y4 s0 : Int} {v0 : Value} {v1 : Value} {v2 : Value} {v3 : Value} {v4 : Value} {w0 : Value} {w1 : Value}  {rz : Int} {rm : MM}
  (hd : 2 ≤ d) (R : Rp S m) (l0 : q_lo L 0 = some v0) (f0 : q_is 2 v0 68) (l1 : q_lo L 1 = some v1) (f1 : q_is 0 v1 y1) (l2 : q_lo L 2 = some v2) (f2 : q_is 0 v2 y2) (l3 : q_lo L 3 = some v3) (f3 : q_is 0 v3 y3) (l4 : q_lo L 4 = some v4) (f4 : q_is 0 v4 y4) (fs0 : q_is 0 w0 s0) (fs1 : q_is 2 w1 68)
  (hQ : Ext m rm → ∀ o S1, Rp S1 rm → q_out 0 o rz → Q o S1)
  (h : fj_X12_schedule_89 y1 y2 y3 y4 s0 m = some (rz, rm)) : Go xs d qM_X12_schedule 89 L [w0, w1] S Q := by
  unfold fj_X12_schedule_89 at h
  obtain ⟨x_61, m_62, hc_60, h⟩ := bd_s h
  refine go_callV (x := 324) (mi := 186) (n := 1) (ci := 13) (as := [w0]) (rest := []) (by decide +kernel) (by decide +kernel) rfl rfl (q_sum8 _ (Nat.le_of_ble_eq_true rfl)) R fs1 (fx_k (c := 13) R (by decide +kernel)) (om_X12_fails (Nat.le_trans (by decide) hd) R fs1 fs0 hc_60) (fun _ S_65 q_68 => ?_) (fun _ _ qq => kr_x qq)
  refine kr_z (by decide) q_68 fun v_63 f_64 R_66 E_67 => ?_
  have E_71 := E_67
  refine go_if (c := .eq) (o := 5) (t := 97) (P := x_61 = 0) (by decide +kernel) (by decide +kernel) f_64 (Iff.rfl) (fun hp_72 => ?_) (fun hp_72 => ?_)
  · have h := it_t hp_72 h
    refine go_aload_n (n := 0) (by decide +kernel) l0 f0 ?_
    refine go_getf (x := 198) (ci := 13) (kf := 70) (fin := 1) (t := 2) (by decide +kernel) (by decide +kernel) (by decide +kernel) R_66 f0 (fx_k (c := 13) R_66 (by decide +kernel)) fun v_73 f_74 => ?_
    have f_75 := q_is_eq (b := 128) f_74 (fx_v R_66 (by decide +kernel)).symm
    refine go_aload_n (n := 0) (by decide +kernel) l0 f0 ?_
    obtain ⟨x_79, e_80, h⟩ := lx_s h
    refine go_getf (x := 655) (ci := 13) (kf := 69) (fin := 0) (t := 0) (by decide +kernel) (by decide +kernel) (by decide +kernel) R_66 f0 (fx_k (c := 13) R_66 (by decide +kernel)) fun v_76 f_77 => ?_
    have f_78 := q_is_eq f_77 e_80
    refine go_iload_n (n := 1) (by decide +kernel) l1 f1 ?_
    obtain ⟨g_81, h⟩ := gd_s h
    obtain ⟨m_82, e_83, h⟩ := up_s h
    refine go_iast (kd := 100) (by decide +kernel) rfl R_66 f_75 f_78 f1 (fx_k (c := 100) R_66 (by decide +kernel)) (fx_x (a := 128) (ln := 4) R_66 (by decide +kernel) g_81) e_83 (fx_a R_66.2 (fx_k (c := 100) R_66 (by decide +kernel)) (And.left (fx_x (a := 128) (ln := 4) R_66 (by decide +kernel) g_81)) (by decide +kernel)) fun S_84 R_85 E_86 => ?_
    have E_88 := Ext.tr E_71 E_86
    refine go_aload_n (n := 0) (by decide +kernel) l0 f0 ?_
    refine go_getf (x := 201) (ci := 13) (kf := 71) (fin := 1) (t := 2) (by decide +kernel) (by decide +kernel) (by decide +kernel) R_85 f0 (fx_k (c := 13) R_85 (by decide +kernel)) fun v_89 f_90 => ?_
    have f_91 := q_is_eq (b := 129) f_90 (fx_v R_85 (by decide +kernel)).symm
    refine go_aload_n (n := 0) (by decide +kernel) l0 f0 ?_
    obtain ⟨x_95, e_96, h⟩ := lx_s h
    refine go_getf (x := 655) (ci := 13) (kf := 69) (fin := 0) (t := 0) (by decide +kernel) (by decide +kernel) (by decide +kernel) R_85 f0 (fx_k (c := 13) R_85 (by decide +kernel)) fun v_92 f_93 => ?_
    have f_94 := q_is_eq f_93 e_96
    refine go_iload_n (n := 2) (by decide +kernel) l2 f2 ?_
    obtain ⟨g_97, h⟩ := gd_s h
    obtain ⟨m_98, e_99, h⟩ := up_s h
    refine go_iast (kd := 100) (by decide +kernel) rfl R_85 f_91 f_94 f2 (fx_k (c := 100) R_85 (by decide +kernel)) (fx_x (a := 129) (ln := 4) R_85 (by decide +kernel) g_97) e_99 (fx_a R_85.2 (fx_k (c := 100) R_85 (by decide +kernel)) (And.left (fx_x (a := 129) (ln := 4) R_85 (by decide +kernel) g_97)) (by decide +kernel)) fun S_100 R_101 E_102 => ?_
    have E_104 := Ext.tr E_88 E_102
    refine go_aload_n (n := 0) (by decide +kernel) l0 f0 ?_
    refine go_getf (x := 204) (ci := 13) (kf := 72) (fin := 1) (t := 2) (by decide +kernel) (by decide +kernel) (by decide +kernel) R_101 f0 (fx_k (c := 13) R_101 (by decide +kernel)) fun v_105 f_106 => ?_
    have f_107 := q_is_eq (b := 130) f_106 (fx_v R_101 (by decide +kernel)).symm
    refine go_aload_n (n := 0) (by decide +kernel) l0 f0 ?_
    obtain ⟨x_111, e_112, h⟩ := lx_s h
    refine go_getf (x := 655) (ci := 13) (kf := 69) (fin := 0) (t := 0) (by decide +kernel) (by decide +kernel) (by decide +kernel) R_101 f0 (fx_k (c := 13) R_101 (by decide +kernel)) fun v_108 f_109 => ?_
    have f_110 := q_is_eq f_109 e_112
    refine go_iload_n (n := 3) (by decide +kernel) l3 f3 ?_
    obtain ⟨g_113, h⟩ := gd_s h
    obtain ⟨m_114, e_115, h⟩ := up_s h
    refine go_iast (kd := 100) (by decide +kernel) rfl R_101 f_107 f_110 f3 (fx_k (c := 100) R_101 (by decide +kernel)) (fx_x (a := 130) (ln := 4) R_101 (by decide +kernel) g_113) e_115 (fx_a R_101.2 (fx_k (c := 100) R_101 (by decide +kernel)) (And.left (fx_x (a := 130) (ln := 4) R_101 (by decide +kernel) g_113)) (by decide +kernel)) fun S_116 R_117 E_118 => ?_
    have E_120 := Ext.tr E_104 E_118
    refine go_aload_n (n := 0) (by decide +kernel) l0 f0 ?_
    refine go_getf (x := 207) (ci := 13) (kf := 73) (fin := 1) (t := 2) (by decide +kernel) (by decide +kernel) (by decide +kernel) R_117 f0 (fx_k (c := 13) R_117 (by decide +kernel)) fun v_121 f_122 => ?_
    have f_123 := q_is_eq (b := 131) f_122 (fx_v R_117 (by decide +kernel)).symm
    refine go_aload_n (n := 0) (by decide +kernel) l0 f0 ?_
    obtain ⟨x_127, e_128, h⟩ := lx_s h
    refine go_getf (x := 655) (ci := 13) (kf := 69) (fin := 0) (t := 0) (by decide +kernel) (by decide +kernel) (by decide +kernel) R_117 f0 (fx_k (c := 13) R_117 (by decide +kernel)) fun v_124 f_125 => ?_
    have f_126 := q_is_eq f_125 e_128
    refine go_iload (n := 4) (by decide +kernel) l4 f4 ?_
    obtain ⟨g_129, h⟩ := gd_s h
    obtain ⟨m_130, e_131, h⟩ := up_s h
    refine go_iast (kd := 100) (by decide +kernel) rfl R_117 f_123 f_126 f4 (fx_k (c := 100) R_117 (by decide +kernel)) (fx_x (a := 131) (ln := 4) R_117 (by decide +kernel) g_129) e_131 (fx_a R_117.2 (fx_k (c := 100) R_117 (by decide +kernel)) (And.left (fx_x (a := 131) (ln := 4) R_117 (by decide +kernel) g_129)) (by decide +kernel)) fun S_132 R_133 E_134 => ?_
    have E_136 := Ext.tr E_120 E_134
    refine go_aload_n (n := 0) (by decide +kernel) l0 f0 ?_
    refine go_getf (x := 210) (ci := 13) (kf := 74) (fin := 1) (t := 2) (by decide +kernel) (by decide +kernel) (by decide +kernel) R_133 f0 (fx_k (c := 13) R_133 (by decide +kernel)) fun v_137 f_138 => ?_
    have f_139 := q_is_eq (b := 132) f_138 (fx_v R_133 (by decide +kernel)).symm
    refine go_aload_n (n := 0) (by decide +kernel) l0 f0 ?_
    obtain ⟨x_143, e_144, h⟩ := lx_s h
    refine go_getf (x := 655) (ci := 13) (kf := 69) (fin := 0) (t := 0) (by decide +kernel) (by decide +kernel) (by decide +kernel) R_133 f0 (fx_k (c := 13) R_133 (by decide +kernel)) fun v_140 f_141 => ?_
    have f_142 := q_is_eq f_141 e_144
    refine go_aload_n (n := 0) (by decide +kernel) l0 f0 ?_
    obtain ⟨x_148, e_149, h⟩ := lx_s h
    refine go_getf (x := 357) (ci := 13) (kf := 0) (fin := 0) (t := 0) (by decide +kernel) (by decide +kernel) (by decide +kernel) R_133 f0 (fx_k (c := 13) R_133 (by decide +kernel)) fun v_145 f_146 => ?_
    have f_147 := q_is_eq f_146 e_149
    refine go_aload_n (n := 0) (by decide +kernel) l0 f0 ?_
    obtain ⟨x_153, e_154, h⟩ := lx_s h
    refine go_getf (x := 691) (ci := 13) (kf := 68) (fin := 0) (t := 0) (by decide +kernel) (by decide +kernel) (by decide +kernel) R_133 f0 (fx_k (c := 13) R_133 (by decide +kernel)) fun v_150 f_151 => ?_
    have f_152 := q_is_eq f_151 e_154
    refine go_iadd (by decide +kernel) f_147 f_152 fun v_155 f_156 => ?_
    obtain ⟨g_157, h⟩ := gd_s h
    obtain ⟨m_158, e_159, h⟩ := up_s h
    refine go_iast (kd := 100) (by decide +kernel) rfl R_133 f_139 f_142 f_156 (fx_k (c := 100) R_133 (by decide +kernel)) (fx_x (a := 132) (ln := 4) R_133 (by decide +kernel) g_157) e_159 (fx_a R_133.2 (fx_k (c := 100) R_133 (by decide +kernel)) (And.left (fx_x (a := 132) (ln := 4) R_133 (by decide +kernel) g_157)) (by decide +kernel)) fun S_160 R_161 E_162 => ?_
    have E_164 := Ext.tr E_136 E_162
    refine go_aload_n (n := 0) (by decide +kernel) l0 f0 ?_
    refine go_dup (by decide +kernel) f0 (Or.inr rfl) ?_
    obtain ⟨x_168, e_169, h⟩ := lx_s h
    refine go_getf (x := 655) (ci := 13) (kf := 69) (fin := 0) (t := 0) (by decide +kernel) (by decide +kernel) (by decide +kernel) R_161 f0 (fx_k (c := 13) R_161 (by decide +kernel)) fun v_165 f_166 => ?_
    have f_167 := q_is_eq f_166 e_169
    refine go_iconst (n := 1) (z := 1) (by decide +kernel) (by decide) fun v_170 f_171 => ?_
    refine go_iadd (by decide +kernel) f_167 f_171 fun v_172 f_173 => ?_
    obtain ⟨m_174, e_175, h⟩ := up_s h
    refine go_putf (x := 655) (ci := 13) (kf := 69) (fin := 0) (zt := 0) (by decide +kernel) (by decide +kernel) (by decide) (by decide +kernel) (by decide) (Or.inl rfl) R_161 f0 f_173 (fun hq => absurd hq (by decide)) (fx_k (c := 13) R_161 (by decide +kernel)) e_175 (fx_f (j := 69) R_161.2 (fx_k (c := 13) R_161 (by decide +kernel)) (by decide +kernel)) fun S_176 R_177 E_178 => ?_
    have E_180 := Ext.tr E_164 E_178
    refine go_aload_n (n := 0) (by decide +kernel) l0 f0 ?_
    obtain ⟨x_184, e_185, h⟩ := lx_s h
    refine go_getf (x := 655) (ci := 13) (kf := 69) (fin := 0) (t := 0) (by decide +kernel) (by decide +kernel) (by decide +kernel) R_177 f0 (fx_k (c := 13) R_177 (by decide +kernel)) fun v_181 f_182 => ?_
    have f_183 := q_is_eq f_182 e_185
    refine go_iconst (n := 1) (z := 1) (by decide +kernel) (by decide) fun v_186 f_187 => ?_
    refine go_isub (by decide +kernel) f_183 f_187 fun v_188 f_189 => ?_
    cases h
    exact go_iret (by decide +kernel) rfl (Or.inl rfl) f_189 (hQ E_180 _ _ R_177 (q_out_v (by decide) f_189))
  · have h := it_f hp_72 h
    refine go_iconst (n := 0) (z := 0) (by decide +kernel) (by decide) fun v_190 f_191 => ?_
    cases h
    exact go_iret (by decide +kernel) rfl (Or.inl rfl) f_191 (hQ E_71 _ _ R_66 (q_out_v (by decide) f_191))
noncomputable def fj_X12_schedule_46 (y1 y2 y3 y4 y5 s0 : Int) (m : MM) : Option (Int × MM) := if y5 = 0 then
fj_X12_schedule_89 y1 y2 y3 y4 1 m
else
if s0 = 0 then
fj_X12_schedule_89 y1 y2 y3 y4 2 m
else
gd (0 ≤ y1 ∧ y1 < 4) <| lx (m 69 y1) fun x_55 =>
if x_55 = 0 then
fj_X12_schedule_89 y1 y2 y3 y4 3 m
else
lx (m 68 69) fun x_195 =>
if x_195 = 4 then
fj_X12_schedule_89 y1 y2 y3 y4 3 m
else
fj_X12_schedule_89 y1 y2 y3 y4 0 m
set_option maxHeartbeats 4000000 in
theorem oj_X12_schedule_46 {xs : List Int32} {d : Nat} {S : QS} {L : QL} {Q : QO → QS → Prop} {m : MM} {y1 y2 y3 y4 y5 s0 : Int} {v0 : Value} {v1 : Value} {v2 : Value} {v3 : Value} {v4 : Value} {v5 : Value} {w0 : Value}  {rz : Int} {rm : MM}
  (hd : 2 ≤ d) (R : Rp S m) (l0 : q_lo L 0 = some v0) (f0 : q_is 2 v0 68) (l1 : q_lo L 1 = some v1) (f1 : q_is 0 v1 y1) (l2 : q_lo L 2 = some v2) (f2 : q_is 0 v2 y2) (l3 : q_lo L 3 = some v3) (f3 : q_is 0 v3 y3) (l4 : q_lo L 4 = some v4) (f4 : q_is 0 v4 y4) (l5 : q_lo L 5 = some v5) (f5 : q_is 0 v5 y5) (fs0 : q_is 0 w0 s0)
  (hQ : Ext m rm → ∀ o S1, Rp S1 rm → q_out 0 o rz → Q o S1)
  (h : fj_X12_schedule_46 y1 y2 y3 y4 y5 s0 m = some (rz, rm)) : Go xs d qM_X12_schedule 46 L [w0] S Q := by
  unfold fj_X12_schedule_46 at h
  refine go_istore (n := 6) (by decide +kernel) (by decide +kernel) fs0 fun L_37 l_38 kp_39 => ?_
  have l_40 := kp_39 0 _ l0 (by decide) (Or.inl (by decide))
  have l_41 := kp_39 1 _ l1 (by decide) (Or.inl (by decide))
  have l_42 := kp_39 2 _ l2 (by decide) (Or.inl (by decide))
  have l_43 := kp_39 3 _ l3 (by decide) (Or.inl (by decide))
  have l_44 := kp_39 4 _ l4 (by decide) (Or.inl (by decide))
  have l_45 := kp_39 5 _ l5 (by decide) (Or.inr (q_is_cat f5 (Or.inl rfl)))
  refine go_aload_n (n := 0) (by decide +kernel) l_40 f0 ?_
  refine go_iload (n := 5) (by decide +kernel) l_45 f5 ?_
  refine go_if (c := .ne) (o := 7) (t := 58) (P := ¬ (y5 = 0)) (by decide +kernel) (by decide +kernel) f5 (Iff.rfl) (fun hp_46 => ?_) (fun hp_46 => ?_)
  · have h := it_f hp_46 h
    refine go_iload (n := 6) (by decide +kernel) l_38 fs0 ?_
    refine go_if (c := .ne) (o := 7) (t := 67) (P := ¬ (s0 = 0)) (by decide +kernel) (by decide +kernel) fs0 (Iff.rfl) (fun hp_47 => ?_) (fun hp_47 => ?_)
    · have h := it_f hp_47 h
      refine go_aload_n (n := 0) (by decide +kernel) l_40 f0 ?_
      refine go_getf (x := 7) (ci := 13) (kf := 1) (fin := 1) (t := 2) (by decide +kernel) (by decide +kernel) (by decide +kernel) R f0 (fx_k (c := 13) R (by decide +kernel)) fun v_48 f_49 => ?_
      have f_50 := q_is_eq (b := 69) f_49 (fx_v R (by decide +kernel)).symm
      refine go_iload_n (n := 1) (by decide +kernel) l_41 f1 ?_
      obtain ⟨g_53, h⟩ := gd_s h
      obtain ⟨x_55, e_56, h⟩ := lx_s h
      refine go_iald (kd := 100) (by decide +kernel) rfl R f_50 f1 (fx_k (c := 100) R (by decide +kernel)) (fx_x (a := 69) (ln := 4) R (by decide +kernel) g_53) fun v_51 f_52 => ?_
      have f_54 := q_is_eq f_52 e_56
      refine go_if (c := .eq) (o := 11) (t := 84) (P := x_55 = 0) (by decide +kernel) (by decide +kernel) f_54 (Iff.rfl) (fun hp_57 => ?_) (fun hp_57 => ?_)
      · have h := it_t hp_57 h
        refine go_iconst (n := 3) (z := 3) (by decide +kernel) (by decide) fun v_58 f_59 => ?_
        refine go_goto (o := 4) (t := 89) (by decide +kernel) (by decide +kernel) ?_
        exact oj_X12_schedule_89 hd R l_40 f0 l_41 f1 l_42 f2 l_43 f3 l_44 f4 f_59 f0 hQ h
      · have h := it_f hp_57 h
        refine go_aload_n (n := 0) (by decide +kernel) l_40 f0 ?_
        obtain ⟨x_195, e_196, h⟩ := lx_s h
        refine go_getf (x := 655) (ci := 13) (kf := 69) (fin := 0) (t := 0) (by decide +kernel) (by decide +kernel) (by decide +kernel) R f0 (fx_k (c := 13) R (by decide +kernel)) fun v_192 f_193 => ?_
        have f_194 := q_is_eq f_193 e_196
        refine go_iconst (n := 4) (z := 4) (by decide +kernel) (by decide) fun v_197 f_198 => ?_
        refine go_icmp (c := .ne) (o := 7) (t := 88) (P := ¬ (x_195 = 4)) (by decide +kernel) (by decide +kernel) f_194 f_198 (Iff.rfl) (fun hp_199 => ?_) (fun hp_199 => ?_)
        · have h := it_f hp_199 h
          refine go_iconst (n := 0) (z := 0) (by decide +kernel) (by decide) fun v_200 f_201 => ?_
          exact oj_X12_schedule_89 hd R l_40 f0 l_41 f1 l_42 f2 l_43 f3 l_44 f4 f_201 f0 hQ h
        · have h := it_n hp_199 h
          refine go_iconst (n := 3) (z := 3) (by decide +kernel) (by decide) fun v_202 f_203 => ?_
          refine go_goto (o := 4) (t := 89) (by decide +kernel) (by decide +kernel) ?_
          exact oj_X12_schedule_89 hd R l_40 f0 l_41 f1 l_42 f2 l_43 f3 l_44 f4 f_203 f0 hQ h
    · have h := it_n hp_47 h
      refine go_iconst (n := 2) (z := 2) (by decide +kernel) (by decide) fun v_204 f_205 => ?_
      refine go_goto (o := 25) (t := 89) (by decide +kernel) (by decide +kernel) ?_
      exact oj_X12_schedule_89 hd R l_40 f0 l_41 f1 l_42 f2 l_43 f3 l_44 f4 f_205 f0 hQ h
  · have h := it_n hp_46 h
    refine go_iconst (n := 1) (z := 1) (by decide +kernel) (by decide) fun v_206 f_207 => ?_
    refine go_goto (o := 34) (t := 89) (by decide +kernel) (by decide +kernel) ?_
    exact oj_X12_schedule_89 hd R l_40 f0 l_41 f1 l_42 f2 l_43 f3 l_44 f4 f_207 f0 hQ h
noncomputable def fj_X12_schedule_19 (y1 y2 y3 y4 s0 : Int) (m : MM) : Option (Int × MM) := bp (fm_X12_isIn y3 1 50 m) fun x_26 =>
if x_26 = 0 then
fj_X12_schedule_46 y1 y2 y3 y4 s0 0 m
else
bp (fm_X12_isIn y4 0 3 m) fun x_213 =>
if x_213 = 0 then
fj_X12_schedule_46 y1 y2 y3 y4 s0 0 m
else
fj_X12_schedule_46 y1 y2 y3 y4 s0 1 m
set_option maxHeartbeats 4000000 in
theorem oj_X12_schedule_19 {xs : List Int32} {d : Nat} {S : QS} {L : QL} {Q : QO → QS → Prop} {m : MM} {y1 y2 y3 y4 s0 : Int} {v0 : Value} {v1 : Value} {v2 : Value} {v3 : Value} {v4 : Value} {w0 : Value}  {rz : Int} {rm : MM}
  (hd : 2 ≤ d) (R : Rp S m) (l0 : q_lo L 0 = some v0) (f0 : q_is 2 v0 68) (l1 : q_lo L 1 = some v1) (f1 : q_is 0 v1 y1) (l2 : q_lo L 2 = some v2) (f2 : q_is 0 v2 y2) (l3 : q_lo L 3 = some v3) (f3 : q_is 0 v3 y3) (l4 : q_lo L 4 = some v4) (f4 : q_is 0 v4 y4) (fs0 : q_is 0 w0 s0)
  (hQ : Ext m rm → ∀ o S1, Rp S1 rm → q_out 0 o rz → Q o S1)
  (h : fj_X12_schedule_19 y1 y2 y3 y4 s0 m = some (rz, rm)) : Go xs d qM_X12_schedule 19 L [w0] S Q := by
  unfold fj_X12_schedule_19 at h
  refine go_istore (n := 5) (by decide +kernel) (by decide +kernel) fs0 fun L_13 l_14 kp_15 => ?_
  have l_16 := kp_15 0 _ l0 (by decide) (Or.inl (by decide))
  have l_17 := kp_15 1 _ l1 (by decide) (Or.inl (by decide))
  have l_18 := kp_15 2 _ l2 (by decide) (Or.inl (by decide))
  have l_19 := kp_15 3 _ l3 (by decide) (Or.inl (by decide))
  have l_20 := kp_15 4 _ l4 (by decide) (Or.inr (q_is_cat f4 (Or.inl rfl)))
  refine go_iload_n (n := 3) (by decide +kernel) l_19 f3 ?_
  refine go_iconst (n := 1) (z := 1) (by decide +kernel) (by decide) fun v_21 f_22 => ?_
  refine go_bipush (n := 50) (z := 50) (by decide +kernel) (by decide) fun v_23 f_24 => ?_
  obtain ⟨x_26, hc_25, h⟩ := bp_s h
  refine go_callS (x := 306) (mi := 188) (n := 3) (b := 0) (as := [v3, v_21, v_23]) (rest := []) (by decide +kernel) (by decide +kernel) rfl rfl (q_sum8 _ (Nat.le_of_ble_eq_true rfl)) (om_X12_isIn (Nat.le_trans (by decide) hd) R f3 f_22 f_24 hc_25) (fun _ S_30 q_33 => ?_) (fun _ _ qq => kr_x qq)
  refine kr_z (by decide) q_33 fun v_28 f_29 R_31 E_32 => ?_
  refine go_if (c := .eq) (o := 17) (t := 45) (P := x_26 = 0) (by decide +kernel) (by decide +kernel) f_29 (Iff.rfl) (fun hp_34 => ?_) (fun hp_34 => ?_)
  · have h := it_t hp_34 h
    refine go_iconst (n := 0) (z := 0) (by decide +kernel) (by decide) fun v_35 f_36 => ?_
    exact oj_X12_schedule_46 hd R_31 l_16 f0 l_17 f1 l_18 f2 l_19 f3 l_20 f4 l_14 fs0 f_36 hQ h
  · have h := it_f hp_34 h
    refine go_iload (n := 4) (by decide +kernel) l_20 f4 ?_
    refine go_iconst (n := 0) (z := 0) (by decide +kernel) (by decide) fun v_208 f_209 => ?_
    refine go_iconst (n := 3) (z := 3) (by decide +kernel) (by decide) fun v_210 f_211 => ?_
    obtain ⟨x_213, hc_212, h⟩ := bp_s h
    refine go_callS (x := 306) (mi := 188) (n := 3) (b := 0) (as := [v4, v_208, v_210]) (rest := []) (by decide +kernel) (by decide +kernel) rfl rfl (q_sum8 _ (Nat.le_of_ble_eq_true rfl)) (om_X12_isIn (Nat.le_trans (by decide) hd) R_31 f4 f_209 f_211 hc_212) (fun _ S_217 q_220 => ?_) (fun _ _ qq => kr_x qq)
    refine kr_z (by decide) q_220 fun v_215 f_216 R_218 E_219 => ?_
    refine go_if (c := .eq) (o := 7) (t := 45) (P := x_213 = 0) (by decide +kernel) (by decide +kernel) f_216 (Iff.rfl) (fun hp_221 => ?_) (fun hp_221 => ?_)
    · have h := it_t hp_221 h
      refine go_iconst (n := 0) (z := 0) (by decide +kernel) (by decide) fun v_222 f_223 => ?_
      exact oj_X12_schedule_46 hd R_218 l_16 f0 l_17 f1 l_18 f2 l_19 f3 l_20 f4 l_14 fs0 f_223 hQ h
    · have h := it_f hp_221 h
      refine go_iconst (n := 1) (z := 1) (by decide +kernel) (by decide) fun v_224 f_225 => ?_
      refine go_goto (o := 4) (t := 46) (by decide +kernel) (by decide +kernel) ?_
      exact oj_X12_schedule_46 hd R_218 l_16 f0 l_17 f1 l_18 f2 l_19 f3 l_20 f4 l_14 fs0 f_225 hQ h
noncomputable def fm_X12_schedule (p1 p2 p3 p4 : Int) (m0 : MM) : Option (Int × MM) := bp (fm_X12_isType p1 m0) fun x_2 =>
if x_2 = 0 then
fj_X12_schedule_19 p1 p2 p3 p4 0 m0
else
bp (fm_X12_isTenant p2 m0) fun x_227 =>
if x_227 = 0 then
fj_X12_schedule_19 p1 p2 p3 p4 0 m0
else
fj_X12_schedule_19 p1 p2 p3 p4 1 m0
set_option maxHeartbeats 4000000 in
theorem om_X12_schedule {xs : List Int32} {d : Nat} {S : QS} {m0 : MM} {p1 p2 p3 p4 : Int} {v0 : Value} {v1 : Value} {v2 : Value} {v3 : Value} {v4 : Value} {rz : Int} {rm : MM}
  (hd : 3 ≤ d) (R : Rp S m0) (f0 : q_is 2 v0 68) (f1 : q_is 0 v1 p1) (f2 : q_is 0 v2 p2) (f3 : q_is 0 v3 p3) (f4 : q_is 0 v4 p4)
  (h : fm_X12_schedule p1 p2 p3 p4 m0 = some (rz, rm)) : Mt xs d 307 [v0, v1, v2, v3, v4] S (Cr 0 m0 rm rz) := by
  obtain ⟨d, rfl⟩ : ∃ e, d = e + 1 := ⟨d - 1, by omega⟩
  have hd : 2 ≤ d := Nat.le_of_succ_le_succ hd
  refine Mt.of (M := qM_X12_schedule) rfl (by rw [sl_1 (q_is_cat f0 (Or.inr rfl)), sl_1 (q_is_cat f1 (Or.inl rfl)), sl_1 (q_is_cat f2 (Or.inl rfl)), sl_1 (q_is_cat f3 (Or.inl rfl)), sl_1 (q_is_cat f4 (Or.inl rfl)), sl_0]; decide) ?_
  rw [la_1 (q_is_cat f0 (Or.inr rfl)), la_1 (q_is_cat f1 (Or.inl rfl)), la_1 (q_is_cat f2 (Or.inl rfl)), la_1 (q_is_cat f3 (Or.inl rfl)), la_1 (q_is_cat f4 (Or.inl rfl)), la_0]
  obtain ⟨L, hL⟩ : ∃ L : QL, L = [(0, v0), (0 + 1, v1), (0 + 1 + 1, v2), (0 + 1 + 1 + 1, v3), (0 + 1 + 1 + 1 + 1, v4)] := ⟨_, rfl⟩
  rw [← hL]
  have l0 : q_lo L 0 = some v0 := by rw [hL]; rfl
  have l1 : q_lo L 1 = some v1 := by rw [hL]; rfl
  have l2 : q_lo L 2 = some v2 := by rw [hL]; rfl
  have l3 : q_lo L 3 = some v3 := by rw [hL]; rfl
  have l4 : q_lo L 4 = some v4 := by rw [hL]; rfl
  have hQ : Ext m0 rm → ∀ o S1, Rp S1 rm → q_out 0 o rz → (Cr 0 m0 rm rz) o S1 := fun a o S1 b e => ⟨b, a, e⟩
  unfold fm_X12_schedule at h
  refine go_iload_n (n := 1) (by decide +kernel) l1 f1 ?_
  obtain ⟨x_2, hc_1, h⟩ := bp_s h
  refine go_callS (x := 313) (mi := 191) (n := 1) (b := 0) (as := [v1]) (rest := []) (by decide +kernel) (by decide +kernel) rfl rfl (q_sum8 _ (Nat.le_of_ble_eq_true rfl)) (om_X12_isType (Nat.le_trans (by decide) hd) R f1 hc_1) (fun _ S_6 q_9 => ?_) (fun _ _ qq => kr_x qq)
  refine kr_z (by decide) q_9 fun v_4 f_5 R_7 E_8 => ?_
  refine go_if (c := .eq) (o := 14) (t := 18) (P := x_2 = 0) (by decide +kernel) (by decide +kernel) f_5 (Iff.rfl) (fun hp_10 => ?_) (fun hp_10 => ?_)
  · have h := it_t hp_10 h
    refine go_iconst (n := 0) (z := 0) (by decide +kernel) (by decide) fun v_11 f_12 => ?_
    exact oj_X12_schedule_19 hd R_7 l0 f0 l1 f1 l2 f2 l3 f3 l4 f4 f_12 hQ h
  · have h := it_f hp_10 h
    refine go_iload_n (n := 2) (by decide +kernel) l2 f2 ?_
    obtain ⟨x_227, hc_226, h⟩ := bp_s h
    refine go_callS (x := 570) (mi := 192) (n := 1) (b := 0) (as := [v2]) (rest := []) (by decide +kernel) (by decide +kernel) rfl rfl (q_sum8 _ (Nat.le_of_ble_eq_true rfl)) (om_X12_isTenant (Nat.le_trans (by decide) hd) R_7 f2 hc_226) (fun _ S_231 q_234 => ?_) (fun _ _ qq => kr_x qq)
    refine kr_z (by decide) q_234 fun v_229 f_230 R_232 E_233 => ?_
    refine go_if (c := .eq) (o := 7) (t := 18) (P := x_227 = 0) (by decide +kernel) (by decide +kernel) f_230 (Iff.rfl) (fun hp_235 => ?_) (fun hp_235 => ?_)
    · have h := it_t hp_235 h
      refine go_iconst (n := 0) (z := 0) (by decide +kernel) (by decide) fun v_236 f_237 => ?_
      exact oj_X12_schedule_19 hd R_232 l0 f0 l1 f1 l2 f2 l3 f3 l4 f4 f_237 hQ h
    · have h := it_f hp_235 h
      refine go_iconst (n := 1) (z := 1) (by decide +kernel) (by decide) fun v_238 f_239 => ?_
      refine go_goto (o := 4) (t := 19) (by decide +kernel) (by decide +kernel) ?_
      exact oj_X12_schedule_19 hd R_232 l0 f0 l1 f1 l2 f2 l3 f3 l4 f4 f_239 hQ h
end DF46
