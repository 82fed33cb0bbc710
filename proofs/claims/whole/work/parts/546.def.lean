/-! Methods as functions (written by wip/whole/dec.py), 46: X12_takeOver, X12_join, X12_isSchedule, X12_schedule. -/
section DF46
noncomputable def fl_X12_takeOver_30 (k65 : Int → MM → Option (Int × MM)) : Nat → Int → Int → MM → Option (Int × MM)
  | 0, _, _, _ => none
  | n + 1, y1, y2, m => lx (m 68 12) fun x_44 =>
if y2 < x_44 then
gd (0 ≤ y2 ∧ y2 < 30) <| lx (m 83 y2) fun x_54 =>
if x_54 = 0 then
bd (fm_X12_cutsRun y2 m) fun x_80 m_81 =>
lx (w32 (y1 + x_80)) fun x_91 =>
lx (w32 (y2 + 1)) fun x_104 =>
fl_X12_takeOver_30 k65 n x_91 x_104 m_81
else
lx (w32 (y1 + 0)) fun x_61 =>
lx (w32 (y2 + 1)) fun x_74 =>
fl_X12_takeOver_30 k65 n x_61 x_74 m
else
k65 y1 m
set_option maxHeartbeats 4000000 in
theorem ol_X12_takeOver_30 {xs : List Int32} {d : Nat} {Q : QO → QS → Prop} {mb : MM} {k65 : Int → MM → Option (Int × MM)} {rz : Int} {rm : MM}
  (hd : 5 ≤ d)
  (hk65 : ∀ mq : MM, Ext mb mq → ∀ {z1 : Int} {Sq : QS} {Lq : QL} {u0 : Value} {u1 : Value}, k65 z1 mq = some (rz, rm) → Rp Sq mq → q_lo Lq 0 = some u0 → q_is 2 u0 68 → q_lo Lq 1 = some u1 → q_is 0 u1 z1 → Go xs d qM_X12_takeOver 65 Lq [] Sq Q)
  (hQ : Ext mb rm → ∀ o S1, Rp S1 rm → q_out 0 o rz → Q o S1) :
  ∀ (n : Nat) {m : MM} {S : QS} {L : QL} {y1 y2 : Int} {v0 : Value} {v1 : Value} {v2 : Value} , Ext mb m → fl_X12_takeOver_30 k65 n y1 y2 m = some (rz, rm) → Rp S m → q_lo L 0 = some v0 → q_is 2 v0 68 → q_lo L 1 = some v1 → q_is 0 v1 y1 → q_lo L 2 = some v2 → q_is 0 v2 y2 → Go xs d qM_X12_takeOver 30 L [] S Q := by
  intro n
  induction n with
  | zero => intro m S L y1 y2 v0 v1 v2; intro E h R l0 f0 l1 f1 l2 f2; cases h
  | succ n ih0 =>
    intro m S L y1 y2 v0 v1 v2; intro E h R l0 f0 l1 f1 l2 f2
    have ih : ∀ mq : MM, Ext mb mq → ∀ {z1 : Int} {z2 : Int} {Sq : QS} {Lq : QL} {u0 : Value} {u1 : Value} {u2 : Value}, fl_X12_takeOver_30 k65 n z1 z2 mq = some (rz, rm) → Rp Sq mq → q_lo Lq 0 = some u0 → q_is 2 u0 68 → q_lo Lq 1 = some u1 → q_is 0 u1 z1 → q_lo Lq 2 = some u2 → q_is 0 u2 z2 → Go xs d qM_X12_takeOver 30 Lq [] Sq Q := fun mq b => by intros; exact ih0 b ‹_› ‹_› ‹_› ‹_› ‹_› ‹_› ‹_› ‹_›
    unfold fl_X12_takeOver_30 at h
    refine go_iload_n (n := 2) (by decide +kernel) l2 f2 ?_
    refine go_aload_n (n := 0) (by decide +kernel) l0 f0 ?_
    obtain ⟨x_44, e_45, h⟩ := lx_s h
    refine go_getf (x := 310) (ci := 13) (kf := 12) (fin := 0) (t := 0) (by decide +kernel) (by decide +kernel) (by decide +kernel) R f0 (fx_k (c := 13) R (by decide +kernel)) fun v_41 f_42 => ?_
    have f_43 := q_is_eq f_42 e_45
    refine go_icmp (c := .ge) (o := 30) (t := 65) (P := ¬ (y2 < x_44)) (by decide +kernel) (by decide +kernel) f2 f_43 (Int.not_lt.symm) (fun hp_46 => ?_) (fun hp_46 => ?_)
    · have h := it_f hp_46 h
      exact hk65 m E h R l0 f0 l1 f1
    · have h := it_n hp_46 h
      refine go_iload_n (n := 1) (by decide +kernel) l1 f1 ?_
      refine go_aload_n (n := 0) (by decide +kernel) l0 f0 ?_
      refine go_getf (x := 52) (ci := 13) (kf := 16) (fin := 1) (t := 2) (by decide +kernel) (by decide +kernel) (by decide +kernel) R f0 (fx_k (c := 13) R (by decide +kernel)) fun v_47 f_48 => ?_
      have f_49 := q_is_eq (b := 83) f_48 (fx_v R (by decide +kernel)).symm
      refine go_iload_n (n := 2) (by decide +kernel) l2 f2 ?_
      obtain ⟨g_52, h⟩ := gd_s h
      obtain ⟨x_54, e_55, h⟩ := lx_s h
      refine go_iald (kd := 100) (by decide +kernel) rfl R f_49 f2 (fx_k (c := 100) R (by decide +kernel)) (fx_x (a := 83) (ln := 30) R (by decide +kernel) g_52) fun v_50 f_51 => ?_
      have f_53 := q_is_eq f_51 e_55
      refine go_if (c := .ne) (o := 11) (t := 56) (P := ¬ (x_54 = 0)) (by decide +kernel) (by decide +kernel) f_53 (Iff.rfl) (fun hp_56 => ?_) (fun hp_56 => ?_)
      · have h := it_f hp_56 h
        refine go_iconst (n := 0) (z := 0) (by decide +kernel) (by decide) fun v_57 f_58 => ?_
        refine go_iadd (by decide +kernel) f1 f_58 fun v_59 f_60 => ?_
        obtain ⟨x_61, e_62, h⟩ := lx_s h
        have f_63 := q_is_eq f_60 e_62
        refine go_istore_n (n := 1) (by decide +kernel) (by decide +kernel) f_63 fun L_64 l_65 kp_66 => ?_
        have l_67 := kp_66 0 _ l0 (by decide) (Or.inr (q_is_cat f0 (Or.inr rfl)))
        have l_68 := kp_66 2 _ l2 (by decide) (Or.inl (by decide))
        refine go_iinc (n := 2) (c := 1) (c' := 1) (by decide +kernel) (by decide +kernel) l_68 f2 (by decide) fun L_69 v_70 f_71 l_72 kp_73 => ?_
        obtain ⟨x_74, e_75, h⟩ := lx_s h
        have f_76 := q_is_eq f_71 e_75
        have l_77 := kp_73 0 _ l_67 (by decide) (Or.inl (by decide))
        have l_78 := kp_73 1 _ l_65 (by decide) (Or.inr (q_is_cat f_63 (Or.inl rfl)))
        refine go_goto (o := (-32)) (t := 30) (by decide +kernel) (by decide +kernel) ?_
        exact ih m E h R l_77 f0 l_78 f_63 l_72 f_76
      · have h := it_n hp_56 h
        refine go_aload_n (n := 0) (by decide +kernel) l0 f0 ?_
        refine go_iload_n (n := 2) (by decide +kernel) l2 f2 ?_
        obtain ⟨x_80, m_81, hc_79, h⟩ := bd_s h
        refine go_callV (x := 688) (mi := 303) (n := 1) (ci := 13) (as := [v2]) (rest := [v1]) (by decide +kernel) (by decide +kernel) rfl rfl (q_sum8 _ (Nat.le_of_ble_eq_true rfl)) R f0 (fx_k (c := 13) R (by decide +kernel)) (om_X12_cutsRun (Nat.le_trans (by decide) hd) R f0 f2 hc_79) (fun _ S_84 q_87 => ?_) (fun _ _ qq => kr_x qq)
        refine kr_z (by decide) q_87 fun v_82 f_83 R_85 E_86 => ?_
        have E_88 := Ext.tr E E_86
        refine go_goto (o := 4) (t := 57) (by decide +kernel) (by decide +kernel) ?_
        refine go_iadd (by decide +kernel) f1 f_83 fun v_89 f_90 => ?_
        obtain ⟨x_91, e_92, h⟩ := lx_s h
        have f_93 := q_is_eq f_90 e_92
        refine go_istore_n (n := 1) (by decide +kernel) (by decide +kernel) f_93 fun L_94 l_95 kp_96 => ?_
        have l_97 := kp_96 0 _ l0 (by decide) (Or.inr (q_is_cat f0 (Or.inr rfl)))
        have l_98 := kp_96 2 _ l2 (by decide) (Or.inl (by decide))
        refine go_iinc (n := 2) (c := 1) (c' := 1) (by decide +kernel) (by decide +kernel) l_98 f2 (by decide) fun L_99 v_100 f_101 l_102 kp_103 => ?_
        obtain ⟨x_104, e_105, h⟩ := lx_s h
        have f_106 := q_is_eq f_101 e_105
        have l_107 := kp_103 0 _ l_97 (by decide) (Or.inl (by decide))
        have l_108 := kp_103 1 _ l_95 (by decide) (Or.inr (q_is_cat f_93 (Or.inl rfl)))
        refine go_goto (o := (-32)) (t := 30) (by decide +kernel) (by decide +kernel) ?_
        exact ih m_81 E_88 h R_85 l_107 f0 l_108 f_93 l_102 f_106
noncomputable def fl_X12_takeOver_67 (y1 : Int) (k113 : MM → Option (Int × MM)) : Nat → Int → MM → Option (Int × MM)
  | 0, _, _ => none
  | n + 1, y2, m => lx (m 68 12) fun x_132 =>
if y2 < x_132 then
gd (0 ≤ y2 ∧ y2 < 30) <| lx (m 83 y2) fun x_142 =>
if x_142 = 0 then
lx (m 86 y2) fun x_161 =>
if x_161 = 0 then
up m 83 y2 5 fun m_179 =>
bd (fm_X12_closes y2 1 0 m_179) fun x_190 m_191 =>
lx (w32 (y2 + 1)) fun x_204 =>
fl_X12_takeOver_67 y1 k113 n x_204 m_191
else
lx (w32 (y2 + 1)) fun x_169 =>
fl_X12_takeOver_67 y1 k113 n x_169 m
else
lx (w32 (y2 + 1)) fun x_150 =>
fl_X12_takeOver_67 y1 k113 n x_150 m
else
k113 m
set_option maxHeartbeats 4000000 in
theorem ol_X12_takeOver_67 {xs : List Int32} {d : Nat} {Q : QO → QS → Prop} {mb : MM} {y1 : Int} {k113 : MM → Option (Int × MM)} {rz : Int} {rm : MM}
  (hd : 5 ≤ d)
  (hk113 : ∀ mq : MM, Ext mb mq → ∀ {Sq : QS} {Lq : QL} {u0 : Value} {u1 : Value}, k113 mq = some (rz, rm) → Rp Sq mq → q_lo Lq 0 = some u0 → q_is 2 u0 68 → q_lo Lq 1 = some u1 → q_is 0 u1 y1 → Go xs d qM_X12_takeOver 113 Lq [] Sq Q)
  (hQ : Ext mb rm → ∀ o S1, Rp S1 rm → q_out 0 o rz → Q o S1) :
  ∀ (n : Nat) {m : MM} {S : QS} {L : QL} {y2 : Int} {v0 : Value} {v1 : Value} {v2 : Value} , Ext mb m → fl_X12_takeOver_67 y1 k113 n y2 m = some (rz, rm) → Rp S m → q_lo L 0 = some v0 → q_is 2 v0 68 → q_lo L 1 = some v1 → q_is 0 v1 y1 → q_lo L 2 = some v2 → q_is 0 v2 y2 → Go xs d qM_X12_takeOver 67 L [] S Q := by
  intro n
  induction n with
  | zero => intro m S L y2 v0 v1 v2; intro E h R l0 f0 l1 f1 l2 f2; cases h
  | succ n ih0 =>
    intro m S L y2 v0 v1 v2; intro E h R l0 f0 l1 f1 l2 f2
    have ih : ∀ mq : MM, Ext mb mq → ∀ {z2 : Int} {Sq : QS} {Lq : QL} {u0 : Value} {u1 : Value} {u2 : Value}, fl_X12_takeOver_67 y1 k113 n z2 mq = some (rz, rm) → Rp Sq mq → q_lo Lq 0 = some u0 → q_is 2 u0 68 → q_lo Lq 1 = some u1 → q_is 0 u1 y1 → q_lo Lq 2 = some u2 → q_is 0 u2 z2 → Go xs d qM_X12_takeOver 67 Lq [] Sq Q := fun mq b => by intros; exact ih0 b ‹_› ‹_› ‹_› ‹_› ‹_› ‹_› ‹_› ‹_›
    unfold fl_X12_takeOver_67 at h
    refine go_iload_n (n := 2) (by decide +kernel) l2 f2 ?_
    refine go_aload_n (n := 0) (by decide +kernel) l0 f0 ?_
    obtain ⟨x_132, e_133, h⟩ := lx_s h
    refine go_getf (x := 310) (ci := 13) (kf := 12) (fin := 0) (t := 0) (by decide +kernel) (by decide +kernel) (by decide +kernel) R f0 (fx_k (c := 13) R (by decide +kernel)) fun v_129 f_130 => ?_
    have f_131 := q_is_eq f_130 e_133
    refine go_icmp (c := .ge) (o := 41) (t := 113) (P := ¬ (y2 < x_132)) (by decide +kernel) (by decide +kernel) f2 f_131 (Int.not_lt.symm) (fun hp_134 => ?_) (fun hp_134 => ?_)
    · have h := it_f hp_134 h
      exact hk113 m E h R l0 f0 l1 f1
    · have h := it_n hp_134 h
      refine go_aload_n (n := 0) (by decide +kernel) l0 f0 ?_
      refine go_getf (x := 52) (ci := 13) (kf := 16) (fin := 1) (t := 2) (by decide +kernel) (by decide +kernel) (by decide +kernel) R f0 (fx_k (c := 13) R (by decide +kernel)) fun v_135 f_136 => ?_
      have f_137 := q_is_eq (b := 83) f_136 (fx_v R (by decide +kernel)).symm
      refine go_iload_n (n := 2) (by decide +kernel) l2 f2 ?_
      obtain ⟨g_140, h⟩ := gd_s h
      obtain ⟨x_142, e_143, h⟩ := lx_s h
      refine go_iald (kd := 100) (by decide +kernel) rfl R f_137 f2 (fx_k (c := 100) R (by decide +kernel)) (fx_x (a := 83) (ln := 30) R (by decide +kernel) g_140) fun v_138 f_139 => ?_
      have f_141 := q_is_eq f_139 e_143
      refine go_if (c := .ne) (o := 26) (t := 107) (P := ¬ (x_142 = 0)) (by decide +kernel) (by decide +kernel) f_141 (Iff.rfl) (fun hp_144 => ?_) (fun hp_144 => ?_)
      · have h := it_f hp_144 h
        refine go_iinc (n := 2) (c := 1) (c' := 1) (by decide +kernel) (by decide +kernel) l2 f2 (by decide) fun L_145 v_146 f_147 l_148 kp_149 => ?_
        obtain ⟨x_150, e_151, h⟩ := lx_s h
        have f_152 := q_is_eq f_147 e_151
        have l_153 := kp_149 0 _ l0 (by decide) (Or.inl (by decide))
        have l_154 := kp_149 1 _ l1 (by decide) (Or.inr (q_is_cat f1 (Or.inl rfl)))
        refine go_goto (o := (-43)) (t := 67) (by decide +kernel) (by decide +kernel) ?_
        exact ih m E h R l_153 f0 l_154 f1 l_148 f_152
      · have h := it_n hp_144 h
        refine go_aload_n (n := 0) (by decide +kernel) l0 f0 ?_
        refine go_getf (x := 61) (ci := 13) (kf := 19) (fin := 1) (t := 2) (by decide +kernel) (by decide +kernel) (by decide +kernel) R f0 (fx_k (c := 13) R (by decide +kernel)) fun v_155 f_156 => ?_
        have f_157 := q_is_eq (b := 86) f_156 (fx_v R (by decide +kernel)).symm
        refine go_iload_n (n := 2) (by decide +kernel) l2 f2 ?_
        obtain ⟨x_161, e_162, h⟩ := lx_s h
        refine go_iald (kd := 100) (by decide +kernel) rfl R f_157 f2 (fx_k (c := 100) R (by decide +kernel)) (fx_x (a := 86) (ln := 30) R (by decide +kernel) g_140) fun v_158 f_159 => ?_
        have f_160 := q_is_eq f_159 e_162
        refine go_if (c := .ne) (o := 17) (t := 107) (P := ¬ (x_161 = 0)) (by decide +kernel) (by decide +kernel) f_160 (Iff.rfl) (fun hp_163 => ?_) (fun hp_163 => ?_)
        · have h := it_f hp_163 h
          refine go_iinc (n := 2) (c := 1) (c' := 1) (by decide +kernel) (by decide +kernel) l2 f2 (by decide) fun L_164 v_165 f_166 l_167 kp_168 => ?_
          obtain ⟨x_169, e_170, h⟩ := lx_s h
          have f_171 := q_is_eq f_166 e_170
          have l_172 := kp_168 0 _ l0 (by decide) (Or.inl (by decide))
          have l_173 := kp_168 1 _ l1 (by decide) (Or.inr (q_is_cat f1 (Or.inl rfl)))
          refine go_goto (o := (-43)) (t := 67) (by decide +kernel) (by decide +kernel) ?_
          exact ih m E h R l_172 f0 l_173 f1 l_167 f_171
        · have h := it_n hp_163 h
          refine go_aload_n (n := 0) (by decide +kernel) l0 f0 ?_
          refine go_getf (x := 52) (ci := 13) (kf := 16) (fin := 1) (t := 2) (by decide +kernel) (by decide +kernel) (by decide +kernel) R f0 (fx_k (c := 13) R (by decide +kernel)) fun v_174 f_175 => ?_
          have f_176 := q_is_eq (b := 83) f_175 (fx_v R (by decide +kernel)).symm
          refine go_iload_n (n := 2) (by decide +kernel) l2 f2 ?_
          refine go_iconst (n := 5) (z := 5) (by decide +kernel) (by decide) fun v_177 f_178 => ?_
          obtain ⟨m_179, e_180, h⟩ := up_s h
          refine go_iast (kd := 100) (by decide +kernel) rfl R f_176 f2 f_178 (fx_k (c := 100) R (by decide +kernel)) (fx_x (a := 83) (ln := 30) R (by decide +kernel) g_140) e_180 (fx_a R.2 (fx_k (c := 100) R (by decide +kernel)) (And.left (fx_x (a := 83) (ln := 30) R (by decide +kernel) g_140)) (by decide +kernel)) fun S_181 R_182 E_183 => ?_
          have E_184 := Ext.tr E E_183
          refine go_aload_n (n := 0) (by decide +kernel) l0 f0 ?_
          refine go_iload_n (n := 2) (by decide +kernel) l2 f2 ?_
          refine go_iconst (n := 1) (z := 1) (by decide +kernel) (by decide) fun v_185 f_186 => ?_
          refine go_iconst (n := 0) (z := 0) (by decide +kernel) (by decide) fun v_187 f_188 => ?_
          obtain ⟨x_190, m_191, hc_189, h⟩ := bd_s h
          refine go_callV (x := 635) (mi := 257) (n := 3) (ci := 13) (as := [v2, v_185, v_187]) (rest := []) (by decide +kernel) (by decide +kernel) rfl rfl (q_sum8 _ (Nat.le_of_ble_eq_true rfl)) R_182 f0 (fx_k (c := 13) R_182 (by decide +kernel)) (om_X12_closes (Nat.le_trans (by decide) hd) R_182 f0 f2 f_186 f_188 hc_189) (fun _ S_194 q_197 => ?_) (fun _ _ qq => kr_x qq)
          refine kr_v q_197 fun R_195 E_196 => ?_
          have E_198 := Ext.tr E_184 E_196
          refine go_iinc (n := 2) (c := 1) (c' := 1) (by decide +kernel) (by decide +kernel) l2 f2 (by decide) fun L_199 v_200 f_201 l_202 kp_203 => ?_
          obtain ⟨x_204, e_205, h⟩ := lx_s h
          have f_206 := q_is_eq f_201 e_205
          have l_207 := kp_203 0 _ l0 (by decide) (Or.inl (by decide))
          have l_208 := kp_203 1 _ l1 (by decide) (Or.inr (q_is_cat f1 (Or.inl rfl)))
          refine go_goto (o := (-43)) (t := 67) (by decide +kernel) (by decide +kernel) ?_
          exact ih m_191 E_198 h R_195 l_207 f0 l_208 f1 l_202 f_206
noncomputable def fl_X12_takeOver_115 (y1 : Int) : Nat → Int → MM → Option (Int × MM)
  | 0, _, _ => none
  | n + 1, y2, m => lx (m 68 12) fun x_231 =>
if y2 < x_231 then
gd (0 ≤ y2 ∧ y2 < 30) <| lx (m 83 y2) fun x_241 =>
if x_241 = 0 then
bd (fm_X12_beginsAnew y2 m) fun x_255 m_256 =>
lx (w32 (y2 + 1)) fun x_269 =>
fl_X12_takeOver_115 y1 n x_269 m_256
else
lx (w32 (y2 + 1)) fun x_249 =>
fl_X12_takeOver_115 y1 n x_249 m
else
some (y1, m)
set_option maxHeartbeats 4000000 in
theorem ol_X12_takeOver_115 {xs : List Int32} {d : Nat} {Q : QO → QS → Prop} {mb : MM} {y1 : Int} {rz : Int} {rm : MM}
  (hd : 5 ≤ d)
  (hQ : Ext mb rm → ∀ o S1, Rp S1 rm → q_out 0 o rz → Q o S1) :
  ∀ (n : Nat) {m : MM} {S : QS} {L : QL} {y2 : Int} {v0 : Value} {v1 : Value} {v2 : Value} , Ext mb m → fl_X12_takeOver_115 y1 n y2 m = some (rz, rm) → Rp S m → q_lo L 0 = some v0 → q_is 2 v0 68 → q_lo L 1 = some v1 → q_is 0 v1 y1 → q_lo L 2 = some v2 → q_is 0 v2 y2 → Go xs d qM_X12_takeOver 115 L [] S Q := by
  intro n
  induction n with
  | zero => intro m S L y2 v0 v1 v2; intro E h R l0 f0 l1 f1 l2 f2; cases h
  | succ n ih0 =>
    intro m S L y2 v0 v1 v2; intro E h R l0 f0 l1 f1 l2 f2
    have ih : ∀ mq : MM, Ext mb mq → ∀ {z2 : Int} {Sq : QS} {Lq : QL} {u0 : Value} {u1 : Value} {u2 : Value}, fl_X12_takeOver_115 y1 n z2 mq = some (rz, rm) → Rp Sq mq → q_lo Lq 0 = some u0 → q_is 2 u0 68 → q_lo Lq 1 = some u1 → q_is 0 u1 y1 → q_lo Lq 2 = some u2 → q_is 0 u2 z2 → Go xs d qM_X12_takeOver 115 Lq [] Sq Q := fun mq b => by intros; exact ih0 b ‹_› ‹_› ‹_› ‹_› ‹_› ‹_› ‹_› ‹_›
    unfold fl_X12_takeOver_115 at h
    refine go_iload_n (n := 2) (by decide +kernel) l2 f2 ?_
    refine go_aload_n (n := 0) (by decide +kernel) l0 f0 ?_
    obtain ⟨x_231, e_232, h⟩ := lx_s h
    refine go_getf (x := 310) (ci := 13) (kf := 12) (fin := 0) (t := 0) (by decide +kernel) (by decide +kernel) (by decide +kernel) R f0 (fx_k (c := 13) R (by decide +kernel)) fun v_228 f_229 => ?_
    have f_230 := q_is_eq f_229 e_232
    refine go_icmp (c := .ge) (o := 23) (t := 143) (P := ¬ (y2 < x_231)) (by decide +kernel) (by decide +kernel) f2 f_230 (Int.not_lt.symm) (fun hp_233 => ?_) (fun hp_233 => ?_)
    · have h := it_f hp_233 h
      refine go_iload_n (n := 1) (by decide +kernel) l1 f1 ?_
      cases h
      exact go_iret (by decide +kernel) rfl (Or.inl rfl) f1 (hQ E _ _ R (q_out_v (by decide) f1))
    · have h := it_n hp_233 h
      refine go_aload_n (n := 0) (by decide +kernel) l0 f0 ?_
      refine go_getf (x := 52) (ci := 13) (kf := 16) (fin := 1) (t := 2) (by decide +kernel) (by decide +kernel) (by decide +kernel) R f0 (fx_k (c := 13) R (by decide +kernel)) fun v_234 f_235 => ?_
      have f_236 := q_is_eq (b := 83) f_235 (fx_v R (by decide +kernel)).symm
      refine go_iload_n (n := 2) (by decide +kernel) l2 f2 ?_
      obtain ⟨g_239, h⟩ := gd_s h
      obtain ⟨x_241, e_242, h⟩ := lx_s h
      refine go_iald (kd := 100) (by decide +kernel) rfl R f_236 f2 (fx_k (c := 100) R (by decide +kernel)) (fx_x (a := 83) (ln := 30) R (by decide +kernel) g_239) fun v_237 f_238 => ?_
      have f_240 := q_is_eq f_238 e_242
      refine go_if (c := .ne) (o := 8) (t := 137) (P := ¬ (x_241 = 0)) (by decide +kernel) (by decide +kernel) f_240 (Iff.rfl) (fun hp_243 => ?_) (fun hp_243 => ?_)
      · have h := it_f hp_243 h
        refine go_iinc (n := 2) (c := 1) (c' := 1) (by decide +kernel) (by decide +kernel) l2 f2 (by decide) fun L_244 v_245 f_246 l_247 kp_248 => ?_
        obtain ⟨x_249, e_250, h⟩ := lx_s h
        have f_251 := q_is_eq f_246 e_250
        have l_252 := kp_248 0 _ l0 (by decide) (Or.inl (by decide))
        have l_253 := kp_248 1 _ l1 (by decide) (Or.inr (q_is_cat f1 (Or.inl rfl)))
        refine go_goto (o := (-25)) (t := 115) (by decide +kernel) (by decide +kernel) ?_
        exact ih m E h R l_252 f0 l_253 f1 l_247 f_251
      · have h := it_n hp_243 h
        refine go_aload_n (n := 0) (by decide +kernel) l0 f0 ?_
        refine go_iload_n (n := 2) (by decide +kernel) l2 f2 ?_
        obtain ⟨x_255, m_256, hc_254, h⟩ := bd_s h
        refine go_callV (x := 676) (mi := 299) (n := 1) (ci := 13) (as := [v2]) (rest := []) (by decide +kernel) (by decide +kernel) rfl rfl (q_sum8 _ (Nat.le_of_ble_eq_true rfl)) R f0 (fx_k (c := 13) R (by decide +kernel)) (om_X12_beginsAnew (Nat.le_trans (by decide) hd) R f0 f2 hc_254) (fun _ S_259 q_262 => ?_) (fun _ _ qq => kr_x qq)
        refine kr_v q_262 fun R_260 E_261 => ?_
        have E_263 := Ext.tr E E_261
        refine go_iinc (n := 2) (c := 1) (c' := 1) (by decide +kernel) (by decide +kernel) l2 f2 (by decide) fun L_264 v_265 f_266 l_267 kp_268 => ?_
        obtain ⟨x_269, e_270, h⟩ := lx_s h
        have f_271 := q_is_eq f_266 e_270
        have l_272 := kp_268 0 _ l0 (by decide) (Or.inl (by decide))
        have l_273 := kp_268 1 _ l1 (by decide) (Or.inr (q_is_cat f1 (Or.inl rfl)))
        refine go_goto (o := (-25)) (t := 115) (by decide +kernel) (by decide +kernel) ?_
        exact ih m_256 E_263 h R_260 l_272 f0 l_273 f1 l_267 f_271
noncomputable def fj_X12_takeOver_13 ( s0 : Int) (m : MM) : Option (Int × MM) := bd (fm_X12_fails s0 m) fun x_10 m_11 =>
if x_10 = 0 then
up m_11 68 83 1 fun m_22 =>
fl_X12_takeOver_30  (fun x_109 m_119 =>
fl_X12_takeOver_67 x_109 (fun m_218 =>
fl_X12_takeOver_115 x_109  BIG 0 m_218) BIG 0 m_119) BIG 0 0 m_22
else
some (0, m_11)
set_option maxHeartbeats 4000000 in
theorem oj_X12_takeOver_13 {xs : List Int32} {d : Nat} {S : QS} {L : QL} {Q : QO → QS → Prop} {m : MM} {s0 : Int} {v0 : Value} {w0 : Value} {w1 : Value}  {rz : Int} {rm : MM}
  (hd : 5 ≤ d) (R : Rp S m) (l0 : q_lo L 0 = some v0) (f0 : q_is 2 v0 68) (fs0 : q_is 0 w0 s0) (fs1 : q_is 2 w1 68)
  (hQ : Ext m rm → ∀ o S1, Rp S1 rm → q_out 0 o rz → Q o S1)
  (h : fj_X12_takeOver_13 s0 m = some (rz, rm)) : Go xs d qM_X12_takeOver 13 L [w0, w1] S Q := by
  unfold fj_X12_takeOver_13 at h
  obtain ⟨x_10, m_11, hc_9, h⟩ := bd_s h
  refine go_callV (x := 324) (mi := 186) (n := 1) (ci := 13) (as := [w0]) (rest := []) (by decide +kernel) (by decide +kernel) rfl rfl (q_sum8 _ (Nat.le_of_ble_eq_true rfl)) R fs1 (fx_k (c := 13) R (by decide +kernel)) (om_X12_fails (Nat.le_trans (by decide) hd) R fs1 fs0 hc_9) (fun _ S_14 q_17 => ?_) (fun _ _ qq => kr_x qq)
  refine kr_z (by decide) q_17 fun v_12 f_13 R_15 E_16 => ?_
  have E_18 := E_16
  refine go_if (c := .eq) (o := 5) (t := 21) (P := x_10 = 0) (by decide +kernel) (by decide +kernel) f_13 (Iff.rfl) (fun hp_19 => ?_) (fun hp_19 => ?_)
  · have h := it_t hp_19 h
    refine go_aload_n (n := 0) (by decide +kernel) l0 f0 ?_
    refine go_iconst (n := 1) (z := 1) (by decide +kernel) (by decide) fun v_20 f_21 => ?_
    obtain ⟨m_22, e_23, h⟩ := up_s h
    refine go_putf (x := 685) (ci := 13) (kf := 83) (fin := 0) (zt := 1) (by decide +kernel) (by decide +kernel) (by decide) (by decide +kernel) (by decide) (Or.inl rfl) R_15 f0 f_21 (fun _ => by decide) (fx_k (c := 13) R_15 (by decide +kernel)) e_23 (fx_f (j := 83) R_15.2 (fx_k (c := 13) R_15 (by decide +kernel)) (by decide +kernel)) fun S_24 R_25 E_26 => ?_
    have E_27 := Ext.tr E_18 E_26
    refine go_iconst (n := 0) (z := 0) (by decide +kernel) (by decide) fun v_28 f_29 => ?_
    refine go_istore_n (n := 1) (by decide +kernel) (by decide +kernel) f_29 fun L_30 l_31 kp_32 => ?_
    have l_33 := kp_32 0 _ l0 (by decide) (Or.inr (q_is_cat f0 (Or.inr rfl)))
    refine go_iconst (n := 0) (z := 0) (by decide +kernel) (by decide) fun v_34 f_35 => ?_
    refine go_istore_n (n := 2) (by decide +kernel) (by decide +kernel) f_35 fun L_36 l_37 kp_38 => ?_
    have l_39 := kp_38 0 _ l_33 (by decide) (Or.inl (by decide))
    have l_40 := kp_38 1 _ l_31 (by decide) (Or.inr (q_is_cat f_29 (Or.inl rfl)))
    refine ol_X12_takeOver_30 hd  ?_ (fun b => hQ (Ext.tr E_27 b)) BIG (Ext.rf _) h R_25 l_39 f0 l_40 f_29 l_37 f_35
    intro m_119 E_120
    intro x_109 S_116 L_117 v_110 v_111
    intro h R_118 l_112 f_114 l_113 f_115
    have E_121 := Ext.tr E_27 E_120
    refine go_iconst (n := 0) (z := 0) (by decide +kernel) (by decide) fun v_122 f_123 => ?_
    refine go_istore_n (n := 2) (by decide +kernel) (by decide +kernel) f_123 fun L_124 l_125 kp_126 => ?_
    have l_127 := kp_126 0 _ l_112 (by decide) (Or.inl (by decide))
    have l_128 := kp_126 1 _ l_113 (by decide) (Or.inr (q_is_cat f_115 (Or.inl rfl)))
    refine ol_X12_takeOver_67 hd  ?_ (fun b => hQ (Ext.tr E_121 b)) BIG (Ext.rf _) h R_118 l_127 f_114 l_128 f_115 l_125 f_123
    intro m_218 E_219
    intro S_215 L_216 v_209 v_210
    intro h R_217 l_211 f_213 l_212 f_214
    have E_220 := Ext.tr E_121 E_219
    refine go_iconst (n := 0) (z := 0) (by decide +kernel) (by decide) fun v_221 f_222 => ?_
    refine go_istore_n (n := 2) (by decide +kernel) (by decide +kernel) f_222 fun L_223 l_224 kp_225 => ?_
    have l_226 := kp_225 0 _ l_211 (by decide) (Or.inl (by decide))
    have l_227 := kp_225 1 _ l_212 (by decide) (Or.inr (q_is_cat f_214 (Or.inl rfl)))
    refine ol_X12_takeOver_115 hd   (fun b => hQ (Ext.tr E_220 b)) BIG (Ext.rf _) h R_217 l_226 f_213 l_227 f_214 l_224 f_222
  · have h := it_f hp_19 h
    refine go_iconst (n := 0) (z := 0) (by decide +kernel) (by decide) fun v_274 f_275 => ?_
    cases h
    exact go_iret (by decide +kernel) rfl (Or.inl rfl) f_275 (hQ E_18 _ _ R_15 (q_out_v (by decide) f_275))
noncomputable def fm_X12_takeOver (m0 : MM) : Option (Int × MM) := lx (m0 68 83) fun x_4 =>
if x_4 = 0 then
fj_X12_takeOver_13 0 m0
else
fj_X12_takeOver_13 1 m0
set_option maxHeartbeats 4000000 in
theorem om_X12_takeOver {xs : List Int32} {d : Nat} {S : QS} {m0 : MM} {v0 : Value} {rz : Int} {rm : MM}
  (hd : 6 ≤ d) (R : Rp S m0) (f0 : q_is 2 v0 68)
  (h : fm_X12_takeOver m0 = some (rz, rm)) : Mt xs d 304 [v0] S (Cr 0 m0 rm rz) := by
  obtain ⟨d, rfl⟩ : ∃ e, d = e + 1 := ⟨d - 1, by omega⟩
  have hd : 5 ≤ d := Nat.le_of_succ_le_succ hd
  refine Mt.of (M := qM_X12_takeOver) rfl (by rw [sl_1 (q_is_cat f0 (Or.inr rfl)), sl_0]; decide) ?_
  rw [la_1 (q_is_cat f0 (Or.inr rfl)), la_0]
  obtain ⟨L, hL⟩ : ∃ L : QL, L = [(0, v0)] := ⟨_, rfl⟩
  rw [← hL]
  have l0 : q_lo L 0 = some v0 := by rw [hL]; rfl
  have hQ : Ext m0 rm → ∀ o S1, Rp S1 rm → q_out 0 o rz → (Cr 0 m0 rm rz) o S1 := fun a o S1 b e => ⟨b, a, e⟩
  unfold fm_X12_takeOver at h
  refine go_aload_n (n := 0) (by decide +kernel) l0 f0 ?_
  refine go_aload_n (n := 0) (by decide +kernel) l0 f0 ?_
  obtain ⟨x_4, e_5, h⟩ := lx_s h
  refine go_getf (x := 685) (ci := 13) (kf := 83) (fin := 0) (t := 0) (by decide +kernel) (by decide +kernel) (by decide +kernel) R f0 (fx_k (c := 13) R (by decide +kernel)) fun v_1 f_2 => ?_
  have f_3 := q_is_eq f_2 e_5
  refine go_if (c := .eq) (o := 7) (t := 12) (P := x_4 = 0) (by decide +kernel) (by decide +kernel) f_3 (Iff.rfl) (fun hp_6 => ?_) (fun hp_6 => ?_)
  · have h := it_t hp_6 h
    refine go_iconst (n := 0) (z := 0) (by decide +kernel) (by decide) fun v_7 f_8 => ?_
    exact oj_X12_takeOver_13 hd R l0 f0 f_8 f0 hQ h
  · have h := it_f hp_6 h
    refine go_iconst (n := 1) (z := 1) (by decide +kernel) (by decide) fun v_276 f_277 => ?_
    refine go_goto (o := 4) (t := 13) (by decide +kernel) (by decide +kernel) ?_
    exact oj_X12_takeOver_13 hd R l0 f0 f_277 f0 hQ h
noncomputable def fl_X12_join_30 : Nat → Int → Int → MM → Option (Int × MM)
  | 0, _, _, _ => none
  | n + 1, y1, y2, m => lx (m 68 84) fun x_44 =>
if y2 < x_44 then
gd (0 ≤ y2 ∧ y2 < 4096) <| lx (m 139 y2) fun x_65 =>
gd (0 ≤ x_65 ∧ x_65 < 30) <| lx (m 83 x_65) fun x_71 =>
if x_71 = 0 then
lx (m 140 y2) fun x_98 =>
lx (m 141 y2) fun x_106 =>
bd (fm_X12_puts x_65 4 x_98 x_106 m) fun x_109 m_110 =>
lx (w32 (y1 + 1)) fun x_123 =>
lx (w32 (y2 + 1)) fun x_133 =>
fl_X12_join_30 n x_123 x_133 m_110
else
lx (w32 (y2 + 1)) fun x_79 =>
fl_X12_join_30 n y1 x_79 m
else
up m 68 84 0 fun m_49 =>
some (y1, m_49)
set_option maxHeartbeats 4000000 in
theorem ol_X12_join_30 {xs : List Int32} {d : Nat} {Q : QO → QS → Prop} {mb : MM} {rz : Int} {rm : MM}
  (hd : 3 ≤ d)
  (hQ : Ext mb rm → ∀ o S1, Rp S1 rm → q_out 0 o rz → Q o S1) :
  ∀ (n : Nat) {m : MM} {S : QS} {L : QL} {y1 y2 : Int} {v0 : Value} {v1 : Value} {v2 : Value} , Ext mb m → fl_X12_join_30 n y1 y2 m = some (rz, rm) → Rp S m → q_lo L 0 = some v0 → q_is 2 v0 68 → q_lo L 1 = some v1 → q_is 0 v1 y1 → q_lo L 2 = some v2 → q_is 0 v2 y2 → Go xs d qM_X12_join 30 L [] S Q := by
  intro n
  induction n with
  | zero => intro m S L y1 y2 v0 v1 v2; intro E h R l0 f0 l1 f1 l2 f2; cases h
  | succ n ih0 =>
    intro m S L y1 y2 v0 v1 v2; intro E h R l0 f0 l1 f1 l2 f2
    have ih : ∀ mq : MM, Ext mb mq → ∀ {z1 : Int} {z2 : Int} {Sq : QS} {Lq : QL} {u0 : Value} {u1 : Value} {u2 : Value}, fl_X12_join_30 n z1 z2 mq = some (rz, rm) → Rp Sq mq → q_lo Lq 0 = some u0 → q_is 2 u0 68 → q_lo Lq 1 = some u1 → q_is 0 u1 z1 → q_lo Lq 2 = some u2 → q_is 0 u2 z2 → Go xs d qM_X12_join 30 Lq [] Sq Q := fun mq b => by intros; exact ih0 b ‹_› ‹_› ‹_› ‹_› ‹_› ‹_› ‹_› ‹_›
    unfold fl_X12_join_30 at h
    refine go_iload_n (n := 2) (by decide +kernel) l2 f2 ?_
    refine go_aload_n (n := 0) (by decide +kernel) l0 f0 ?_
    obtain ⟨x_44, e_45, h⟩ := lx_s h
    refine go_getf (x := 682) (ci := 13) (kf := 84) (fin := 0) (t := 0) (by decide +kernel) (by decide +kernel) (by decide +kernel) R f0 (fx_k (c := 13) R (by decide +kernel)) fun v_41 f_42 => ?_
    have f_43 := q_is_eq f_42 e_45
    refine go_icmp (c := .ge) (o := 50) (t := 85) (P := ¬ (y2 < x_44)) (by decide +kernel) (by decide +kernel) f2 f_43 (Int.not_lt.symm) (fun hp_46 => ?_) (fun hp_46 => ?_)
    · have h := it_f hp_46 h
      refine go_aload_n (n := 0) (by decide +kernel) l0 f0 ?_
      refine go_iconst (n := 0) (z := 0) (by decide +kernel) (by decide) fun v_47 f_48 => ?_
      obtain ⟨m_49, e_50, h⟩ := up_s h
      refine go_putf (x := 682) (ci := 13) (kf := 84) (fin := 0) (zt := 0) (by decide +kernel) (by decide +kernel) (by decide) (by decide +kernel) (by decide) (Or.inl rfl) R f0 f_48 (fun hq => absurd hq (by decide)) (fx_k (c := 13) R (by decide +kernel)) e_50 (fx_f (j := 84) R.2 (fx_k (c := 13) R (by decide +kernel)) (by decide +kernel)) fun S_51 R_52 E_53 => ?_
      have E_54 := Ext.tr E E_53
      refine go_iload_n (n := 1) (by decide +kernel) l1 f1 ?_
      cases h
      exact go_iret (by decide +kernel) rfl (Or.inl rfl) f1 (hQ E_54 _ _ R_52 (q_out_v (by decide) f1))
    · have h := it_n hp_46 h
      refine go_aload_n (n := 0) (by decide +kernel) l0 f0 ?_
      refine go_getf (x := 52) (ci := 13) (kf := 16) (fin := 1) (t := 2) (by decide +kernel) (by decide +kernel) (by decide +kernel) R f0 (fx_k (c := 13) R (by decide +kernel)) fun v_55 f_56 => ?_
      have f_57 := q_is_eq (b := 83) f_56 (fx_v R (by decide +kernel)).symm
      refine go_aload_n (n := 0) (by decide +kernel) l0 f0 ?_
      refine go_getf (x := 232) (ci := 13) (kf := 85) (fin := 1) (t := 2) (by decide +kernel) (by decide +kernel) (by decide +kernel) R f0 (fx_k (c := 13) R (by decide +kernel)) fun v_58 f_59 => ?_
      have f_60 := q_is_eq (b := 139) f_59 (fx_v R (by decide +kernel)).symm
      refine go_iload_n (n := 2) (by decide +kernel) l2 f2 ?_
      obtain ⟨g_63, h⟩ := gd_s h
      obtain ⟨x_65, e_66, h⟩ := lx_s h
      refine go_iald (kd := 100) (by decide +kernel) rfl R f_60 f2 (fx_k (c := 100) R (by decide +kernel)) (fx_x (a := 139) (ln := 4096) R (by decide +kernel) g_63) fun v_61 f_62 => ?_
      have f_64 := q_is_eq f_62 e_66
      obtain ⟨g_69, h⟩ := gd_s h
      obtain ⟨x_71, e_72, h⟩ := lx_s h
      refine go_iald (kd := 100) (by decide +kernel) rfl R f_57 f_64 (fx_k (c := 100) R (by decide +kernel)) (fx_x (a := 83) (ln := 30) R (by decide +kernel) g_69) fun v_67 f_68 => ?_
      have f_70 := q_is_eq f_68 e_72
      refine go_if (c := .ne) (o := 30) (t := 79) (P := ¬ (x_71 = 0)) (by decide +kernel) (by decide +kernel) f_70 (Iff.rfl) (fun hp_73 => ?_) (fun hp_73 => ?_)
      · have h := it_f hp_73 h
        refine go_iinc (n := 2) (c := 1) (c' := 1) (by decide +kernel) (by decide +kernel) l2 f2 (by decide) fun L_74 v_75 f_76 l_77 kp_78 => ?_
        obtain ⟨x_79, e_80, h⟩ := lx_s h
        have f_81 := q_is_eq f_76 e_80
        have l_82 := kp_78 0 _ l0 (by decide) (Or.inl (by decide))
        have l_83 := kp_78 1 _ l1 (by decide) (Or.inr (q_is_cat f1 (Or.inl rfl)))
        refine go_goto (o := (-52)) (t := 30) (by decide +kernel) (by decide +kernel) ?_
        exact ih m E h R l_82 f0 l_83 f1 l_77 f_81
      · have h := it_n hp_73 h
        refine go_aload_n (n := 0) (by decide +kernel) l0 f0 ?_
        refine go_aload_n (n := 0) (by decide +kernel) l0 f0 ?_
        refine go_getf (x := 232) (ci := 13) (kf := 85) (fin := 1) (t := 2) (by decide +kernel) (by decide +kernel) (by decide +kernel) R f0 (fx_k (c := 13) R (by decide +kernel)) fun v_84 f_85 => ?_
        have f_86 := q_is_eq (b := 139) f_85 (fx_v R (by decide +kernel)).symm
        refine go_iload_n (n := 2) (by decide +kernel) l2 f2 ?_
        refine go_iald (kd := 100) (by decide +kernel) rfl R f_86 f2 (fx_k (c := 100) R (by decide +kernel)) (fx_x (a := 139) (ln := 4096) R (by decide +kernel) g_63) fun v_87 f_88 => ?_
        have f_89 := q_is_eq f_88 e_66
        refine go_iconst (n := 4) (z := 4) (by decide +kernel) (by decide) fun v_90 f_91 => ?_
        refine go_aload_n (n := 0) (by decide +kernel) l0 f0 ?_
        refine go_getf (x := 235) (ci := 13) (kf := 86) (fin := 1) (t := 2) (by decide +kernel) (by decide +kernel) (by decide +kernel) R f0 (fx_k (c := 13) R (by decide +kernel)) fun v_92 f_93 => ?_
        have f_94 := q_is_eq (b := 140) f_93 (fx_v R (by decide +kernel)).symm
        refine go_iload_n (n := 2) (by decide +kernel) l2 f2 ?_
        obtain ⟨x_98, e_99, h⟩ := lx_s h
        refine go_iald (kd := 100) (by decide +kernel) rfl R f_94 f2 (fx_k (c := 100) R (by decide +kernel)) (fx_x (a := 140) (ln := 4096) R (by decide +kernel) g_63) fun v_95 f_96 => ?_
        have f_97 := q_is_eq f_96 e_99
        refine go_aload_n (n := 0) (by decide +kernel) l0 f0 ?_
        refine go_getf (x := 238) (ci := 13) (kf := 87) (fin := 1) (t := 2) (by decide +kernel) (by decide +kernel) (by decide +kernel) R f0 (fx_k (c := 13) R (by decide +kernel)) fun v_100 f_101 => ?_
        have f_102 := q_is_eq (b := 141) f_101 (fx_v R (by decide +kernel)).symm
        refine go_iload_n (n := 2) (by decide +kernel) l2 f2 ?_
        obtain ⟨x_106, e_107, h⟩ := lx_s h
        refine go_iald (kd := 100) (by decide +kernel) rfl R f_102 f2 (fx_k (c := 100) R (by decide +kernel)) (fx_x (a := 141) (ln := 4096) R (by decide +kernel) g_63) fun v_103 f_104 => ?_
        have f_105 := q_is_eq f_104 e_107
        obtain ⟨x_109, m_110, hc_108, h⟩ := bd_s h
        refine go_callV (x := 360) (mi := 210) (n := 4) (ci := 13) (as := [v_87, v_90, v_95, v_103]) (rest := []) (by decide +kernel) (by decide +kernel) rfl rfl (q_sum8 _ (Nat.le_of_ble_eq_true rfl)) R f0 (fx_k (c := 13) R (by decide +kernel)) (om_X12_puts (Nat.le_trans (by decide) hd) R f0 f_89 f_91 f_97 f_105 hc_108) (fun _ S_113 q_116 => ?_) (fun _ _ qq => kr_x qq)
        refine kr_z (by decide) q_116 fun v_111 f_112 R_114 E_115 => ?_
        have E_117 := Ext.tr E E_115
        refine go_pop (by decide +kernel) f_112 (Or.inl rfl) ?_
        refine go_iinc (n := 1) (c := 1) (c' := 1) (by decide +kernel) (by decide +kernel) l1 f1 (by decide) fun L_118 v_119 f_120 l_121 kp_122 => ?_
        obtain ⟨x_123, e_124, h⟩ := lx_s h
        have f_125 := q_is_eq f_120 e_124
        have l_126 := kp_122 0 _ l0 (by decide) (Or.inr (q_is_cat f0 (Or.inr rfl)))
        have l_127 := kp_122 2 _ l2 (by decide) (Or.inl (by decide))
        refine go_iinc (n := 2) (c := 1) (c' := 1) (by decide +kernel) (by decide +kernel) l_127 f2 (by decide) fun L_128 v_129 f_130 l_131 kp_132 => ?_
        obtain ⟨x_133, e_134, h⟩ := lx_s h
        have f_135 := q_is_eq f_130 e_134
        have l_136 := kp_132 0 _ l_126 (by decide) (Or.inl (by decide))
        have l_137 := kp_132 1 _ l_121 (by decide) (Or.inr (q_is_cat f_125 (Or.inl rfl)))
        refine go_goto (o := (-52)) (t := 30) (by decide +kernel) (by decide +kernel) ?_
        exact ih m_110 E_117 h R_114 l_136 f0 l_137 f_125 l_131 f_135
noncomputable def fj_X12_join_13 ( s0 : Int) (m : MM) : Option (Int × MM) := bd (fm_X12_fails s0 m) fun x_10 m_11 =>
if x_10 = 0 then
up m_11 68 83 0 fun m_22 =>
fl_X12_join_30   BIG 0 0 m_22
else
some (0, m_11)
set_option maxHeartbeats 4000000 in
theorem oj_X12_join_13 {xs : List Int32} {d : Nat} {S : QS} {L : QL} {Q : QO → QS → Prop} {m : MM} {s0 : Int} {v0 : Value} {w0 : Value} {w1 : Value}  {rz : Int} {rm : MM}
  (hd : 3 ≤ d) (R : Rp S m) (l0 : q_lo L 0 = some v0) (f0 : q_is 2 v0 68) (fs0 : q_is 0 w0 s0) (fs1 : q_is 2 w1 68)
  (hQ : Ext m rm → ∀ o S1, Rp S1 rm → q_out 0 o rz → Q o S1)
  (h : fj_X12_join_13 s0 m = some (rz, rm)) : Go xs d qM_X12_join 13 L [w0, w1] S Q := by
  unfold fj_X12_join_13 at h
  obtain ⟨x_10, m_11, hc_9, h⟩ := bd_s h
  refine go_callV (x := 324) (mi := 186) (n := 1) (ci := 13) (as := [w0]) (rest := []) (by decide +kernel) (by decide +kernel) rfl rfl (q_sum8 _ (Nat.le_of_ble_eq_true rfl)) R fs1 (fx_k (c := 13) R (by decide +kernel)) (om_X12_fails (Nat.le_trans (by decide) hd) R fs1 fs0 hc_9) (fun _ S_14 q_17 => ?_) (fun _ _ qq => kr_x qq)
  refine kr_z (by decide) q_17 fun v_12 f_13 R_15 E_16 => ?_
  have E_18 := E_16
  refine go_if (c := .eq) (o := 5) (t := 21) (P := x_10 = 0) (by decide +kernel) (by decide +kernel) f_13 (Iff.rfl) (fun hp_19 => ?_) (fun hp_19 => ?_)
  · have h := it_t hp_19 h
    refine go_aload_n (n := 0) (by decide +kernel) l0 f0 ?_
    refine go_iconst (n := 0) (z := 0) (by decide +kernel) (by decide) fun v_20 f_21 => ?_
    obtain ⟨m_22, e_23, h⟩ := up_s h
    refine go_putf (x := 685) (ci := 13) (kf := 83) (fin := 0) (zt := 1) (by decide +kernel) (by decide +kernel) (by decide) (by decide +kernel) (by decide) (Or.inl rfl) R_15 f0 f_21 (fun _ => by decide) (fx_k (c := 13) R_15 (by decide +kernel)) e_23 (fx_f (j := 83) R_15.2 (fx_k (c := 13) R_15 (by decide +kernel)) (by decide +kernel)) fun S_24 R_25 E_26 => ?_
    have E_27 := Ext.tr E_18 E_26
    refine go_iconst (n := 0) (z := 0) (by decide +kernel) (by decide) fun v_28 f_29 => ?_
    refine go_istore_n (n := 1) (by decide +kernel) (by decide +kernel) f_29 fun L_30 l_31 kp_32 => ?_
    have l_33 := kp_32 0 _ l0 (by decide) (Or.inr (q_is_cat f0 (Or.inr rfl)))
    refine go_iconst (n := 0) (z := 0) (by decide +kernel) (by decide) fun v_34 f_35 => ?_
    refine go_istore_n (n := 2) (by decide +kernel) (by decide +kernel) f_35 fun L_36 l_37 kp_38 => ?_
    have l_39 := kp_38 0 _ l_33 (by decide) (Or.inl (by decide))
    have l_40 := kp_38 1 _ l_31 (by decide) (Or.inr (q_is_cat f_29 (Or.inl rfl)))
    refine ol_X12_join_30 hd   (fun b => hQ (Ext.tr E_27 b)) BIG (Ext.rf _) h R_25 l_39 f0 l_40 f_29 l_37 f_35
  · have h := it_f hp_19 h
    refine go_iconst (n := 0) (z := 0) (by decide +kernel) (by decide) fun v_138 f_139 => ?_
    cases h
    exact go_iret (by decide +kernel) rfl (Or.inl rfl) f_139 (hQ E_18 _ _ R_15 (q_out_v (by decide) f_139))
noncomputable def fm_X12_join (m0 : MM) : Option (Int × MM) := lx (m0 68 83) fun x_4 =>
if x_4 = 0 then
fj_X12_join_13 1 m0
else
fj_X12_join_13 0 m0
set_option maxHeartbeats 4000000 in
theorem om_X12_join {xs : List Int32} {d : Nat} {S : QS} {m0 : MM} {v0 : Value} {rz : Int} {rm : MM}
  (hd : 4 ≤ d) (R : Rp S m0) (f0 : q_is 2 v0 68)
  (h : fm_X12_join m0 = some (rz, rm)) : Mt xs d 305 [v0] S (Cr 0 m0 rm rz) := by
  obtain ⟨d, rfl⟩ : ∃ e, d = e + 1 := ⟨d - 1, by omega⟩
  have hd : 3 ≤ d := Nat.le_of_succ_le_succ hd
  refine Mt.of (M := qM_X12_join) rfl (by rw [sl_1 (q_is_cat f0 (Or.inr rfl)), sl_0]; decide) ?_
  rw [la_1 (q_is_cat f0 (Or.inr rfl)), la_0]
  obtain ⟨L, hL⟩ : ∃ L : QL, L = [(0, v0)] := ⟨_, rfl⟩
  rw [← hL]
  have l0 : q_lo L 0 = some v0 := by rw [hL]; rfl
  have hQ : Ext m0 rm → ∀ o S1, Rp S1 rm → q_out 0 o rz → (Cr 0 m0 rm rz) o S1 := fun a o S1 b e => ⟨b, a, e⟩
  unfold fm_X12_join at h
  refine go_aload_n (n := 0) (by decide +kernel) l0 f0 ?_
  refine go_aload_n (n := 0) (by decide +kernel) l0 f0 ?_
  obtain ⟨x_4, e_5, h⟩ := lx_s h
  refine go_getf (x := 685) (ci := 13) (kf := 83) (fin := 0) (t := 0) (by decide +kernel) (by decide +kernel) (by decide +kernel) R f0 (fx_k (c := 13) R (by decide +kernel)) fun v_1 f_2 => ?_
  have f_3 := q_is_eq f_2 e_5
  refine go_if (c := .eq) (o := 7) (t := 12) (P := x_4 = 0) (by decide +kernel) (by decide +kernel) f_3 (Iff.rfl) (fun hp_6 => ?_) (fun hp_6 => ?_)
  · have h := it_t hp_6 h
    refine go_iconst (n := 1) (z := 1) (by decide +kernel) (by decide) fun v_7 f_8 => ?_
    exact oj_X12_join_13 hd R l0 f0 f_8 f0 hQ h
  · have h := it_f hp_6 h
    refine go_iconst (n := 0) (z := 0) (by decide +kernel) (by decide) fun v_140 f_141 => ?_
    refine go_goto (o := 4) (t := 13) (by decide +kernel) (by decide +kernel) ?_
    exact oj_X12_join_13 hd R l0 f0 f_141 f0 hQ h
noncomputable def fm_X12_isSchedule (p1 : Int) (m0 : MM) : Option Int := lx (m0 68 69) fun x_6 =>
bp (fm_X12_isIn p1 0 (w32 (x_6 - 1)) m0) fun x_13 =>
gd (x_13 = 0 ∨ x_13 = 1) <| some x_13
set_option maxHeartbeats 4000000 in
theorem om_X12_isSchedule {xs : List Int32} {d : Nat} {S : QS} {m0 : MM} {p1 : Int} {v0 : Value} {v1 : Value} {rz : Int}
  (hd : 2 ≤ d) (R : Rp S m0) (f0 : q_is 2 v0 68) (f1 : q_is 0 v1 p1)
  (h : fm_X12_isSchedule p1 m0 = some rz) : Mt xs d 306 [v0, v1] S (Cr 0 m0 m0 rz) := by
  obtain ⟨d, rfl⟩ : ∃ e, d = e + 1 := ⟨d - 1, by omega⟩
  have hd : 1 ≤ d := Nat.le_of_succ_le_succ hd
  refine Mt.of (M := qM_X12_isSchedule) rfl (by rw [sl_1 (q_is_cat f0 (Or.inr rfl)), sl_1 (q_is_cat f1 (Or.inl rfl)), sl_0]; decide) ?_
  rw [la_1 (q_is_cat f0 (Or.inr rfl)), la_1 (q_is_cat f1 (Or.inl rfl)), la_0]
  obtain ⟨L, hL⟩ : ∃ L : QL, L = [(0, v0), (0 + 1, v1)] := ⟨_, rfl⟩
  rw [← hL]
  have l0 : q_lo L 0 = some v0 := by rw [hL]; rfl
  have l1 : q_lo L 1 = some v1 := by rw [hL]; rfl
  have hQ : ∀ o S1, Rp S1 m0 → q_out 0 o rz → (Cr 0 m0 m0 rz) o S1 := fun o S1 a b => ⟨a, Ext.rf _, b⟩
  unfold fm_X12_isSchedule at h
  refine go_iload_n (n := 1) (by decide +kernel) l1 f1 ?_
  refine go_iconst (n := 0) (z := 0) (by decide +kernel) (by decide) fun v_1 f_2 => ?_
  refine go_aload_n (n := 0) (by decide +kernel) l0 f0 ?_
  obtain ⟨x_6, e_7, h⟩ := lx_s h
  refine go_getf (x := 655) (ci := 13) (kf := 69) (fin := 0) (t := 0) (by decide +kernel) (by decide +kernel) (by decide +kernel) R f0 (fx_k (c := 13) R (by decide +kernel)) fun v_3 f_4 => ?_
  have f_5 := q_is_eq f_4 e_7
  refine go_iconst (n := 1) (z := 1) (by decide +kernel) (by decide) fun v_8 f_9 => ?_
  refine go_isub (by decide +kernel) f_5 f_9 fun v_10 f_11 => ?_
  obtain ⟨x_13, hc_12, h⟩ := bp_s h
  refine go_callS (x := 306) (mi := 188) (n := 3) (b := 0) (as := [v1, v_1, v_10]) (rest := []) (by decide +kernel) (by decide +kernel) rfl rfl (q_sum8 _ (Nat.le_of_ble_eq_true rfl)) (om_X12_isIn (Nat.le_trans (by decide) hd) R f1 f_2 f_11 hc_12) (fun _ S_17 q_20 => ?_) (fun _ _ qq => kr_x qq)
  refine kr_z (by decide) q_20 fun v_15 f_16 R_18 E_19 => ?_
  obtain ⟨g_21, h⟩ := gd_s h
  cases h
  exact go_iret (by decide +kernel) rfl (Or.inr ⟨rfl, g_21⟩) f_16 (hQ _ _ R_18 (q_out_v (by decide) f_16))
noncomputable def fj_X12_schedule_89 (y1 y2 y3 y4 s0 : Int) (m : MM) : Option (Int × MM) := bd (fm_X12_fails s0 m) fun x_61 m_62 =>
if x_61 = 0 then
lx (m_62 68 69) fun x_77 =>
gd (0 ≤ x_77 ∧ x_77 < 4) <| up m_62 128 x_77 y1 fun m_80 =>
lx (m_80 68 69) fun x_92 =>
gd (0 ≤ x_92 ∧ x_92 < 4) <| up m_80 129 x_92 y2 fun m_95 =>
lx (m_95 68 69) fun x_107 =>
gd (0 ≤ x_107 ∧ x_107 < 4) <| up m_95 130 x_107 y3 fun m_110 =>
lx (m_110 68 69) fun x_122 =>
gd (0 ≤ x_122 ∧ x_122 < 4) <| up m_110 131 x_122 y4 fun m_125 =>
lx (m_125 68 69) fun x_137 =>
lx (m_125 68 0) fun x_142 =>
lx (m_125 68 68) fun x_147 =>
gd (0 ≤ x_137 ∧ x_137 < 4) <| up m_125 132 x_137 (w32 (x_142 + x_147)) fun m_152 =>
lx (m_152 68 69) fun x_161 =>
up m_152 68 69 (w32 (x_161 + 1)) fun m_167 =>
lx (m_167 68 69) fun x_176 =>
some (w32 (x_176 - 1), m_167)
else
some (0, m_62)
set_option maxHeartbeats 4000000 in
theorem oj_X12_schedule_89 {xs : List Int32} {d : Nat} {S : QS} {L : QL} {Q : QO → QS → Prop} {m : MM} {y1 y2 y3 y4 s0 : Int} {v0 : Value} {v1 : Value} {v2 : Value} {v3 : Value} {v4 : Value} {w0 : Value} {w1 : Value}  {rz : Int} {rm : MM}
  (hd : 2 ≤ d) (R : Rp S m) (l0 : q_lo L 0 = some v0) (f0 : q_is 2 v0 68) (l1 : q_lo L 1 = some v1) (f1 : q_is 0 v1 y1) (l2 : q_lo L 2 = some v2) (f2 : q_is 0 v2 y2) (l3 : q_lo L 3 = some v3) (f3 : q_is 0 v3 y3) (l4 : q_lo L 4 = some v4) (f4 : q_is 0 v4 y4) (fs0 : q_is 0 w0 s0) (fs1 : q_is 2 w1 68)
  (hQ : Ext m rm → ∀ o S1, Rp S1 rm → q_out 0 o rz → Q o S1)
  (h : fj_X12_schedule_89 y1 y2 y3 y4 s0 m = some (rz, rm)) : Go xs d qM_X12_schedule 89 L [w0, w1] S Q := by
  unfold fj_X12_schedule_89 at h
  obtain ⟨x_61, m_62, hc_60, h⟩ := bd_s h
  refine go_callV (x := 324) (mi := 186) (n := 1) (ci := 13) (as := [w0]) (rest := []) (by decide +kernel) (by decide +kernel) rfl rfl (q_sum8 _ (Nat.le_of_ble_eq_true rfl)) R fs1 (fx_k (c := 13) R (by decide +kernel)) (om_X12_fails (Nat.le_trans (by decide) hd) R fs1 fs0 hc_60) (fun _ S_65 q_68 => ?_) (fun _ _ qq => kr_x qq)
  refine kr_z (by decide) q_68 fun v_63 f_64 R_66 E_67 => ?_
  have E_69 := E_67
  refine go_if (c := .eq) (o := 5) (t := 97) (P := x_61 = 0) (by decide +kernel) (by decide +kernel) f_64 (Iff.rfl) (fun hp_70 => ?_) (fun hp_70 => ?_)
  · have h := it_t hp_70 h
    refine go_aload_n (n := 0) (by decide +kernel) l0 f0 ?_
    refine go_getf (x := 198) (ci := 13) (kf := 70) (fin := 1) (t := 2) (by decide +kernel) (by decide +kernel) (by decide +kernel) R_66 f0 (fx_k (c := 13) R_66 (by decide +kernel)) fun v_71 f_72 => ?_
    have f_73 := q_is_eq (b := 128) f_72 (fx_v R_66 (by decide +kernel)).symm
    refine go_aload_n (n := 0) (by decide +kernel) l0 f0 ?_
    obtain ⟨x_77, e_78, h⟩ := lx_s h
    refine go_getf (x := 655) (ci := 13) (kf := 69) (fin := 0) (t := 0) (by decide +kernel) (by decide +kernel) (by decide +kernel) R_66 f0 (fx_k (c := 13) R_66 (by decide +kernel)) fun v_74 f_75 => ?_
    have f_76 := q_is_eq f_75 e_78
    refine go_iload_n (n := 1) (by decide +kernel) l1 f1 ?_
    obtain ⟨g_79, h⟩ := gd_s h
    obtain ⟨m_80, e_81, h⟩ := up_s h
    refine go_iast (kd := 100) (by decide +kernel) rfl R_66 f_73 f_76 f1 (fx_k (c := 100) R_66 (by decide +kernel)) (fx_x (a := 128) (ln := 4) R_66 (by decide +kernel) g_79) e_81 (fx_a R_66.2 (fx_k (c := 100) R_66 (by decide +kernel)) (And.left (fx_x (a := 128) (ln := 4) R_66 (by decide +kernel) g_79)) (by decide +kernel)) fun S_82 R_83 E_84 => ?_
    have E_85 := Ext.tr E_69 E_84
    refine go_aload_n (n := 0) (by decide +kernel) l0 f0 ?_
    refine go_getf (x := 201) (ci := 13) (kf := 71) (fin := 1) (t := 2) (by decide +kernel) (by decide +kernel) (by decide +kernel) R_83 f0 (fx_k (c := 13) R_83 (by decide +kernel)) fun v_86 f_87 => ?_
    have f_88 := q_is_eq (b := 129) f_87 (fx_v R_83 (by decide +kernel)).symm
    refine go_aload_n (n := 0) (by decide +kernel) l0 f0 ?_
    obtain ⟨x_92, e_93, h⟩ := lx_s h
    refine go_getf (x := 655) (ci := 13) (kf := 69) (fin := 0) (t := 0) (by decide +kernel) (by decide +kernel) (by decide +kernel) R_83 f0 (fx_k (c := 13) R_83 (by decide +kernel)) fun v_89 f_90 => ?_
    have f_91 := q_is_eq f_90 e_93
    refine go_iload_n (n := 2) (by decide +kernel) l2 f2 ?_
    obtain ⟨g_94, h⟩ := gd_s h
    obtain ⟨m_95, e_96, h⟩ := up_s h
    refine go_iast (kd := 100) (by decide +kernel) rfl R_83 f_88 f_91 f2 (fx_k (c := 100) R_83 (by decide +kernel)) (fx_x (a := 129) (ln := 4) R_83 (by decide +kernel) g_94) e_96 (fx_a R_83.2 (fx_k (c := 100) R_83 (by decide +kernel)) (And.left (fx_x (a := 129) (ln := 4) R_83 (by decide +kernel) g_94)) (by decide +kernel)) fun S_97 R_98 E_99 => ?_
    have E_100 := Ext.tr E_85 E_99
    refine go_aload_n (n := 0) (by decide +kernel) l0 f0 ?_
    refine go_getf (x := 204) (ci := 13) (kf := 72) (fin := 1) (t := 2) (by decide +kernel) (by decide +kernel) (by decide +kernel) R_98 f0 (fx_k (c := 13) R_98 (by decide +kernel)) fun v_101 f_102 => ?_
    have f_103 := q_is_eq (b := 130) f_102 (fx_v R_98 (by decide +kernel)).symm
    refine go_aload_n (n := 0) (by decide +kernel) l0 f0 ?_
    obtain ⟨x_107, e_108, h⟩ := lx_s h
    refine go_getf (x := 655) (ci := 13) (kf := 69) (fin := 0) (t := 0) (by decide +kernel) (by decide +kernel) (by decide +kernel) R_98 f0 (fx_k (c := 13) R_98 (by decide +kernel)) fun v_104 f_105 => ?_
    have f_106 := q_is_eq f_105 e_108
    refine go_iload_n (n := 3) (by decide +kernel) l3 f3 ?_
    obtain ⟨g_109, h⟩ := gd_s h
    obtain ⟨m_110, e_111, h⟩ := up_s h
    refine go_iast (kd := 100) (by decide +kernel) rfl R_98 f_103 f_106 f3 (fx_k (c := 100) R_98 (by decide +kernel)) (fx_x (a := 130) (ln := 4) R_98 (by decide +kernel) g_109) e_111 (fx_a R_98.2 (fx_k (c := 100) R_98 (by decide +kernel)) (And.left (fx_x (a := 130) (ln := 4) R_98 (by decide +kernel) g_109)) (by decide +kernel)) fun S_112 R_113 E_114 => ?_
    have E_115 := Ext.tr E_100 E_114
    refine go_aload_n (n := 0) (by decide +kernel) l0 f0 ?_
    refine go_getf (x := 207) (ci := 13) (kf := 73) (fin := 1) (t := 2) (by decide +kernel) (by decide +kernel) (by decide +kernel) R_113 f0 (fx_k (c := 13) R_113 (by decide +kernel)) fun v_116 f_117 => ?_
    have f_118 := q_is_eq (b := 131) f_117 (fx_v R_113 (by decide +kernel)).symm
    refine go_aload_n (n := 0) (by decide +kernel) l0 f0 ?_
    obtain ⟨x_122, e_123, h⟩ := lx_s h
    refine go_getf (x := 655) (ci := 13) (kf := 69) (fin := 0) (t := 0) (by decide +kernel) (by decide +kernel) (by decide +kernel) R_113 f0 (fx_k (c := 13) R_113 (by decide +kernel)) fun v_119 f_120 => ?_
    have f_121 := q_is_eq f_120 e_123
    refine go_iload (n := 4) (by decide +kernel) l4 f4 ?_
    obtain ⟨g_124, h⟩ := gd_s h
    obtain ⟨m_125, e_126, h⟩ := up_s h
    refine go_iast (kd := 100) (by decide +kernel) rfl R_113 f_118 f_121 f4 (fx_k (c := 100) R_113 (by decide +kernel)) (fx_x (a := 131) (ln := 4) R_113 (by decide +kernel) g_124) e_126 (fx_a R_113.2 (fx_k (c := 100) R_113 (by decide +kernel)) (And.left (fx_x (a := 131) (ln := 4) R_113 (by decide +kernel) g_124)) (by decide +kernel)) fun S_127 R_128 E_129 => ?_
    have E_130 := Ext.tr E_115 E_129
    refine go_aload_n (n := 0) (by decide +kernel) l0 f0 ?_
    refine go_getf (x := 210) (ci := 13) (kf := 74) (fin := 1) (t := 2) (by decide +kernel) (by decide +kernel) (by decide +kernel) R_128 f0 (fx_k (c := 13) R_128 (by decide +kernel)) fun v_131 f_132 => ?_
    have f_133 := q_is_eq (b := 132) f_132 (fx_v R_128 (by decide +kernel)).symm
    refine go_aload_n (n := 0) (by decide +kernel) l0 f0 ?_
    obtain ⟨x_137, e_138, h⟩ := lx_s h
    refine go_getf (x := 655) (ci := 13) (kf := 69) (fin := 0) (t := 0) (by decide +kernel) (by decide +kernel) (by decide +kernel) R_128 f0 (fx_k (c := 13) R_128 (by decide +kernel)) fun v_134 f_135 => ?_
    have f_136 := q_is_eq f_135 e_138
    refine go_aload_n (n := 0) (by decide +kernel) l0 f0 ?_
    obtain ⟨x_142, e_143, h⟩ := lx_s h
    refine go_getf (x := 357) (ci := 13) (kf := 0) (fin := 0) (t := 0) (by decide +kernel) (by decide +kernel) (by decide +kernel) R_128 f0 (fx_k (c := 13) R_128 (by decide +kernel)) fun v_139 f_140 => ?_
    have f_141 := q_is_eq f_140 e_143
    refine go_aload_n (n := 0) (by decide +kernel) l0 f0 ?_
    obtain ⟨x_147, e_148, h⟩ := lx_s h
    refine go_getf (x := 691) (ci := 13) (kf := 68) (fin := 0) (t := 0) (by decide +kernel) (by decide +kernel) (by decide +kernel) R_128 f0 (fx_k (c := 13) R_128 (by decide +kernel)) fun v_144 f_145 => ?_
    have f_146 := q_is_eq f_145 e_148
    refine go_iadd (by decide +kernel) f_141 f_146 fun v_149 f_150 => ?_
    obtain ⟨g_151, h⟩ := gd_s h
    obtain ⟨m_152, e_153, h⟩ := up_s h
    refine go_iast (kd := 100) (by decide +kernel) rfl R_128 f_133 f_136 f_150 (fx_k (c := 100) R_128 (by decide +kernel)) (fx_x (a := 132) (ln := 4) R_128 (by decide +kernel) g_151) e_153 (fx_a R_128.2 (fx_k (c := 100) R_128 (by decide +kernel)) (And.left (fx_x (a := 132) (ln := 4) R_128 (by decide +kernel) g_151)) (by decide +kernel)) fun S_154 R_155 E_156 => ?_
    have E_157 := Ext.tr E_130 E_156
    refine go_aload_n (n := 0) (by decide +kernel) l0 f0 ?_
    refine go_dup (by decide +kernel) f0 (Or.inr rfl) ?_
    obtain ⟨x_161, e_162, h⟩ := lx_s h
    refine go_getf (x := 655) (ci := 13) (kf := 69) (fin := 0) (t := 0) (by decide +kernel) (by decide +kernel) (by decide +kernel) R_155 f0 (fx_k (c := 13) R_155 (by decide +kernel)) fun v_158 f_159 => ?_
    have f_160 := q_is_eq f_159 e_162
    refine go_iconst (n := 1) (z := 1) (by decide +kernel) (by decide) fun v_163 f_164 => ?_
    refine go_iadd (by decide +kernel) f_160 f_164 fun v_165 f_166 => ?_
    obtain ⟨m_167, e_168, h⟩ := up_s h
    refine go_putf (x := 655) (ci := 13) (kf := 69) (fin := 0) (zt := 0) (by decide +kernel) (by decide +kernel) (by decide) (by decide +kernel) (by decide) (Or.inl rfl) R_155 f0 f_166 (fun hq => absurd hq (by decide)) (fx_k (c := 13) R_155 (by decide +kernel)) e_168 (fx_f (j := 69) R_155.2 (fx_k (c := 13) R_155 (by decide +kernel)) (by decide +kernel)) fun S_169 R_170 E_171 => ?_
    have E_172 := Ext.tr E_157 E_171
    refine go_aload_n (n := 0) (by decide +kernel) l0 f0 ?_
    obtain ⟨x_176, e_177, h⟩ := lx_s h
    refine go_getf (x := 655) (ci := 13) (kf := 69) (fin := 0) (t := 0) (by decide +kernel) (by decide +kernel) (by decide +kernel) R_170 f0 (fx_k (c := 13) R_170 (by decide +kernel)) fun v_173 f_174 => ?_
    have f_175 := q_is_eq f_174 e_177
    refine go_iconst (n := 1) (z := 1) (by decide +kernel) (by decide) fun v_178 f_179 => ?_
    refine go_isub (by decide +kernel) f_175 f_179 fun v_180 f_181 => ?_
    cases h
    exact go_iret (by decide +kernel) rfl (Or.inl rfl) f_181 (hQ E_172 _ _ R_170 (q_out_v (by decide) f_181))
  · have h := it_f hp_70 h
    refine go_iconst (n := 0) (z := 0) (by decide +kernel) (by decide) fun v_182 f_183 => ?_
    cases h
    exact go_iret (by decide +kernel) rfl (Or.inl rfl) f_183 (hQ E_69 _ _ R_66 (q_out_v (by decide) f_183))
noncomputable def fj_X12_schedule_46 (y1 y2 y3 y4 y5 s0 : Int) (m : MM) : Option (Int × MM) := if y5 = 0 then
fj_X12_schedule_89 y1 y2 y3 y4 1 m
else
if s0 = 0 then
fj_X12_schedule_89 y1 y2 y3 y4 2 m
else
gd (0 ≤ y1 ∧ y1 < 4) <| lx (m 69 y1) fun x_55 =>
if x_55 = 0 then
fj_X12_schedule_89 y1 y2 y3 y4 3 m
else
lx (m 68 69) fun x_187 =>
if x_187 = 4 then
fj_X12_schedule_89 y1 y2 y3 y4 3 m
else
fj_X12_schedule_89 y1 y2 y3 y4 0 m
set_option maxHeartbeats 4000000 in
theorem oj_X12_schedule_46 {xs : List Int32} {d : Nat} {S : QS} {L : QL} {Q : QO → QS → Prop} {m : MM} {y1 y2 y3 y4 y5 s0 : Int} {v0 : Value} {v1 : Value} {v2 : Value} {v3 : Value} {v4 : Value} {v5 : Value} {w0 : Value}  {rz : Int} {rm : MM}
  (hd : 2 ≤ d) (R : Rp S m) (l0 : q_lo L 0 = some v0) (f0 : q_is 2 v0 68) (l1 : q_lo L 1 = some v1) (f1 : q_is 0 v1 y1) (l2 : q_lo L 2 = some v2) (f2 : q_is 0 v2 y2) (l3 : q_lo L 3 = some v3) (f3 : q_is 0 v3 y3) (l4 : q_lo L 4 = some v4) (f4 : q_is 0 v4 y4) (l5 : q_lo L 5 = some v5) (f5 : q_is 0 v5 y5) (fs0 : q_is 0 w0 s0)
  (hQ : Ext m rm → ∀ o S1, Rp S1 rm → q_out 0 o rz → Q o S1)
  (h : fj_X12_schedule_46 y1 y2 y3 y4 y5 s0 m = some (rz, rm)) : Go xs d qM_X12_schedule 46 L [w0] S Q := by
  unfold fj_X12_schedule_46 at h
  refine go_istore (n := 6) (by decide +kernel) (by decide +kernel) fs0 fun L_37 l_38 kp_39 => ?_
  have l_40 := kp_39 0 _ l0 (by decide) (Or.inl (by decide))
  have l_41 := kp_39 1 _ l1 (by decide) (Or.inl (by decide))
  have l_42 := kp_39 2 _ l2 (by decide) (Or.inl (by decide))
  have l_43 := kp_39 3 _ l3 (by decide) (Or.inl (by decide))
  have l_44 := kp_39 4 _ l4 (by decide) (Or.inl (by decide))
  have l_45 := kp_39 5 _ l5 (by decide) (Or.inr (q_is_cat f5 (Or.inl rfl)))
  refine go_aload_n (n := 0) (by decide +kernel) l_40 f0 ?_
  refine go_iload (n := 5) (by decide +kernel) l_45 f5 ?_
  refine go_if (c := .ne) (o := 7) (t := 58) (P := ¬ (y5 = 0)) (by decide +kernel) (by decide +kernel) f5 (Iff.rfl) (fun hp_46 => ?_) (fun hp_46 => ?_)
  · have h := it_f hp_46 h
    refine go_iload (n := 6) (by decide +kernel) l_38 fs0 ?_
    refine go_if (c := .ne) (o := 7) (t := 67) (P := ¬ (s0 = 0)) (by decide +kernel) (by decide +kernel) fs0 (Iff.rfl) (fun hp_47 => ?_) (fun hp_47 => ?_)
    · have h := it_f hp_47 h
      refine go_aload_n (n := 0) (by decide +kernel) l_40 f0 ?_
      refine go_getf (x := 7) (ci := 13) (kf := 1) (fin := 1) (t := 2) (by decide +kernel) (by decide +kernel) (by decide +kernel) R f0 (fx_k (c := 13) R (by decide +kernel)) fun v_48 f_49 => ?_
      have f_50 := q_is_eq (b := 69) f_49 (fx_v R (by decide +kernel)).symm
      refine go_iload_n (n := 1) (by decide +kernel) l_41 f1 ?_
      obtain ⟨g_53, h⟩ := gd_s h
      obtain ⟨x_55, e_56, h⟩ := lx_s h
      refine go_iald (kd := 100) (by decide +kernel) rfl R f_50 f1 (fx_k (c := 100) R (by decide +kernel)) (fx_x (a := 69) (ln := 4) R (by decide +kernel) g_53) fun v_51 f_52 => ?_
      have f_54 := q_is_eq f_52 e_56
      refine go_if (c := .eq) (o := 11) (t := 84) (P := x_55 = 0) (by decide +kernel) (by decide +kernel) f_54 (Iff.rfl) (fun hp_57 => ?_) (fun hp_57 => ?_)
      · have h := it_t hp_57 h
        refine go_iconst (n := 3) (z := 3) (by decide +kernel) (by decide) fun v_58 f_59 => ?_
        refine go_goto (o := 4) (t := 89) (by decide +kernel) (by decide +kernel) ?_
        exact oj_X12_schedule_89 hd R l_40 f0 l_41 f1 l_42 f2 l_43 f3 l_44 f4 f_59 f0 hQ h
      · have h := it_f hp_57 h
        refine go_aload_n (n := 0) (by decide +kernel) l_40 f0 ?_
        obtain ⟨x_187, e_188, h⟩ := lx_s h
        refine go_getf (x := 655) (ci := 13) (kf := 69) (fin := 0) (t := 0) (by decide +kernel) (by decide +kernel) (by decide +kernel) R f0 (fx_k (c := 13) R (by decide +kernel)) fun v_184 f_185 => ?_
        have f_186 := q_is_eq f_185 e_188
        refine go_iconst (n := 4) (z := 4) (by decide +kernel) (by decide) fun v_189 f_190 => ?_
        refine go_icmp (c := .ne) (o := 7) (t := 88) (P := ¬ (x_187 = 4)) (by decide +kernel) (by decide +kernel) f_186 f_190 (Iff.rfl) (fun hp_191 => ?_) (fun hp_191 => ?_)
        · have h := it_f hp_191 h
          refine go_iconst (n := 0) (z := 0) (by decide +kernel) (by decide) fun v_192 f_193 => ?_
          exact oj_X12_schedule_89 hd R l_40 f0 l_41 f1 l_42 f2 l_43 f3 l_44 f4 f_193 f0 hQ h
        · have h := it_n hp_191 h
          refine go_iconst (n := 3) (z := 3) (by decide +kernel) (by decide) fun v_194 f_195 => ?_
          refine go_goto (o := 4) (t := 89) (by decide +kernel) (by decide +kernel) ?_
          exact oj_X12_schedule_89 hd R l_40 f0 l_41 f1 l_42 f2 l_43 f3 l_44 f4 f_195 f0 hQ h
    · have h := it_n hp_47 h
      refine go_iconst (n := 2) (z := 2) (by decide +kernel) (by decide) fun v_196 f_197 => ?_
      refine go_goto (o := 25) (t := 89) (by decide +kernel) (by decide +kernel) ?_
      exact oj_X12_schedule_89 hd R l_40 f0 l_41 f1 l_42 f2 l_43 f3 l_44 f4 f_197 f0 hQ h
  · have h := it_n hp_46 h
    refine go_iconst (n := 1) (z := 1) (by decide +kernel) (by decide) fun v_198 f_199 => ?_
    refine go_goto (o := 34) (t := 89) (by decide +kernel) (by decide +kernel) ?_
    exact oj_X12_schedule_89 hd R l_40 f0 l_41 f1 l_42 f2 l_43 f3 l_44 f4 f_199 f0 hQ h
noncomputable def fj_X12_schedule_19 (y1 y2 y3 y4 s0 : Int) (m : MM) : Option (Int × MM) := bp (fm_X12_isIn y3 1 50 m) fun x_26 =>
if x_26 = 0 then
fj_X12_schedule_46 y1 y2 y3 y4 s0 0 m
else
bp (fm_X12_isIn y4 0 3 m) fun x_205 =>
if x_205 = 0 then
fj_X12_schedule_46 y1 y2 y3 y4 s0 0 m
else
fj_X12_schedule_46 y1 y2 y3 y4 s0 1 m
set_option maxHeartbeats 4000000 in
theorem oj_X12_schedule_19 {xs : List Int32} {d : Nat} {S : QS} {L : QL} {Q : QO → QS → Prop} {m : MM} {y1 y2 y3 y4 s0 : Int} {v0 : Value} {v1 : Value} {v2 : Value} {v3 : Value} {v4 : Value} {w0 : Value}  {rz : Int} {rm : MM}
  (hd : 2 ≤ d) (R : Rp S m) (l0 : q_lo L 0 = some v0) (f0 : q_is 2 v0 68) (l1 : q_lo L 1 = some v1) (f1 : q_is 0 v1 y1) (l2 : q_lo L 2 = some v2) (f2 : q_is 0 v2 y2) (l3 : q_lo L 3 = some v3) (f3 : q_is 0 v3 y3) (l4 : q_lo L 4 = some v4) (f4 : q_is 0 v4 y4) (fs0 : q_is 0 w0 s0)
  (hQ : Ext m rm → ∀ o S1, Rp S1 rm → q_out 0 o rz → Q o S1)
  (h : fj_X12_schedule_19 y1 y2 y3 y4 s0 m = some (rz, rm)) : Go xs d qM_X12_schedule 19 L [w0] S Q := by
  unfold fj_X12_schedule_19 at h
  refine go_istore (n := 5) (by decide +kernel) (by decide +kernel) fs0 fun L_13 l_14 kp_15 => ?_
  have l_16 := kp_15 0 _ l0 (by decide) (Or.inl (by decide))
  have l_17 := kp_15 1 _ l1 (by decide) (Or.inl (by decide))
  have l_18 := kp_15 2 _ l2 (by decide) (Or.inl (by decide))
  have l_19 := kp_15 3 _ l3 (by decide) (Or.inl (by decide))
  have l_20 := kp_15 4 _ l4 (by decide) (Or.inr (q_is_cat f4 (Or.inl rfl)))
  refine go_iload_n (n := 3) (by decide +kernel) l_19 f3 ?_
  refine go_iconst (n := 1) (z := 1) (by decide +kernel) (by decide) fun v_21 f_22 => ?_
  refine go_bipush (n := 50) (z := 50) (by decide +kernel) (by decide) fun v_23 f_24 => ?_
  obtain ⟨x_26, hc_25, h⟩ := bp_s h
  refine go_callS (x := 306) (mi := 188) (n := 3) (b := 0) (as := [v3, v_21, v_23]) (rest := []) (by decide +kernel) (by decide +kernel) rfl rfl (q_sum8 _ (Nat.le_of_ble_eq_true rfl)) (om_X12_isIn (Nat.le_trans (by decide) hd) R f3 f_22 f_24 hc_25) (fun _ S_30 q_33 => ?_) (fun _ _ qq => kr_x qq)
  refine kr_z (by decide) q_33 fun v_28 f_29 R_31 E_32 => ?_
  refine go_if (c := .eq) (o := 17) (t := 45) (P := x_26 = 0) (by decide +kernel) (by decide +kernel) f_29 (Iff.rfl) (fun hp_34 => ?_) (fun hp_34 => ?_)
  · have h := it_t hp_34 h
    refine go_iconst (n := 0) (z := 0) (by decide +kernel) (by decide) fun v_35 f_36 => ?_
    exact oj_X12_schedule_46 hd R_31 l_16 f0 l_17 f1 l_18 f2 l_19 f3 l_20 f4 l_14 fs0 f_36 hQ h
  · have h := it_f hp_34 h
    refine go_iload (n := 4) (by decide +kernel) l_20 f4 ?_
    refine go_iconst (n := 0) (z := 0) (by decide +kernel) (by decide) fun v_200 f_201 => ?_
    refine go_iconst (n := 3) (z := 3) (by decide +kernel) (by decide) fun v_202 f_203 => ?_
    obtain ⟨x_205, hc_204, h⟩ := bp_s h
    refine go_callS (x := 306) (mi := 188) (n := 3) (b := 0) (as := [v4, v_200, v_202]) (rest := []) (by decide +kernel) (by decide +kernel) rfl rfl (q_sum8 _ (Nat.le_of_ble_eq_true rfl)) (om_X12_isIn (Nat.le_trans (by decide) hd) R_31 f4 f_201 f_203 hc_204) (fun _ S_209 q_212 => ?_) (fun _ _ qq => kr_x qq)
    refine kr_z (by decide) q_212 fun v_207 f_208 R_210 E_211 => ?_
    refine go_if (c := .eq) (o := 7) (t := 45) (P := x_205 = 0) (by decide +kernel) (by decide +kernel) f_208 (Iff.rfl) (fun hp_213 => ?_) (fun hp_213 => ?_)
    · have h := it_t hp_213 h
      refine go_iconst (n := 0) (z := 0) (by decide +kernel) (by decide) fun v_214 f_215 => ?_
      exact oj_X12_schedule_46 hd R_210 l_16 f0 l_17 f1 l_18 f2 l_19 f3 l_20 f4 l_14 fs0 f_215 hQ h
    · have h := it_f hp_213 h
      refine go_iconst (n := 1) (z := 1) (by decide +kernel) (by decide) fun v_216 f_217 => ?_
      refine go_goto (o := 4) (t := 46) (by decide +kernel) (by decide +kernel) ?_
      exact oj_X12_schedule_46 hd R_210 l_16 f0 l_17 f1 l_18 f2 l_19 f3 l_20 f4 l_14 fs0 f_217 hQ h
noncomputable def fm_X12_schedule (p1 p2 p3 p4 : Int) (m0 : MM) : Option (Int × MM) := bp (fm_X12_isType p1 m0) fun x_2 =>
if x_2 = 0 then
fj_X12_schedule_19 p1 p2 p3 p4 0 m0
else
bp (fm_X12_isTenant p2 m0) fun x_219 =>
if x_219 = 0 then
fj_X12_schedule_19 p1 p2 p3 p4 0 m0
else
fj_X12_schedule_19 p1 p2 p3 p4 1 m0
set_option maxHeartbeats 4000000 in
theorem om_X12_schedule {xs : List Int32} {d : Nat} {S : QS} {m0 : MM} {p1 p2 p3 p4 : Int} {v0 : Value} {v1 : Value} {v2 : Value} {v3 : Value} {v4 : Value} {rz : Int} {rm : MM}
  (hd : 3 ≤ d) (R : Rp S m0) (f0 : q_is 2 v0 68) (f1 : q_is 0 v1 p1) (f2 : q_is 0 v2 p2) (f3 : q_is 0 v3 p3) (f4 : q_is 0 v4 p4)
  (h : fm_X12_schedule p1 p2 p3 p4 m0 = some (rz, rm)) : Mt xs d 307 [v0, v1, v2, v3, v4] S (Cr 0 m0 rm rz) := by
  obtain ⟨d, rfl⟩ : ∃ e, d = e + 1 := ⟨d - 1, by omega⟩
  have hd : 2 ≤ d := Nat.le_of_succ_le_succ hd
  refine Mt.of (M := qM_X12_schedule) rfl (by rw [sl_1 (q_is_cat f0 (Or.inr rfl)), sl_1 (q_is_cat f1 (Or.inl rfl)), sl_1 (q_is_cat f2 (Or.inl rfl)), sl_1 (q_is_cat f3 (Or.inl rfl)), sl_1 (q_is_cat f4 (Or.inl rfl)), sl_0]; decide) ?_
  rw [la_1 (q_is_cat f0 (Or.inr rfl)), la_1 (q_is_cat f1 (Or.inl rfl)), la_1 (q_is_cat f2 (Or.inl rfl)), la_1 (q_is_cat f3 (Or.inl rfl)), la_1 (q_is_cat f4 (Or.inl rfl)), la_0]
  obtain ⟨L, hL⟩ : ∃ L : QL, L = [(0, v0), (0 + 1, v1), (0 + 1 + 1, v2), (0 + 1 + 1 + 1, v3), (0 + 1 + 1 + 1 + 1, v4)] := ⟨_, rfl⟩
  rw [← hL]
  have l0 : q_lo L 0 = some v0 := by rw [hL]; rfl
  have l1 : q_lo L 1 = some v1 := by rw [hL]; rfl
  have l2 : q_lo L 2 = some v2 := by rw [hL]; rfl
  have l3 : q_lo L 3 = some v3 := by rw [hL]; rfl
  have l4 : q_lo L 4 = some v4 := by rw [hL]; rfl
  have hQ : Ext m0 rm → ∀ o S1, Rp S1 rm → q_out 0 o rz → (Cr 0 m0 rm rz) o S1 := fun a o S1 b e => ⟨b, a, e⟩
  unfold fm_X12_schedule at h
  refine go_iload_n (n := 1) (by decide +kernel) l1 f1 ?_
  obtain ⟨x_2, hc_1, h⟩ := bp_s h
  refine go_callS (x := 313) (mi := 191) (n := 1) (b := 0) (as := [v1]) (rest := []) (by decide +kernel) (by decide +kernel) rfl rfl (q_sum8 _ (Nat.le_of_ble_eq_true rfl)) (om_X12_isType (Nat.le_trans (by decide) hd) R f1 hc_1) (fun _ S_6 q_9 => ?_) (fun _ _ qq => kr_x qq)
  refine kr_z (by decide) q_9 fun v_4 f_5 R_7 E_8 => ?_
  refine go_if (c := .eq) (o := 14) (t := 18) (P := x_2 = 0) (by decide +kernel) (by decide +kernel) f_5 (Iff.rfl) (fun hp_10 => ?_) (fun hp_10 => ?_)
  · have h := it_t hp_10 h
    refine go_iconst (n := 0) (z := 0) (by decide +kernel) (by decide) fun v_11 f_12 => ?_
    exact oj_X12_schedule_19 hd R_7 l0 f0 l1 f1 l2 f2 l3 f3 l4 f4 f_12 hQ h
  · have h := it_f hp_10 h
    refine go_iload_n (n := 2) (by decide +kernel) l2 f2 ?_
    obtain ⟨x_219, hc_218, h⟩ := bp_s h
    refine go_callS (x := 570) (mi := 192) (n := 1) (b := 0) (as := [v2]) (rest := []) (by decide +kernel) (by decide +kernel) rfl rfl (q_sum8 _ (Nat.le_of_ble_eq_true rfl)) (om_X12_isTenant (Nat.le_trans (by decide) hd) R_7 f2 hc_218) (fun _ S_223 q_226 => ?_) (fun _ _ qq => kr_x qq)
    refine kr_z (by decide) q_226 fun v_221 f_222 R_224 E_225 => ?_
    refine go_if (c := .eq) (o := 7) (t := 18) (P := x_219 = 0) (by decide +kernel) (by decide +kernel) f_222 (Iff.rfl) (fun hp_227 => ?_) (fun hp_227 => ?_)
    · have h := it_t hp_227 h
      refine go_iconst (n := 0) (z := 0) (by decide +kernel) (by decide) fun v_228 f_229 => ?_
      exact oj_X12_schedule_19 hd R_224 l0 f0 l1 f1 l2 f2 l3 f3 l4 f4 f_229 hQ h
    · have h := it_f hp_227 h
      refine go_iconst (n := 1) (z := 1) (by decide +kernel) (by decide) fun v_230 f_231 => ?_
      refine go_goto (o := 4) (t := 19) (by decide +kernel) (by decide +kernel) ?_
      exact oj_X12_schedule_19 hd R_224 l0 f0 l1 f1 l2 f2 l3 f3 l4 f4 f_231 hQ h
end DF46
