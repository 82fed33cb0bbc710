/-! Methods as functions (written by wip/whole/dec.py), 9: X4_goOn, X4_passTasks, X4_follow. -/
section DF9
noncomputable def fj_X4_goOn_219 (c : Int → Int → MM → Option (Int × MM)) (y2 : Int) (m : MM) : Option (Int × MM) := bp (fm_X8_firstAble m) fun x_159 =>
lx (w32 (y2 + 1)) fun x_177 =>
c x_159 x_177 m
set_option maxHeartbeats 4000000 in
theorem oj_X4_goOn_219 {xs : List Int32} {d : Nat} {S : QS} {L : QL} {Q : QO → QS → Prop} {m : MM} {y2 : Int} {v0 : Value} {v2 : Value}  {rz : Int} {rm : MM} {c : Int → Int → MM → Option (Int × MM)} 
  (hd : 5 ≤ d) (R : Rp S m) (l0 : q_lo L 0 = some v0) (f0 : q_is 2 v0 16) (l2 : q_lo L 2 = some v2) (f2 : q_is 0 v2 y2)
  (hc : ∀ mq : MM, Ext m mq → ∀ {z1 : Int} {z2 : Int} {Sq : QS} {Lq : QL} {u0 : Value} {u1 : Value} {u2 : Value}, c z1 z2 mq = some (rz, rm) → Rp Sq mq → q_lo Lq 0 = some u0 → q_is 2 u0 16 → q_lo Lq 1 = some u1 → q_is 2 u1 z1 → q_lo Lq 2 = some u2 → q_is 0 u2 z2 → Go xs d qM_X4_goOn 10 Lq [] Sq Q)
  (hQ : Ext m rm → ∀ o S1, Rp S1 rm → q_out 9 o rz → Q o S1)
  (h : fj_X4_goOn_219 c y2 m = some (rz, rm)) : Go xs d qM_X4_goOn 219 L [] S Q := by
  unfold fj_X4_goOn_219 at h
  refine go_aload_n (n := 0) (by decide +kernel) l0 f0 ?_
  refine go_getf (x := 10) (ci := 5) (kf := 0) (fin := 1) (t := 2) (by decide +kernel) (by decide +kernel) (by decide +kernel) R f0 (fx_k (c := 5) R (by decide +kernel)) fun v_155 f_156 => ?_
  have f_157 := q_is_eq (b := 17) f_156 (fx_v R (by decide +kernel)).symm
  obtain ⟨x_159, hc_158, h⟩ := bp_s h
  refine go_callV (x := 238) (mi := 88) (n := 0) (ci := 9) (as := []) (rest := []) (by decide +kernel) (by decide +kernel) rfl rfl (q_sum8 _ (Nat.le_of_ble_eq_true rfl)) R f_157 (fx_k (c := 9) R (by decide +kernel)) (om_X8_firstAble (Nat.le_trans (by decide) hd) R f_157 hc_158) (fun _ S_163 q_166 => ?_) (fun _ _ qq => kr_x qq)
  refine kr_z (by decide) q_166 fun v_161 f_162 R_164 E_165 => ?_
  refine go_astore_n (n := 1) (by decide +kernel) (by decide +kernel) f_162 fun L_167 l_168 kp_169 => ?_
  have l_170 := kp_169 0 _ l0 (by decide) (Or.inr (q_is_cat f0 (Or.inr rfl)))
  have l_171 := kp_169 2 _ l2 (by decide) (Or.inl (by decide))
  refine go_iinc (n := 2) (c := 1) (c' := 1) (by decide +kernel) (by decide +kernel) l_171 f2 (by decide) fun L_172 v_173 f_174 l_175 kp_176 => ?_
  obtain ⟨x_177, e_178, h⟩ := lx_s h
  have f_179 := q_is_eq f_174 e_178
  have l_180 := kp_176 0 _ l_170 (by decide) (Or.inl (by decide))
  have l_181 := kp_176 1 _ l_168 (by decide) (Or.inr (q_is_cat f_162 (Or.inr rfl)))
  refine go_goto (o := (-220)) (t := 10) (by decide +kernel) (by decide +kernel) ?_
  exact hc m (Ext.rf _) h R_164 l_180 f0 l_181 f_162 l_175 f_179
noncomputable def fl_X4_goOn_10 : Nat → Int → Int → MM → Option (Int × MM)
  | 0, _, _, _ => none
  | n + 1, y1, y2, m => if y2 < 1000 then
if y1 = 0 then
some (0, m)
else
bp (fm_X4_goes m) fun x_29 =>
if x_29 = 0 then
some (0, m)
else
gd (okc m y1 2) <| lx (m y1 7) fun x_42 =>
if x_42 = 0 then
lx (m y1 4) fun x_48 =>
lx (m 16 3) fun x_53 =>
gd (okc m x_53 6) <| lx (m x_53 2) fun x_59 =>
if x_48 < x_59 then
lx (m 16 9) fun x_65 =>
if x_65 < 60 then
up m 16 9 (w32 (x_65 + 1)) fun m_77 =>
lx (m_77 16 3) fun x_86 =>
lx (m_77 y1 4) fun x_92 =>
gd (okc m_77 x_86 6) <| bp (fm_X5_at x_86 x_92 m_77) fun x_96 =>
lx (w32 (Int.tdiv x_96 1000000)) fun x_114 =>
if 7 < x_114 then
if 13 < x_114 then
if 18 < x_114 then
bd (fm_X4_doOtherLine y1 x_114 (Int.tmod (w32 (Int.tdiv x_96 1000)) 1000) (Int.tmod x_96 1000) m_77) fun x_146 m_147 =>
fj_X4_goOn_219 (fl_X4_goOn_10 n) y2 m_147
else
bd (fm_X4_doEndingLine y1 x_114 (Int.tmod (w32 (Int.tdiv x_96 1000)) 1000) (Int.tmod x_96 1000) m_77) fun x_195 m_196 =>
fj_X4_goOn_219 (fl_X4_goOn_10 n) y2 m_196
else
bd (fm_X4_doBranchLine y1 x_114 (Int.tmod (w32 (Int.tdiv x_96 1000)) 1000) m_77) fun x_213 m_214 =>
fj_X4_goOn_219 (fl_X4_goOn_10 n) y2 m_214
else
bd (fm_X4_doPlainLine y1 x_114 (Int.tmod (w32 (Int.tdiv x_96 1000)) 1000) (Int.tmod x_96 1000) m_77) fun x_235 m_236 =>
fj_X4_goOn_219 (fl_X4_goOn_10 n) y2 m_236
else
bd (fm_X4_getStuck (-1) m) fun x_247 m_248 =>
fj_X4_goOn_219 (fl_X4_goOn_10 n) y2 m_248
else
bd (fm_X4_endBranch y1 m) fun x_257 m_258 =>
fj_X4_goOn_219 (fl_X4_goOn_10 n) y2 m_258
else
bd (fm_X4_awake y1 m) fun x_267 m_268 =>
fj_X4_goOn_219 (fl_X4_goOn_10 n) y2 m_268
else
some (0, m)
set_option maxHeartbeats 4000000 in
theorem ol_X4_goOn_10 {xs : List Int32} {d : Nat} {Q : QO → QS → Prop} {mb : MM} {rz : Int} {rm : MM}
  (hd : 5 ≤ d)
  (hQ : Ext mb rm → ∀ o S1, Rp S1 rm → q_out 9 o rz → Q o S1) :
  ∀ (n : Nat) {m : MM} {S : QS} {L : QL} {y1 y2 : Int} {v0 : Value} {v1 : Value} {v2 : Value} , Ext mb m → fl_X4_goOn_10 n y1 y2 m = some (rz, rm) → Rp S m → q_lo L 0 = some v0 → q_is 2 v0 16 → q_lo L 1 = some v1 → q_is 2 v1 y1 → q_lo L 2 = some v2 → q_is 0 v2 y2 → Go xs d qM_X4_goOn 10 L [] S Q := by
  intro n
  induction n with
  | zero => intro m S L y1 y2 v0 v1 v2; intro E h R l0 f0 l1 f1 l2 f2; cases h
  | succ n ih0 =>
    intro m S L y1 y2 v0 v1 v2; intro E h R l0 f0 l1 f1 l2 f2
    have ih : ∀ mq : MM, Ext mb mq → ∀ {z1 : Int} {z2 : Int} {Sq : QS} {Lq : QL} {u0 : Value} {u1 : Value} {u2 : Value}, fl_X4_goOn_10 n z1 z2 mq = some (rz, rm) → Rp Sq mq → q_lo Lq 0 = some u0 → q_is 2 u0 16 → q_lo Lq 1 = some u1 → q_is 2 u1 z1 → q_lo Lq 2 = some u2 → q_is 0 u2 z2 → Go xs d qM_X4_goOn 10 Lq [] Sq Q := fun mq b => by intros; exact ih0 b ‹_› ‹_› ‹_› ‹_› ‹_› ‹_› ‹_› ‹_›
    unfold fl_X4_goOn_10 at h
    refine go_iload_n (n := 2) (by decide +kernel) l2 f2 ?_
    refine go_sipush (n := 1000) (z := 1000) (by decide +kernel) (by decide) fun v_24 f_25 => ?_
    refine go_icmp (c := .ge) (o := 219) (t := 233) (P := ¬ (y2 < 1000)) (by decide +kernel) (by decide +kernel) f2 f_25 (Int.not_lt.symm) (fun hp_26 => ?_) (fun hp_26 => ?_)
    · have h := it_f hp_26 h
      cases h
      exact go_vret (by decide +kernel) rfl (hQ E _ _ R q_out_n)
    · have h := it_n hp_26 h
      refine go_aload_n (n := 1) (by decide +kernel) l1 f1 ?_
      refine go_ifnull (o := 215) (t := 233) (by decide +kernel) (by decide +kernel) f1 (fun hp_27 => ?_) (fun hp_27 => ?_)
      · have h := it_t hp_27 h
        cases h
        exact go_vret (by decide +kernel) rfl (hQ E _ _ R q_out_n)
      · have h := it_f hp_27 h
        refine go_aload_n (n := 0) (by decide +kernel) l0 f0 ?_
        obtain ⟨x_29, hc_28, h⟩ := bp_s h
        refine go_callV (x := 69) (mi := 33) (n := 0) (ci := 5) (as := []) (rest := []) (by decide +kernel) (by decide +kernel) rfl rfl (q_sum8 _ (Nat.le_of_ble_eq_true rfl)) R f0 (fx_k (c := 5) R (by decide +kernel)) (om_X4_goes (Nat.le_trans (by decide) hd) R f0 hc_28) (fun _ S_33 q_36 => ?_) (fun _ _ qq => kr_x qq)
        refine kr_z (by decide) q_36 fun v_31 f_32 R_34 E_35 => ?_
        refine go_if (c := .eq) (o := 208) (t := 233) (P := x_29 = 0) (by decide +kernel) (by decide +kernel) f_32 (Iff.rfl) (fun hp_37 => ?_) (fun hp_37 => ?_)
        · have h := it_t hp_37 h
          cases h
          exact go_vret (by decide +kernel) rfl (hQ E _ _ R_34 q_out_n)
        · have h := it_f hp_37 h
          refine go_aload_n (n := 1) (by decide +kernel) l1 f1 ?_
          obtain ⟨g_40, h⟩ := gd_s h
          obtain ⟨x_42, e_43, h⟩ := lx_s h
          refine go_getf (x := 163) (ci := 2) (kf := 7) (fin := 0) (t := 0) (by decide +kernel) (by decide +kernel) (by decide +kernel) R_34 f1 g_40 fun v_38 f_39 => ?_
          have f_41 := q_is_eq f_39 e_43
          refine go_if (c := .eq) (o := 11) (t := 43) (P := x_42 = 0) (by decide +kernel) (by decide +kernel) f_41 (Iff.rfl) (fun hp_44 => ?_) (fun hp_44 => ?_)
          · have h := it_t hp_44 h
            refine go_aload_n (n := 1) (by decide +kernel) l1 f1 ?_
            obtain ⟨x_48, e_49, h⟩ := lx_s h
            refine go_getf (x := 168) (ci := 2) (kf := 4) (fin := 0) (t := 0) (by decide +kernel) (by decide +kernel) (by decide +kernel) R_34 f1 g_40 fun v_45 f_46 => ?_
            have f_47 := q_is_eq f_46 e_49
            refine go_aload_n (n := 0) (by decide +kernel) l0 f0 ?_
            obtain ⟨x_53, e_54, h⟩ := lx_s h
            refine go_getf (x := 31) (ci := 5) (kf := 3) (fin := 0) (t := 2) (by decide +kernel) (by decide +kernel) (by decide +kernel) R_34 f0 (fx_k (c := 5) R_34 (by decide +kernel)) fun v_50 f_51 => ?_
            have f_52 := q_is_eq f_51 e_54
            obtain ⟨g_57, h⟩ := gd_s h
            obtain ⟨x_59, e_60, h⟩ := lx_s h
            refine go_getf (x := 245) (ci := 6) (kf := 2) (fin := 0) (t := 0) (by decide +kernel) (by decide +kernel) (by decide +kernel) R_34 f_52 g_57 fun v_55 f_56 => ?_
            have f_58 := q_is_eq f_56 e_60
            refine go_icmp (c := .lt) (o := 11) (t := 65) (P := x_48 < x_59) (by decide +kernel) (by decide +kernel) f_47 f_58 (Iff.rfl) (fun hp_61 => ?_) (fun hp_61 => ?_)
            · have h := it_t hp_61 h
              refine go_aload_n (n := 0) (by decide +kernel) l0 f0 ?_
              obtain ⟨x_65, e_66, h⟩ := lx_s h
              refine go_getf (x := 52) (ci := 5) (kf := 9) (fin := 0) (t := 0) (by decide +kernel) (by decide +kernel) (by decide +kernel) R_34 f0 (fx_k (c := 5) R_34 (by decide +kernel)) fun v_62 f_63 => ?_
              have f_64 := q_is_eq f_63 e_66
              refine go_bipush (n := 60) (z := 60) (by decide +kernel) (by decide) fun v_67 f_68 => ?_
              refine go_icmp (c := .lt) (o := 11) (t := 82) (P := x_65 < 60) (by decide +kernel) (by decide +kernel) f_64 f_68 (Iff.rfl) (fun hp_69 => ?_) (fun hp_69 => ?_)
              · have h := it_t hp_69 h
                refine go_aload_n (n := 0) (by decide +kernel) l0 f0 ?_
                refine go_dup (by decide +kernel) f0 (Or.inr rfl) ?_
                refine go_getf (x := 52) (ci := 5) (kf := 9) (fin := 0) (t := 0) (by decide +kernel) (by decide +kernel) (by decide +kernel) R_34 f0 (fx_k (c := 5) R_34 (by decide +kernel)) fun v_70 f_71 => ?_
                have f_72 := q_is_eq f_71 e_66
                refine go_iconst (n := 1) (z := 1) (by decide +kernel) (by decide) fun v_73 f_74 => ?_
                refine go_iadd (by decide +kernel) f_72 f_74 fun v_75 f_76 => ?_
                obtain ⟨m_77, e_78, h⟩ := up_s h
                refine go_putf (x := 52) (ci := 5) (kf := 9) (fin := 0) (zt := 0) (by decide +kernel) (by decide +kernel) (by decide) (by decide +kernel) (by decide) (Or.inl rfl) R_34 f0 f_76 (fun hq => absurd hq (by decide)) (fx_k (c := 5) R_34 (by decide +kernel)) e_78 (fx_f (j := 9) R_34.2 (fx_k (c := 5) R_34 (by decide +kernel)) (by decide +kernel)) fun S_79 R_80 E_81 => ?_
                have E_82 := Ext.tr E E_81
                refine go_aload_n (n := 0) (by decide +kernel) l0 f0 ?_
                obtain ⟨x_86, e_87, h⟩ := lx_s h
                refine go_getf (x := 31) (ci := 5) (kf := 3) (fin := 0) (t := 2) (by decide +kernel) (by decide +kernel) (by decide +kernel) R_80 f0 (fx_k (c := 5) R_80 (by decide +kernel)) fun v_83 f_84 => ?_
                have f_85 := q_is_eq f_84 e_87
                refine go_aload_n (n := 1) (by decide +kernel) l1 f1 ?_
                have g_90 := Ext.ok E_81 g_40
                obtain ⟨x_92, e_93, h⟩ := lx_s h
                refine go_getf (x := 168) (ci := 2) (kf := 4) (fin := 0) (t := 0) (by decide +kernel) (by decide +kernel) (by decide +kernel) R_80 f1 g_90 fun v_88 f_89 => ?_
                have f_91 := q_is_eq f_89 e_93
                obtain ⟨g_94, h⟩ := gd_s h
                obtain ⟨x_96, hc_95, h⟩ := bp_s h
                refine go_callV (x := 174) (mi := 59) (n := 1) (ci := 6) (as := [v_88]) (rest := []) (by decide +kernel) (by decide +kernel) rfl rfl (q_sum8 _ (Nat.le_of_ble_eq_true rfl)) R_80 f_85 g_94 (om_X5_at (Nat.le_trans (by decide) hd) R_80 g_94 f_85 f_91 hc_95) (fun _ S_100 q_103 => ?_) (fun _ _ qq => kr_x qq)
                refine kr_z (by decide) q_103 fun v_98 f_99 R_101 E_102 => ?_
                refine go_istore_n (n := 3) (by decide +kernel) (by decide +kernel) f_99 fun L_104 l_105 kp_106 => ?_
                have l_107 := kp_106 0 _ l0 (by decide) (Or.inl (by decide))
                have l_108 := kp_106 1 _ l1 (by decide) (Or.inl (by decide))
                have l_109 := kp_106 2 _ l2 (by decide) (Or.inr (q_is_cat f2 (Or.inl rfl)))
                refine go_iload_n (n := 3) (by decide +kernel) l_105 f_99 ?_
                refine go_ldc (x := 249) (n := 1000000) (a := 0) (b := 0) (z := 1000000) (by decide +kernel) (by decide +kernel) (by decide +kernel) fun v_110 f_111 => ?_
                refine go_idiv (by decide +kernel) f_99 f_111 (by decide) fun v_112 f_113 => ?_
                obtain ⟨x_114, e_115, h⟩ := lx_s h
                have f_116 := q_is_eq f_113 e_115
                refine go_istore (n := 4) (by decide +kernel) (by decide +kernel) f_116 fun L_117 l_118 kp_119 => ?_
                have l_120 := kp_119 0 _ l_107 (by decide) (Or.inl (by decide))
                have l_121 := kp_119 1 _ l_108 (by decide) (Or.inl (by decide))
                have l_122 := kp_119 2 _ l_109 (by decide) (Or.inl (by decide))
                have l_123 := kp_119 3 _ l_105 (by decide) (Or.inr (q_is_cat f_99 (Or.inl rfl)))
                refine go_iload (n := 4) (by decide +kernel) l_118 f_116 ?_
                refine go_bipush (n := 7) (z := 7) (by decide +kernel) (by decide) fun v_124 f_125 => ?_
                refine go_icmp (c := .gt) (o := 27) (t := 141) (P := 7 < x_114) (by decide +kernel) (by decide +kernel) f_116 f_125 (Iff.rfl) (fun hp_126 => ?_) (fun hp_126 => ?_)
                · have h := it_t hp_126 h
                  refine go_iload (n := 4) (by decide +kernel) l_118 f_116 ?_
                  refine go_bipush (n := 13) (z := 13) (by decide +kernel) (by decide) fun v_127 f_128 => ?_
                  refine go_icmp (c := .gt) (o := 22) (t := 167) (P := 13 < x_114) (by decide +kernel) (by decide +kernel) f_116 f_128 (Iff.rfl) (fun hp_129 => ?_) (fun hp_129 => ?_)
                  · have h := it_t hp_129 h
                    refine go_iload (n := 4) (by decide +kernel) l_118 f_116 ?_
                    refine go_bipush (n := 18) (z := 18) (by decide +kernel) (by decide) fun v_130 f_131 => ?_
                    refine go_icmp (c := .gt) (o := 27) (t := 198) (P := 18 < x_114) (by decide +kernel) (by decide +kernel) f_116 f_131 (Iff.rfl) (fun hp_132 => ?_) (fun hp_132 => ?_)
                    · have h := it_t hp_132 h
                      refine go_aload_n (n := 0) (by decide +kernel) l_120 f0 ?_
                      refine go_aload_n (n := 1) (by decide +kernel) l_121 f1 ?_
                      refine go_iload (n := 4) (by decide +kernel) l_118 f_116 ?_
                      refine go_iload_n (n := 3) (by decide +kernel) l_123 f_99 ?_
                      refine go_sipush (n := 1000) (z := 1000) (by decide +kernel) (by decide) fun v_133 f_134 => ?_
                      refine go_idiv (by decide +kernel) f_99 f_134 (by decide) fun v_135 f_136 => ?_
                      refine go_sipush (n := 1000) (z := 1000) (by decide +kernel) (by decide) fun v_137 f_138 => ?_
                      refine go_irem (by decide +kernel) f_136 f_138 (by decide) fun v_139 f_140 => ?_
                      refine go_iload_n (n := 3) (by decide +kernel) l_123 f_99 ?_
                      refine go_sipush (n := 1000) (z := 1000) (by decide +kernel) (by decide) fun v_141 f_142 => ?_
                      refine go_irem (by decide +kernel) f_99 f_142 (by decide) fun v_143 f_144 => ?_
                      obtain ⟨x_146, m_147, hc_145, h⟩ := bd_s h
                      refine go_callV (x := 260) (mi := 55) (n := 4) (ci := 5) (as := [v1, v_112, v_139, v_143]) (rest := []) (by decide +kernel) (by decide +kernel) rfl rfl (q_sum8 _ (Nat.le_of_ble_eq_true rfl)) R_101 f0 (fx_k (c := 5) R_101 (by decide +kernel)) (om_X4_doOtherLine (Nat.le_trans (by decide) hd) R_101 f0 f1 f_116 f_140 f_144 hc_145) (fun _ S_150 q_153 => ?_) (fun _ _ qq => kr_x qq)
                      refine kr_v q_153 fun R_151 E_152 => ?_
                      have E_154 := Ext.tr E_82 E_152
                      exact oj_X4_goOn_219 hd R_151 l_120 f0 l_122 f2 (fun mq b => ih mq (Ext.tr E_154 b)) (fun b => hQ (Ext.tr E_154 b)) h
                    · have h := it_f hp_132 h
                      refine go_aload_n (n := 0) (by decide +kernel) l_120 f0 ?_
                      refine go_aload_n (n := 1) (by decide +kernel) l_121 f1 ?_
                      refine go_iload (n := 4) (by decide +kernel) l_118 f_116 ?_
                      refine go_iload_n (n := 3) (by decide +kernel) l_123 f_99 ?_
                      refine go_sipush (n := 1000) (z := 1000) (by decide +kernel) (by decide) fun v_182 f_183 => ?_
                      refine go_idiv (by decide +kernel) f_99 f_183 (by decide) fun v_184 f_185 => ?_
                      refine go_sipush (n := 1000) (z := 1000) (by decide +kernel) (by decide) fun v_186 f_187 => ?_
                      refine go_irem (by decide +kernel) f_185 f_187 (by decide) fun v_188 f_189 => ?_
                      refine go_iload_n (n := 3) (by decide +kernel) l_123 f_99 ?_
                      refine go_sipush (n := 1000) (z := 1000) (by decide +kernel) (by decide) fun v_190 f_191 => ?_
                      refine go_irem (by decide +kernel) f_99 f_191 (by decide) fun v_192 f_193 => ?_
                      obtain ⟨x_195, m_196, hc_194, h⟩ := bd_s h
                      refine go_callV (x := 257) (mi := 53) (n := 4) (ci := 5) (as := [v1, v_112, v_188, v_192]) (rest := []) (by decide +kernel) (by decide +kernel) rfl rfl (q_sum8 _ (Nat.le_of_ble_eq_true rfl)) R_101 f0 (fx_k (c := 5) R_101 (by decide +kernel)) (om_X4_doEndingLine (Nat.le_trans (by decide) hd) R_101 f0 f1 f_116 f_189 f_193 hc_194) (fun _ S_199 q_202 => ?_) (fun _ _ qq => kr_x qq)
                      refine kr_v q_202 fun R_200 E_201 => ?_
                      have E_203 := Ext.tr E_82 E_201
                      refine go_goto (o := 24) (t := 219) (by decide +kernel) (by decide +kernel) ?_
                      exact oj_X4_goOn_219 hd R_200 l_120 f0 l_122 f2 (fun mq b => ih mq (Ext.tr E_203 b)) (fun b => hQ (Ext.tr E_203 b)) h
                  · have h := it_f hp_129 h
                    refine go_aload_n (n := 0) (by decide +kernel) l_120 f0 ?_
                    refine go_aload_n (n := 1) (by decide +kernel) l_121 f1 ?_
                    refine go_iload (n := 4) (by decide +kernel) l_118 f_116 ?_
                    refine go_iload_n (n := 3) (by decide +kernel) l_123 f_99 ?_
                    refine go_sipush (n := 1000) (z := 1000) (by decide +kernel) (by decide) fun v_204 f_205 => ?_
                    refine go_idiv (by decide +kernel) f_99 f_205 (by decide) fun v_206 f_207 => ?_
                    refine go_sipush (n := 1000) (z := 1000) (by decide +kernel) (by decide) fun v_208 f_209 => ?_
                    refine go_irem (by decide +kernel) f_207 f_209 (by decide) fun v_210 f_211 => ?_
                    obtain ⟨x_213, m_214, hc_212, h⟩ := bd_s h
                    refine go_callV (x := 254) (mi := 48) (n := 3) (ci := 5) (as := [v1, v_112, v_210]) (rest := []) (by decide +kernel) (by decide +kernel) rfl rfl (q_sum8 _ (Nat.le_of_ble_eq_true rfl)) R_101 f0 (fx_k (c := 5) R_101 (by decide +kernel)) (om_X4_doBranchLine (Nat.le_trans (by decide) hd) R_101 f0 f1 f_116 f_211 hc_212) (fun _ S_217 q_220 => ?_) (fun _ _ qq => kr_x qq)
                    refine kr_v q_220 fun R_218 E_219 => ?_
                    have E_221 := Ext.tr E_82 E_219
                    refine go_goto (o := 55) (t := 219) (by decide +kernel) (by decide +kernel) ?_
                    exact oj_X4_goOn_219 hd R_218 l_120 f0 l_122 f2 (fun mq b => ih mq (Ext.tr E_221 b)) (fun b => hQ (Ext.tr E_221 b)) h
                · have h := it_f hp_126 h
                  refine go_aload_n (n := 0) (by decide +kernel) l_120 f0 ?_
                  refine go_aload_n (n := 1) (by decide +kernel) l_121 f1 ?_
                  refine go_iload (n := 4) (by decide +kernel) l_118 f_116 ?_
                  refine go_iload_n (n := 3) (by decide +kernel) l_123 f_99 ?_
                  refine go_sipush (n := 1000) (z := 1000) (by decide +kernel) (by decide) fun v_222 f_223 => ?_
                  refine go_idiv (by decide +kernel) f_99 f_223 (by decide) fun v_224 f_225 => ?_
                  refine go_sipush (n := 1000) (z := 1000) (by decide +kernel) (by decide) fun v_226 f_227 => ?_
                  refine go_irem (by decide +kernel) f_225 f_227 (by decide) fun v_228 f_229 => ?_
                  refine go_iload_n (n := 3) (by decide +kernel) l_123 f_99 ?_
                  refine go_sipush (n := 1000) (z := 1000) (by decide +kernel) (by decide) fun v_230 f_231 => ?_
                  refine go_irem (by decide +kernel) f_99 f_231 (by decide) fun v_232 f_233 => ?_
                  obtain ⟨x_235, m_236, hc_234, h⟩ := bd_s h
                  refine go_callV (x := 250) (mi := 47) (n := 4) (ci := 5) (as := [v1, v_112, v_228, v_232]) (rest := []) (by decide +kernel) (by decide +kernel) rfl rfl (q_sum8 _ (Nat.le_of_ble_eq_true rfl)) R_101 f0 (fx_k (c := 5) R_101 (by decide +kernel)) (om_X4_doPlainLine (Nat.le_trans (by decide) hd) R_101 f0 f1 f_116 f_229 f_233 hc_234) (fun _ S_239 q_242 => ?_) (fun _ _ qq => kr_x qq)
                  refine kr_v q_242 fun R_240 E_241 => ?_
                  have E_243 := Ext.tr E_82 E_241
                  refine go_goto (o := 81) (t := 219) (by decide +kernel) (by decide +kernel) ?_
                  exact oj_X4_goOn_219 hd R_240 l_120 f0 l_122 f2 (fun mq b => ih mq (Ext.tr E_243 b)) (fun b => hQ (Ext.tr E_243 b)) h
              · have h := it_f hp_69 h
                refine go_aload_n (n := 0) (by decide +kernel) l0 f0 ?_
                refine go_iconst (n := (-1)) (z := (-1)) (by decide +kernel) (by decide) fun v_244 f_245 => ?_
                obtain ⟨x_247, m_248, hc_246, h⟩ := bd_s h
                refine go_callV (x := 126) (mi := 34) (n := 1) (ci := 5) (as := [v_244]) (rest := []) (by decide +kernel) (by decide +kernel) rfl rfl (q_sum8 _ (Nat.le_of_ble_eq_true rfl)) R_34 f0 (fx_k (c := 5) R_34 (by decide +kernel)) (om_X4_getStuck (Nat.le_trans (by decide) hd) R_34 f0 f_245 hc_246) (fun _ S_251 q_254 => ?_) (fun _ _ qq => kr_x qq)
                refine kr_v q_254 fun R_252 E_253 => ?_
                have E_255 := Ext.tr E E_253
                refine go_goto (o := 140) (t := 219) (by decide +kernel) (by decide +kernel) ?_
                exact oj_X4_goOn_219 hd R_252 l0 f0 l2 f2 (fun mq b => ih mq (Ext.tr E_255 b)) (fun b => hQ (Ext.tr E_255 b)) h
            · have h := it_f hp_61 h
              refine go_aload_n (n := 0) (by decide +kernel) l0 f0 ?_
              refine go_aload_n (n := 1) (by decide +kernel) l1 f1 ?_
              obtain ⟨x_257, m_258, hc_256, h⟩ := bd_s h
              refine go_callV (x := 246) (mi := 43) (n := 1) (ci := 5) (as := [v1]) (rest := []) (by decide +kernel) (by decide +kernel) rfl rfl (q_sum8 _ (Nat.le_of_ble_eq_true rfl)) R_34 f0 (fx_k (c := 5) R_34 (by decide +kernel)) (om_X4_endBranch (Nat.le_trans (by decide) hd) R_34 f0 f1 hc_256) (fun _ S_261 q_264 => ?_) (fun _ _ qq => kr_x qq)
              refine kr_v q_264 fun R_262 E_263 => ?_
              have E_265 := Ext.tr E E_263
              refine go_goto (o := 157) (t := 219) (by decide +kernel) (by decide +kernel) ?_
              exact oj_X4_goOn_219 hd R_262 l0 f0 l2 f2 (fun mq b => ih mq (Ext.tr E_265 b)) (fun b => hQ (Ext.tr E_265 b)) h
          · have h := it_f hp_44 h
            refine go_aload_n (n := 0) (by decide +kernel) l0 f0 ?_
            refine go_aload_n (n := 1) (by decide +kernel) l1 f1 ?_
            obtain ⟨x_267, m_268, hc_266, h⟩ := bd_s h
            refine go_callV (x := 242) (mi := 46) (n := 1) (ci := 5) (as := [v1]) (rest := []) (by decide +kernel) (by decide +kernel) rfl rfl (q_sum8 _ (Nat.le_of_ble_eq_true rfl)) R_34 f0 (fx_k (c := 5) R_34 (by decide +kernel)) (om_X4_awake (Nat.le_trans (by decide) hd) R_34 f0 f1 hc_266) (fun _ S_271 q_274 => ?_) (fun _ _ qq => kr_x qq)
            refine kr_v q_274 fun R_272 E_273 => ?_
            have E_275 := Ext.tr E E_273
            refine go_goto (o := 179) (t := 219) (by decide +kernel) (by decide +kernel) ?_
            exact oj_X4_goOn_219 hd R_272 l0 f0 l2 f2 (fun mq b => ih mq (Ext.tr E_275 b)) (fun b => hQ (Ext.tr E_275 b)) h
noncomputable def fm_X4_goOn (m0 : MM) : Option (Int × MM) := bp (fm_X8_firstAble m0) fun x_5 =>
fl_X4_goOn_10   BIG x_5 0 m0
set_option maxHeartbeats 4000000 in
theorem om_X4_goOn {xs : List Int32} {d : Nat} {S : QS} {m0 : MM} {v0 : Value} {rz : Int} {rm : MM}
  (hd : 6 ≤ d) (R : Rp S m0) (f0 : q_is 2 v0 16)
  (h : fm_X4_goOn m0 = some (rz, rm)) : Mt xs d 45 [v0] S (Cr 9 m0 rm rz) := by
  obtain ⟨d, rfl⟩ : ∃ e, d = e + 1 := ⟨d - 1, by omega⟩
  have hd : 5 ≤ d := Nat.le_of_succ_le_succ hd
  refine Mt.of (M := qM_X4_goOn) rfl (by rw [sl_1 (q_is_cat f0 (Or.inr rfl)), sl_0]; decide) ?_
  rw [la_1 (q_is_cat f0 (Or.inr rfl)), la_0]
  obtain ⟨L, hL⟩ : ∃ L : QL, L = [(0, v0)] := ⟨_, rfl⟩
  rw [← hL]
  have l0 : q_lo L 0 = some v0 := by rw [hL]; rfl
  have hQ : Ext m0 rm → ∀ o S1, Rp S1 rm → q_out 9 o rz → (Cr 9 m0 rm rz) o S1 := fun a o S1 b e => ⟨b, a, e⟩
  unfold fm_X4_goOn at h
  refine go_aload_n (n := 0) (by decide +kernel) l0 f0 ?_
  refine go_getf (x := 10) (ci := 5) (kf := 0) (fin := 1) (t := 2) (by decide +kernel) (by decide +kernel) (by decide +kernel) R f0 (fx_k (c := 5) R (by decide +kernel)) fun v_1 f_2 => ?_
  have f_3 := q_is_eq (b := 17) f_2 (fx_v R (by decide +kernel)).symm
  obtain ⟨x_5, hc_4, h⟩ := bp_s h
  refine go_callV (x := 238) (mi := 88) (n := 0) (ci := 9) (as := []) (rest := []) (by decide +kernel) (by decide +kernel) rfl rfl (q_sum8 _ (Nat.le_of_ble_eq_true rfl)) R f_3 (fx_k (c := 9) R (by decide +kernel)) (om_X8_firstAble (Nat.le_trans (by decide) hd) R f_3 hc_4) (fun _ S_9 q_12 => ?_) (fun _ _ qq => kr_x qq)
  refine kr_z (by decide) q_12 fun v_7 f_8 R_10 E_11 => ?_
  refine go_astore_n (n := 1) (by decide +kernel) (by decide +kernel) f_8 fun L_13 l_14 kp_15 => ?_
  have l_16 := kp_15 0 _ l0 (by decide) (Or.inr (q_is_cat f0 (Or.inr rfl)))
  refine go_iconst (n := 0) (z := 0) (by decide +kernel) (by decide) fun v_17 f_18 => ?_
  refine go_istore_n (n := 2) (by decide +kernel) (by decide +kernel) f_18 fun L_19 l_20 kp_21 => ?_
  have l_22 := kp_21 0 _ l_16 (by decide) (Or.inl (by decide))
  have l_23 := kp_21 1 _ l_14 (by decide) (Or.inr (q_is_cat f_8 (Or.inr rfl)))
  refine ol_X4_goOn_10 hd   hQ BIG (Ext.rf _) h R_10 l_22 f0 l_23 f_8 l_20 f_18
noncomputable def fj_X4_passTasks_88 (c : Int → MM → Option (Int × MM)) (y1 s0 : Int) (m : MM) : Option (Int × MM) := if s0 < y1 then
bd (fm_X4_getStuck s0 m) fun x_98 m_99 =>
lx (w32 (y1 + 1)) fun x_112 =>
c x_112 m_99
else
lx (w32 (y1 + 1)) fun x_93 =>
c x_93 m
set_option maxHeartbeats 4000000 in
theorem oj_X4_passTasks_88 {xs : List Int32} {d : Nat} {S : QS} {L : QL} {Q : QO → QS → Prop} {m : MM} {y1 s0 : Int} {v0 : Value} {v1 : Value} {w0 : Value}  {rz : Int} {rm : MM} {c : Int → MM → Option (Int × MM)} 
  (hd : 2 ≤ d) (R : Rp S m) (l0 : q_lo L 0 = some v0) (f0 : q_is 2 v0 16) (l1 : q_lo L 1 = some v1) (f1 : q_is 0 v1 y1) (fs0 : q_is 0 w0 s0)
  (hc : ∀ mq : MM, Ext m mq → ∀ {z1 : Int} {Sq : QS} {Lq : QL} {u0 : Value} {u1 : Value}, c z1 mq = some (rz, rm) → Rp Sq mq → q_lo Lq 0 = some u0 → q_is 2 u0 16 → q_lo Lq 1 = some u1 → q_is 0 u1 z1 → Go xs d qM_X4_passTasks 8 Lq [] Sq Q)
  (hQ : Ext m rm → ∀ o S1, Rp S1 rm → q_out 9 o rz → Q o S1)
  (h : fj_X4_passTasks_88 c y1 s0 m = some (rz, rm)) : Go xs d qM_X4_passTasks 88 L [w0] S Q := by
  unfold fj_X4_passTasks_88 at h
  refine go_istore_n (n := 2) (by decide +kernel) (by decide +kernel) fs0 fun L_82 l_83 kp_84 => ?_
  have l_85 := kp_84 0 _ l0 (by decide) (Or.inl (by decide))
  have l_86 := kp_84 1 _ l1 (by decide) (Or.inr (q_is_cat f1 (Or.inl rfl)))
  refine go_iload_n (n := 2) (by decide +kernel) l_83 fs0 ?_
  refine go_iload_n (n := 1) (by decide +kernel) l_86 f1 ?_
  refine go_icmp (c := .ge) (o := 8) (t := 99) (P := ¬ (s0 < y1)) (by decide +kernel) (by decide +kernel) fs0 f1 (Int.not_lt.symm) (fun hp_87 => ?_) (fun hp_87 => ?_)
  · have h := it_f hp_87 h
    refine go_iinc (n := 1) (c := 1) (c' := 1) (by decide +kernel) (by decide +kernel) l_86 f1 (by decide) fun L_88 v_89 f_90 l_91 kp_92 => ?_
    obtain ⟨x_93, e_94, h⟩ := lx_s h
    have f_95 := q_is_eq f_90 e_94
    have l_96 := kp_92 0 _ l_85 (by decide) (Or.inr (q_is_cat f0 (Or.inr rfl)))
    refine go_goto (o := (-94)) (t := 8) (by decide +kernel) (by decide +kernel) ?_
    exact hc m (Ext.rf _) h R l_96 f0 l_91 f_95
  · have h := it_n hp_87 h
    refine go_aload_n (n := 0) (by decide +kernel) l_85 f0 ?_
    refine go_iload_n (n := 2) (by decide +kernel) l_83 fs0 ?_
    obtain ⟨x_98, m_99, hc_97, h⟩ := bd_s h
    refine go_callV (x := 126) (mi := 34) (n := 1) (ci := 5) (as := [w0]) (rest := []) (by decide +kernel) (by decide +kernel) rfl rfl (q_sum8 _ (Nat.le_of_ble_eq_true rfl)) R f0 (fx_k (c := 5) R (by decide +kernel)) (om_X4_getStuck (Nat.le_trans (by decide) hd) R f0 fs0 hc_97) (fun _ S_102 q_105 => ?_) (fun _ _ qq => kr_x qq)
    refine kr_v q_105 fun R_103 E_104 => ?_
    have E_106 := E_104
    refine go_iinc (n := 1) (c := 1) (c' := 1) (by decide +kernel) (by decide +kernel) l_86 f1 (by decide) fun L_107 v_108 f_109 l_110 kp_111 => ?_
    obtain ⟨x_112, e_113, h⟩ := lx_s h
    have f_114 := q_is_eq f_109 e_113
    have l_115 := kp_111 0 _ l_85 (by decide) (Or.inr (q_is_cat f0 (Or.inr rfl)))
    refine go_goto (o := (-94)) (t := 8) (by decide +kernel) (by decide +kernel) ?_
    exact hc m_99 E_106 h R_103 l_115 f0 l_110 f_114
noncomputable def fj_X4_passTasks_57 (c : Int → MM → Option (Int × MM)) (y1 : Int) (m : MM) : Option (Int × MM) := lx (m 16 2) fun x_67 =>
gd (okc m x_67 3) <| bp (fm_X2_kind x_67 y1 m) fun x_71 =>
if x_71 = 17 then
lx (m 17 12) fun x_125 =>
bp (fm_X2_nextCommand x_67 x_125 m) fun x_128 =>
fj_X4_passTasks_88 c y1 x_128 m
else
fj_X4_passTasks_88 c y1 y1 m
set_option maxHeartbeats 4000000 in
theorem oj_X4_passTasks_57 {xs : List Int32} {d : Nat} {S : QS} {L : QL} {Q : QO → QS → Prop} {m : MM} {y1 : Int} {v0 : Value} {v1 : Value}  {rz : Int} {rm : MM} {c : Int → MM → Option (Int × MM)} 
  (hd : 2 ≤ d) (R : Rp S m) (l0 : q_lo L 0 = some v0) (f0 : q_is 2 v0 16) (l1 : q_lo L 1 = some v1) (f1 : q_is 0 v1 y1)
  (hc : ∀ mq : MM, Ext m mq → ∀ {z1 : Int} {Sq : QS} {Lq : QL} {u0 : Value} {u1 : Value}, c z1 mq = some (rz, rm) → Rp Sq mq → q_lo Lq 0 = some u0 → q_is 2 u0 16 → q_lo Lq 1 = some u1 → q_is 0 u1 z1 → Go xs d qM_X4_passTasks 8 Lq [] Sq Q)
  (hQ : Ext m rm → ∀ o S1, Rp S1 rm → q_out 9 o rz → Q o S1)
  (h : fj_X4_passTasks_57 c y1 m = some (rz, rm)) : Go xs d qM_X4_passTasks 57 L [] S Q := by
  unfold fj_X4_passTasks_57 at h
  refine go_aload_n (n := 0) (by decide +kernel) l0 f0 ?_
  obtain ⟨x_67, e_68, h⟩ := lx_s h
  refine go_getf (x := 28) (ci := 5) (kf := 2) (fin := 0) (t := 2) (by decide +kernel) (by decide +kernel) (by decide +kernel) R f0 (fx_k (c := 5) R (by decide +kernel)) fun v_64 f_65 => ?_
  have f_66 := q_is_eq f_65 e_68
  refine go_iload_n (n := 1) (by decide +kernel) l1 f1 ?_
  obtain ⟨g_69, h⟩ := gd_s h
  obtain ⟨x_71, hc_70, h⟩ := bp_s h
  refine go_callV (x := 83) (mi := 9) (n := 1) (ci := 3) (as := [v1]) (rest := []) (by decide +kernel) (by decide +kernel) rfl rfl (q_sum8 _ (Nat.le_of_ble_eq_true rfl)) R f_66 g_69 (om_X2_kind (Nat.le_trans (by decide) hd) R g_69 f_66 f1 hc_70) (fun _ S_75 q_78 => ?_) (fun _ _ qq => kr_x qq)
  refine kr_z (by decide) q_78 fun v_73 f_74 R_76 E_77 => ?_
  refine go_bipush (n := 17) (z := 17) (by decide +kernel) (by decide) fun v_79 f_80 => ?_
  refine go_icmp (c := .ne) (o := 20) (t := 87) (P := ¬ (x_71 = 17)) (by decide +kernel) (by decide +kernel) f_74 f_80 (Iff.rfl) (fun hp_81 => ?_) (fun hp_81 => ?_)
  · have h := it_f hp_81 h
    refine go_iload_n (n := 1) (by decide +kernel) l1 f1 ?_
    exact oj_X4_passTasks_88 hd R_76 l0 f0 l1 f1 f1 hc hQ h
  · have h := it_n hp_81 h
    refine go_aload_n (n := 0) (by decide +kernel) l0 f0 ?_
    refine go_getf (x := 28) (ci := 5) (kf := 2) (fin := 0) (t := 2) (by decide +kernel) (by decide +kernel) (by decide +kernel) R_76 f0 (fx_k (c := 5) R_76 (by decide +kernel)) fun v_116 f_117 => ?_
    have f_118 := q_is_eq f_117 e_68
    refine go_aload_n (n := 0) (by decide +kernel) l0 f0 ?_
    refine go_getf (x := 10) (ci := 5) (kf := 0) (fin := 1) (t := 2) (by decide +kernel) (by decide +kernel) (by decide +kernel) R_76 f0 (fx_k (c := 5) R_76 (by decide +kernel)) fun v_119 f_120 => ?_
    have f_121 := q_is_eq (b := 17) f_120 (fx_v R_76 (by decide +kernel)).symm
    obtain ⟨x_125, e_126, h⟩ := lx_s h
    refine go_getf (x := 114) (ci := 9) (kf := 12) (fin := 0) (t := 0) (by decide +kernel) (by decide +kernel) (by decide +kernel) R_76 f_121 (fx_k (c := 9) R_76 (by decide +kernel)) fun v_122 f_123 => ?_
    have f_124 := q_is_eq f_123 e_126
    obtain ⟨x_128, hc_127, h⟩ := bp_s h
    refine go_callV (x := 123) (mi := 22) (n := 1) (ci := 3) (as := [v_122]) (rest := []) (by decide +kernel) (by decide +kernel) rfl rfl (q_sum8 _ (Nat.le_of_ble_eq_true rfl)) R_76 f_118 g_69 (om_X2_nextCommand (Nat.le_trans (by decide) hd) R_76 g_69 f_118 f_124 hc_127) (fun _ S_132 q_135 => ?_) (fun _ _ qq => kr_x qq)
    refine kr_z (by decide) q_135 fun v_130 f_131 R_133 E_134 => ?_
    refine go_goto (o := 4) (t := 88) (by decide +kernel) (by decide +kernel) ?_
    exact oj_X4_passTasks_88 hd R_133 l0 f0 l1 f1 f_131 hc hQ h
noncomputable def fl_X4_passTasks_8 : Nat → Int → MM → Option (Int × MM)
  | 0, _, _ => none
  | n + 1, y1, m => lx (m 16 2) fun x_16 =>
gd (okc m x_16 3) <| lx (m x_16 1) fun x_22 =>
if y1 < x_22 then
lx (m 16 10) fun x_37 =>
if x_37 = 0 then
bp (fm_X2_kind x_16 y1 m) fun x_53 =>
if x_53 = 17 then
bp (fm_X2_x x_16 y1 m) fun x_140 =>
lx (m 17 10) fun x_154 =>
if x_154 < x_140 then
up m 17 13 y1 fun m_160 =>
some (0, m_160)
else
fj_X4_passTasks_57 (fl_X4_passTasks_8 n) y1 m
else
fj_X4_passTasks_57 (fl_X4_passTasks_8 n) y1 m
else
up m 17 13 y1 fun m_43 =>
some (0, m_43)
else
up m 17 13 y1 fun m_28 =>
some (0, m_28)
set_option maxHeartbeats 4000000 in
theorem ol_X4_passTasks_8 {xs : List Int32} {d : Nat} {Q : QO → QS → Prop} {mb : MM} {rz : Int} {rm : MM}
  (hd : 2 ≤ d)
  (hQ : Ext mb rm → ∀ o S1, Rp S1 rm → q_out 9 o rz → Q o S1) :
  ∀ (n : Nat) {m : MM} {S : QS} {L : QL} {y1 : Int} {v0 : Value} {v1 : Value} , Ext mb m → fl_X4_passTasks_8 n y1 m = some (rz, rm) → Rp S m → q_lo L 0 = some v0 → q_is 2 v0 16 → q_lo L 1 = some v1 → q_is 0 v1 y1 → Go xs d qM_X4_passTasks 8 L [] S Q := by
  intro n
  induction n with
  | zero => intro m S L y1 v0 v1; intro E h R l0 f0 l1 f1; cases h
  | succ n ih0 =>
    intro m S L y1 v0 v1; intro E h R l0 f0 l1 f1
    have ih : ∀ mq : MM, Ext mb mq → ∀ {z1 : Int} {Sq : QS} {Lq : QL} {u0 : Value} {u1 : Value}, fl_X4_passTasks_8 n z1 mq = some (rz, rm) → Rp Sq mq → q_lo Lq 0 = some u0 → q_is 2 u0 16 → q_lo Lq 1 = some u1 → q_is 0 u1 z1 → Go xs d qM_X4_passTasks 8 Lq [] Sq Q := fun mq b => by intros; exact ih0 b ‹_› ‹_› ‹_› ‹_› ‹_› ‹_›
    unfold fl_X4_passTasks_8 at h
    refine go_iload_n (n := 1) (by decide +kernel) l1 f1 ?_
    refine go_aload_n (n := 0) (by decide +kernel) l0 f0 ?_
    obtain ⟨x_16, e_17, h⟩ := lx_s h
    refine go_getf (x := 28) (ci := 5) (kf := 2) (fin := 0) (t := 2) (by decide +kernel) (by decide +kernel) (by decide +kernel) R f0 (fx_k (c := 5) R (by decide +kernel)) fun v_13 f_14 => ?_
    have f_15 := q_is_eq f_14 e_17
    obtain ⟨g_20, h⟩ := gd_s h
    obtain ⟨x_22, e_23, h⟩ := lx_s h
    refine go_getf (x := 80) (ci := 3) (kf := 1) (fin := 0) (t := 0) (by decide +kernel) (by decide +kernel) (by decide +kernel) R f_15 g_20 fun v_18 f_19 => ?_
    have f_21 := q_is_eq f_19 e_23
    refine go_icmp (c := .ge) (o := 89) (t := 105) (P := ¬ (y1 < x_22)) (by decide +kernel) (by decide +kernel) f1 f_21 (Int.not_lt.symm) (fun hp_24 => ?_) (fun hp_24 => ?_)
    · have h := it_f hp_24 h
      refine go_aload_n (n := 0) (by decide +kernel) l0 f0 ?_
      refine go_getf (x := 10) (ci := 5) (kf := 0) (fin := 1) (t := 2) (by decide +kernel) (by decide +kernel) (by decide +kernel) R f0 (fx_k (c := 5) R (by decide +kernel)) fun v_25 f_26 => ?_
      have f_27 := q_is_eq (b := 17) f_26 (fx_v R (by decide +kernel)).symm
      refine go_iload_n (n := 1) (by decide +kernel) l1 f1 ?_
      obtain ⟨m_28, e_29, h⟩ := up_s h
      refine go_putf (x := 117) (ci := 9) (kf := 13) (fin := 0) (zt := 0) (by decide +kernel) (by decide +kernel) (by decide) (by decide +kernel) (by decide) (Or.inl rfl) R f_27 f1 (fun hq => absurd hq (by decide)) (fx_k (c := 9) R (by decide +kernel)) e_29 (fx_f (j := 13) R.2 (fx_k (c := 9) R (by decide +kernel)) (by decide +kernel)) fun S_30 R_31 E_32 => ?_
      have E_33 := Ext.tr E E_32
      cases h
      exact go_vret (by decide +kernel) rfl (hQ E_33 _ _ R_31 q_out_n)
    · have h := it_n hp_24 h
      refine go_aload_n (n := 0) (by decide +kernel) l0 f0 ?_
      obtain ⟨x_37, e_38, h⟩ := lx_s h
      refine go_getf (x := 55) (ci := 5) (kf := 10) (fin := 0) (t := 0) (by decide +kernel) (by decide +kernel) (by decide +kernel) R f0 (fx_k (c := 5) R (by decide +kernel)) fun v_34 f_35 => ?_
      have f_36 := q_is_eq f_35 e_38
      refine go_if (c := .ne) (o := 82) (t := 105) (P := ¬ (x_37 = 0)) (by decide +kernel) (by decide +kernel) f_36 (Iff.rfl) (fun hp_39 => ?_) (fun hp_39 => ?_)
      · have h := it_f hp_39 h
        refine go_aload_n (n := 0) (by decide +kernel) l0 f0 ?_
        refine go_getf (x := 10) (ci := 5) (kf := 0) (fin := 1) (t := 2) (by decide +kernel) (by decide +kernel) (by decide +kernel) R f0 (fx_k (c := 5) R (by decide +kernel)) fun v_40 f_41 => ?_
        have f_42 := q_is_eq (b := 17) f_41 (fx_v R (by decide +kernel)).symm
        refine go_iload_n (n := 1) (by decide +kernel) l1 f1 ?_
        obtain ⟨m_43, e_44, h⟩ := up_s h
        refine go_putf (x := 117) (ci := 9) (kf := 13) (fin := 0) (zt := 0) (by decide +kernel) (by decide +kernel) (by decide) (by decide +kernel) (by decide) (Or.inl rfl) R f_42 f1 (fun hq => absurd hq (by decide)) (fx_k (c := 9) R (by decide +kernel)) e_44 (fx_f (j := 13) R.2 (fx_k (c := 9) R (by decide +kernel)) (by decide +kernel)) fun S_45 R_46 E_47 => ?_
        have E_48 := Ext.tr E E_47
        cases h
        exact go_vret (by decide +kernel) rfl (hQ E_48 _ _ R_46 q_out_n)
      · have h := it_n hp_39 h
        refine go_aload_n (n := 0) (by decide +kernel) l0 f0 ?_
        refine go_getf (x := 28) (ci := 5) (kf := 2) (fin := 0) (t := 2) (by decide +kernel) (by decide +kernel) (by decide +kernel) R f0 (fx_k (c := 5) R (by decide +kernel)) fun v_49 f_50 => ?_
        have f_51 := q_is_eq f_50 e_17
        refine go_iload_n (n := 1) (by decide +kernel) l1 f1 ?_
        obtain ⟨x_53, hc_52, h⟩ := bp_s h
        refine go_callV (x := 83) (mi := 9) (n := 1) (ci := 3) (as := [v1]) (rest := []) (by decide +kernel) (by decide +kernel) rfl rfl (q_sum8 _ (Nat.le_of_ble_eq_true rfl)) R f_51 g_20 (om_X2_kind (Nat.le_trans (by decide) hd) R g_20 f_51 f1 hc_52) (fun _ S_57 q_60 => ?_) (fun _ _ qq => kr_x qq)
        refine kr_z (by decide) q_60 fun v_55 f_56 R_58 E_59 => ?_
        refine go_bipush (n := 17) (z := 17) (by decide +kernel) (by decide) fun v_61 f_62 => ?_
        refine go_icmp (c := .ne) (o := 21) (t := 57) (P := ¬ (x_53 = 17)) (by decide +kernel) (by decide +kernel) f_56 f_62 (Iff.rfl) (fun hp_63 => ?_) (fun hp_63 => ?_)
        · have h := it_f hp_63 h
          exact oj_X4_passTasks_57 hd R_58 l0 f0 l1 f1 (fun mq b => ih mq (Ext.tr E b)) (fun b => hQ (Ext.tr E b)) h
        · have h := it_n hp_63 h
          refine go_aload_n (n := 0) (by decide +kernel) l0 f0 ?_
          refine go_getf (x := 28) (ci := 5) (kf := 2) (fin := 0) (t := 2) (by decide +kernel) (by decide +kernel) (by decide +kernel) R_58 f0 (fx_k (c := 5) R_58 (by decide +kernel)) fun v_136 f_137 => ?_
          have f_138 := q_is_eq f_137 e_17
          refine go_iload_n (n := 1) (by decide +kernel) l1 f1 ?_
          obtain ⟨x_140, hc_139, h⟩ := bp_s h
          refine go_callV (x := 86) (mi := 10) (n := 1) (ci := 3) (as := [v1]) (rest := []) (by decide +kernel) (by decide +kernel) rfl rfl (q_sum8 _ (Nat.le_of_ble_eq_true rfl)) R_58 f_138 g_20 (om_X2_x (Nat.le_trans (by decide) hd) R_58 g_20 f_138 f1 hc_139) (fun _ S_144 q_147 => ?_) (fun _ _ qq => kr_x qq)
          refine kr_z (by decide) q_147 fun v_142 f_143 R_145 E_146 => ?_
          refine go_aload_n (n := 0) (by decide +kernel) l0 f0 ?_
          refine go_getf (x := 10) (ci := 5) (kf := 0) (fin := 1) (t := 2) (by decide +kernel) (by decide +kernel) (by decide +kernel) R_145 f0 (fx_k (c := 5) R_145 (by decide +kernel)) fun v_148 f_149 => ?_
          have f_150 := q_is_eq (b := 17) f_149 (fx_v R_145 (by decide +kernel)).symm
          obtain ⟨x_154, e_155, h⟩ := lx_s h
          refine go_getf (x := 66) (ci := 9) (kf := 10) (fin := 0) (t := 0) (by decide +kernel) (by decide +kernel) (by decide +kernel) R_145 f_150 (fx_k (c := 9) R_145 (by decide +kernel)) fun v_151 f_152 => ?_
          have f_153 := q_is_eq f_152 e_155
          refine go_icmp (c := .gt) (o := 51) (t := 105) (P := x_154 < x_140) (by decide +kernel) (by decide +kernel) f_143 f_153 (Iff.rfl) (fun hp_156 => ?_) (fun hp_156 => ?_)
          · have h := it_t hp_156 h
            refine go_aload_n (n := 0) (by decide +kernel) l0 f0 ?_
            refine go_getf (x := 10) (ci := 5) (kf := 0) (fin := 1) (t := 2) (by decide +kernel) (by decide +kernel) (by decide +kernel) R_145 f0 (fx_k (c := 5) R_145 (by decide +kernel)) fun v_157 f_158 => ?_
            have f_159 := q_is_eq (b := 17) f_158 (fx_v R_145 (by decide +kernel)).symm
            refine go_iload_n (n := 1) (by decide +kernel) l1 f1 ?_
            obtain ⟨m_160, e_161, h⟩ := up_s h
            refine go_putf (x := 117) (ci := 9) (kf := 13) (fin := 0) (zt := 0) (by decide +kernel) (by decide +kernel) (by decide) (by decide +kernel) (by decide) (Or.inl rfl) R_145 f_159 f1 (fun hq => absurd hq (by decide)) (fx_k (c := 9) R_145 (by decide +kernel)) e_161 (fx_f (j := 13) R_145.2 (fx_k (c := 9) R_145 (by decide +kernel)) (by decide +kernel)) fun S_162 R_163 E_164 => ?_
            have E_165 := Ext.tr E E_164
            cases h
            exact go_vret (by decide +kernel) rfl (hQ E_165 _ _ R_163 q_out_n)
          · have h := it_f hp_156 h
            exact oj_X4_passTasks_57 hd R_145 l0 f0 l1 f1 (fun mq b => ih mq (Ext.tr E b)) (fun b => hQ (Ext.tr E b)) h
noncomputable def fm_X4_passTasks (m0 : MM) : Option (Int × MM) := lx (m0 17 13) fun x_7 =>
fl_X4_passTasks_8   BIG x_7 m0
set_option maxHeartbeats 4000000 in
theorem om_X4_passTasks {xs : List Int32} {d : Nat} {S : QS} {m0 : MM} {v0 : Value} {rz : Int} {rm : MM}
  (hd : 3 ≤ d) (R : Rp S m0) (f0 : q_is 2 v0 16)
  (h : fm_X4_passTasks m0 = some (rz, rm)) : Mt xs d 35 [v0] S (Cr 9 m0 rm rz) := by
  obtain ⟨d, rfl⟩ : ∃ e, d = e + 1 := ⟨d - 1, by omega⟩
  have hd : 2 ≤ d := Nat.le_of_succ_le_succ hd
  refine Mt.of (M := qM_X4_passTasks) rfl (by rw [sl_1 (q_is_cat f0 (Or.inr rfl)), sl_0]; decide) ?_
  rw [la_1 (q_is_cat f0 (Or.inr rfl)), la_0]
  obtain ⟨L, hL⟩ : ∃ L : QL, L = [(0, v0)] := ⟨_, rfl⟩
  rw [← hL]
  have l0 : q_lo L 0 = some v0 := by rw [hL]; rfl
  have hQ : Ext m0 rm → ∀ o S1, Rp S1 rm → q_out 9 o rz → (Cr 9 m0 rm rz) o S1 := fun a o S1 b e => ⟨b, a, e⟩
  unfold fm_X4_passTasks at h
  refine go_aload_n (n := 0) (by decide +kernel) l0 f0 ?_
  refine go_getf (x := 10) (ci := 5) (kf := 0) (fin := 1) (t := 2) (by decide +kernel) (by decide +kernel) (by decide +kernel) R f0 (fx_k (c := 5) R (by decide +kernel)) fun v_1 f_2 => ?_
  have f_3 := q_is_eq (b := 17) f_2 (fx_v R (by decide +kernel)).symm
  obtain ⟨x_7, e_8, h⟩ := lx_s h
  refine go_getf (x := 117) (ci := 9) (kf := 13) (fin := 0) (t := 0) (by decide +kernel) (by decide +kernel) (by decide +kernel) R f_3 (fx_k (c := 9) R (by decide +kernel)) fun v_4 f_5 => ?_
  have f_6 := q_is_eq f_5 e_8
  refine go_istore_n (n := 1) (by decide +kernel) (by decide +kernel) f_6 fun L_9 l_10 kp_11 => ?_
  have l_12 := kp_11 0 _ l0 (by decide) (Or.inr (q_is_cat f0 (Or.inr rfl)))
  refine ol_X4_passTasks_8 hd   hQ BIG (Ext.rf _) h R l_12 f0 l_10 f_6
noncomputable def fl_X4_follow_17 (y3 : Int) (k62 : MM → Option (Int × MM)) (k147 : MM → Option (Int × MM)) : Nat → Int → MM → Option (Int × MM)
  | 0, _, _ => none
  | n + 1, y5, m => if y5 < y3 then
bp (fm_X4_goes m) fun x_26 =>
if x_26 = 0 then
k147 m
else
lx (m 16 2) fun x_38 =>
lx (m 17 11) fun x_46 =>
gd (okc m x_38 3) <| bp (fm_X2_nextArrival x_38 x_46 m) fun x_50 =>
up m 16 8 x_50 fun m_58 =>
lx (m_58 16 8) fun x_67 =>
lx (m_58 16 2) fun x_72 =>
gd (okc m_58 x_72 3) <| lx (m_58 x_72 1) fun x_78 =>
if x_67 < x_78 then
up m_58 17 11 (w32 (x_67 + 1)) fun m_91 =>
up m_91 16 9 0 fun m_99 =>
lx (m_99 16 2) fun x_108 =>
lx (m_99 16 8) fun x_113 =>
gd (okc m_99 x_108 3) <| bp (fm_X2_kind x_108 x_113 m_99) fun x_117 =>
bp (fm_X2_x x_108 x_113 m_99) fun x_132 =>
bp (fm_X2_y x_108 x_113 m_99) fun x_147 =>
bd (fm_X4_note x_117 x_132 x_147 m_99) fun x_156 m_157 =>
bd (fm_X4_goOn m_157) fun x_166 m_167 =>
lx (m_167 17 10) fun x_181 =>
up m_167 17 10 (w32 (x_181 + 1)) fun m_187 =>
bd (fm_X4_passTasks m_187) fun x_194 m_195 =>
lx (w32 (y5 + 1)) fun x_208 =>
fl_X4_follow_17 y3 k62 k147 n x_208 m_195
else
k62 m_58
else
k147 m
set_option maxHeartbeats 4000000 in
theorem ol_X4_follow_17 {xs : List Int32} {d : Nat} {Q : QO → QS → Prop} {mb : MM} {y3 : Int} {k62 : MM → Option (Int × MM)} {k147 : MM → Option (Int × MM)} {rz : Int} {rm : MM}
  (hd : 6 ≤ d)
  (hk62 : ∀ mq : MM, Ext mb mq → ∀ {Sq : QS} {Lq : QL} {u0 : Value}, k62 mq = some (rz, rm) → Rp Sq mq → q_lo Lq 0 = some u0 → q_is 2 u0 16 → Go xs d qM_X4_follow 62 Lq [] Sq Q)
  (hk147 : ∀ mq : MM, Ext mb mq → ∀ {Sq : QS} {Lq : QL} {u0 : Value}, k147 mq = some (rz, rm) → Rp Sq mq → q_lo Lq 0 = some u0 → q_is 2 u0 16 → Go xs d qM_X4_follow 147 Lq [] Sq Q)
  (hQ : Ext mb rm → ∀ o S1, Rp S1 rm → q_out 0 o rz → Q o S1) :
  ∀ (n : Nat) {m : MM} {S : QS} {L : QL} {y5 : Int} {v0 : Value} {v3 : Value} {v5 : Value} , Ext mb m → fl_X4_follow_17 y3 k62 k147 n y5 m = some (rz, rm) → Rp S m → q_lo L 0 = some v0 → q_is 2 v0 16 → q_lo L 3 = some v3 → q_is 0 v3 y3 → q_lo L 5 = some v5 → q_is 0 v5 y5 → Go xs d qM_X4_follow 17 L [] S Q := by
  intro n
  induction n with
  | zero => intro m S L y5 v0 v3 v5; intro E h R l0 f0 l3 f3 l5 f5; cases h
  | succ n ih0 =>
    intro m S L y5 v0 v3 v5; intro E h R l0 f0 l3 f3 l5 f5
    have ih : ∀ mq : MM, Ext mb mq → ∀ {z5 : Int} {Sq : QS} {Lq : QL} {u0 : Value} {u3 : Value} {u5 : Value}, fl_X4_follow_17 y3 k62 k147 n z5 mq = some (rz, rm) → Rp Sq mq → q_lo Lq 0 = some u0 → q_is 2 u0 16 → q_lo Lq 3 = some u3 → q_is 0 u3 y3 → q_lo Lq 5 = some u5 → q_is 0 u5 z5 → Go xs d qM_X4_follow 17 Lq [] Sq Q := fun mq b => by intros; exact ih0 b ‹_› ‹_› ‹_› ‹_› ‹_› ‹_› ‹_› ‹_›
    unfold fl_X4_follow_17 at h
    refine go_iload (n := 5) (by decide +kernel) l5 f5 ?_
    refine go_iload_n (n := 3) (by decide +kernel) l3 f3 ?_
    refine go_icmp (c := .ge) (o := 127) (t := 147) (P := ¬ (y5 < y3)) (by decide +kernel) (by decide +kernel) f5 f3 (Int.not_lt.symm) (fun hp_24 => ?_) (fun hp_24 => ?_)
    · have h := it_f hp_24 h
      exact hk147 m E h R l0 f0
    · have h := it_n hp_24 h
      refine go_aload_n (n := 0) (by decide +kernel) l0 f0 ?_
      obtain ⟨x_26, hc_25, h⟩ := bp_s h
      refine go_callV (x := 69) (mi := 33) (n := 0) (ci := 5) (as := []) (rest := []) (by decide +kernel) (by decide +kernel) rfl rfl (q_sum8 _ (Nat.le_of_ble_eq_true rfl)) R f0 (fx_k (c := 5) R (by decide +kernel)) (om_X4_goes (Nat.le_trans (by decide) hd) R f0 hc_25) (fun _ S_30 q_33 => ?_) (fun _ _ qq => kr_x qq)
      refine kr_z (by decide) q_33 fun v_28 f_29 R_31 E_32 => ?_
      refine go_if (c := .eq) (o := 120) (t := 147) (P := x_26 = 0) (by decide +kernel) (by decide +kernel) f_29 (Iff.rfl) (fun hp_34 => ?_) (fun hp_34 => ?_)
      · have h := it_t hp_34 h
        exact hk147 m E h R_31 l0 f0
      · have h := it_f hp_34 h
        refine go_aload_n (n := 0) (by decide +kernel) l0 f0 ?_
        refine go_aload_n (n := 0) (by decide +kernel) l0 f0 ?_
        obtain ⟨x_38, e_39, h⟩ := lx_s h
        refine go_getf (x := 28) (ci := 5) (kf := 2) (fin := 0) (t := 2) (by decide +kernel) (by decide +kernel) (by decide +kernel) R_31 f0 (fx_k (c := 5) R_31 (by decide +kernel)) fun v_35 f_36 => ?_
        have f_37 := q_is_eq f_36 e_39
        refine go_aload_n (n := 0) (by decide +kernel) l0 f0 ?_
        refine go_getf (x := 10) (ci := 5) (kf := 0) (fin := 1) (t := 2) (by decide +kernel) (by decide +kernel) (by decide +kernel) R_31 f0 (fx_k (c := 5) R_31 (by decide +kernel)) fun v_40 f_41 => ?_
        have f_42 := q_is_eq (b := 17) f_41 (fx_v R_31 (by decide +kernel)).symm
        obtain ⟨x_46, e_47, h⟩ := lx_s h
        refine go_getf (x := 73) (ci := 9) (kf := 11) (fin := 0) (t := 0) (by decide +kernel) (by decide +kernel) (by decide +kernel) R_31 f_42 (fx_k (c := 9) R_31 (by decide +kernel)) fun v_43 f_44 => ?_
        have f_45 := q_is_eq f_44 e_47
        obtain ⟨g_48, h⟩ := gd_s h
        obtain ⟨x_50, hc_49, h⟩ := bp_s h
        refine go_callV (x := 76) (mi := 21) (n := 1) (ci := 3) (as := [v_43]) (rest := [v0]) (by decide +kernel) (by decide +kernel) rfl rfl (q_sum8 _ (Nat.le_of_ble_eq_true rfl)) R_31 f_37 g_48 (om_X2_nextArrival (Nat.le_trans (by decide) hd) R_31 g_48 f_37 f_45 hc_49) (fun _ S_54 q_57 => ?_) (fun _ _ qq => kr_x qq)
        refine kr_z (by decide) q_57 fun v_52 f_53 R_55 E_56 => ?_
        obtain ⟨m_58, e_59, h⟩ := up_s h
        refine go_putf (x := 49) (ci := 5) (kf := 8) (fin := 0) (zt := 0) (by decide +kernel) (by decide +kernel) (by decide) (by decide +kernel) (by decide) (Or.inl rfl) R_55 f0 f_53 (fun hq => absurd hq (by decide)) (fx_k (c := 5) R_55 (by decide +kernel)) e_59 (fx_f (j := 8) R_55.2 (fx_k (c := 5) R_55 (by decide +kernel)) (by decide +kernel)) fun S_60 R_61 E_62 => ?_
        have E_63 := Ext.tr E E_62
        refine go_aload_n (n := 0) (by decide +kernel) l0 f0 ?_
        obtain ⟨x_67, e_68, h⟩ := lx_s h
        refine go_getf (x := 49) (ci := 5) (kf := 8) (fin := 0) (t := 0) (by decide +kernel) (by decide +kernel) (by decide +kernel) R_61 f0 (fx_k (c := 5) R_61 (by decide +kernel)) fun v_64 f_65 => ?_
        have f_66 := q_is_eq f_65 e_68
        refine go_aload_n (n := 0) (by decide +kernel) l0 f0 ?_
        obtain ⟨x_72, e_73, h⟩ := lx_s h
        refine go_getf (x := 28) (ci := 5) (kf := 2) (fin := 0) (t := 2) (by decide +kernel) (by decide +kernel) (by decide +kernel) R_61 f0 (fx_k (c := 5) R_61 (by decide +kernel)) fun v_69 f_70 => ?_
        have f_71 := q_is_eq f_70 e_73
        obtain ⟨g_76, h⟩ := gd_s h
        obtain ⟨x_78, e_79, h⟩ := lx_s h
        refine go_getf (x := 80) (ci := 3) (kf := 1) (fin := 0) (t := 0) (by decide +kernel) (by decide +kernel) (by decide +kernel) R_61 f_71 g_76 fun v_74 f_75 => ?_
        have f_77 := q_is_eq f_75 e_79
        refine go_icmp (c := .lt) (o := 6) (t := 65) (P := x_67 < x_78) (by decide +kernel) (by decide +kernel) f_66 f_77 (Iff.rfl) (fun hp_80 => ?_) (fun hp_80 => ?_)
        · have h := it_t hp_80 h
          refine go_aload_n (n := 0) (by decide +kernel) l0 f0 ?_
          refine go_getf (x := 10) (ci := 5) (kf := 0) (fin := 1) (t := 2) (by decide +kernel) (by decide +kernel) (by decide +kernel) R_61 f0 (fx_k (c := 5) R_61 (by decide +kernel)) fun v_81 f_82 => ?_
          have f_83 := q_is_eq (b := 17) f_82 (fx_v R_61 (by decide +kernel)).symm
          refine go_aload_n (n := 0) (by decide +kernel) l0 f0 ?_
          refine go_getf (x := 49) (ci := 5) (kf := 8) (fin := 0) (t := 0) (by decide +kernel) (by decide +kernel) (by decide +kernel) R_61 f0 (fx_k (c := 5) R_61 (by decide +kernel)) fun v_84 f_85 => ?_
          have f_86 := q_is_eq f_85 e_68
          refine go_iconst (n := 1) (z := 1) (by decide +kernel) (by decide) fun v_87 f_88 => ?_
          refine go_iadd (by decide +kernel) f_86 f_88 fun v_89 f_90 => ?_
          obtain ⟨m_91, e_92, h⟩ := up_s h
          refine go_putf (x := 73) (ci := 9) (kf := 11) (fin := 0) (zt := 0) (by decide +kernel) (by decide +kernel) (by decide) (by decide +kernel) (by decide) (Or.inl rfl) R_61 f_83 f_90 (fun hq => absurd hq (by decide)) (fx_k (c := 9) R_61 (by decide +kernel)) e_92 (fx_f (j := 11) R_61.2 (fx_k (c := 9) R_61 (by decide +kernel)) (by decide +kernel)) fun S_93 R_94 E_95 => ?_
          have E_96 := Ext.tr E_63 E_95
          refine go_aload_n (n := 0) (by decide +kernel) l0 f0 ?_
          refine go_iconst (n := 0) (z := 0) (by decide +kernel) (by decide) fun v_97 f_98 => ?_
          obtain ⟨m_99, e_100, h⟩ := up_s h
          refine go_putf (x := 52) (ci := 5) (kf := 9) (fin := 0) (zt := 0) (by decide +kernel) (by decide +kernel) (by decide) (by decide +kernel) (by decide) (Or.inl rfl) R_94 f0 f_98 (fun hq => absurd hq (by decide)) (fx_k (c := 5) R_94 (by decide +kernel)) e_100 (fx_f (j := 9) R_94.2 (fx_k (c := 5) R_94 (by decide +kernel)) (by decide +kernel)) fun S_101 R_102 E_103 => ?_
          have E_104 := Ext.tr E_96 E_103
          refine go_aload_n (n := 0) (by decide +kernel) l0 f0 ?_
          refine go_aload_n (n := 0) (by decide +kernel) l0 f0 ?_
          obtain ⟨x_108, e_109, h⟩ := lx_s h
          refine go_getf (x := 28) (ci := 5) (kf := 2) (fin := 0) (t := 2) (by decide +kernel) (by decide +kernel) (by decide +kernel) R_102 f0 (fx_k (c := 5) R_102 (by decide +kernel)) fun v_105 f_106 => ?_
          have f_107 := q_is_eq f_106 e_109
          refine go_aload_n (n := 0) (by decide +kernel) l0 f0 ?_
          obtain ⟨x_113, e_114, h⟩ := lx_s h
          refine go_getf (x := 49) (ci := 5) (kf := 8) (fin := 0) (t := 0) (by decide +kernel) (by decide +kernel) (by decide +kernel) R_102 f0 (fx_k (c := 5) R_102 (by decide +kernel)) fun v_110 f_111 => ?_
          have f_112 := q_is_eq f_111 e_114
          obtain ⟨g_115, h⟩ := gd_s h
          obtain ⟨x_117, hc_116, h⟩ := bp_s h
          refine go_callV (x := 83) (mi := 9) (n := 1) (ci := 3) (as := [v_110]) (rest := [v0]) (by decide +kernel) (by decide +kernel) rfl rfl (q_sum8 _ (Nat.le_of_ble_eq_true rfl)) R_102 f_107 g_115 (om_X2_kind (Nat.le_trans (by decide) hd) R_102 g_115 f_107 f_112 hc_116) (fun _ S_121 q_124 => ?_) (fun _ _ qq => kr_x qq)
          refine kr_z (by decide) q_124 fun v_119 f_120 R_122 E_123 => ?_
          refine go_aload_n (n := 0) (by decide +kernel) l0 f0 ?_
          refine go_getf (x := 28) (ci := 5) (kf := 2) (fin := 0) (t := 2) (by decide +kernel) (by decide +kernel) (by decide +kernel) R_122 f0 (fx_k (c := 5) R_122 (by decide +kernel)) fun v_125 f_126 => ?_
          have f_127 := q_is_eq f_126 e_109
          refine go_aload_n (n := 0) (by decide +kernel) l0 f0 ?_
          refine go_getf (x := 49) (ci := 5) (kf := 8) (fin := 0) (t := 0) (by decide +kernel) (by decide +kernel) (by decide +kernel) R_122 f0 (fx_k (c := 5) R_122 (by decide +kernel)) fun v_128 f_129 => ?_
          have f_130 := q_is_eq f_129 e_114
          obtain ⟨x_132, hc_131, h⟩ := bp_s h
          refine go_callV (x := 86) (mi := 10) (n := 1) (ci := 3) (as := [v_128]) (rest := [v_119, v0]) (by decide +kernel) (by decide +kernel) rfl rfl (q_sum8 _ (Nat.le_of_ble_eq_true rfl)) R_122 f_127 g_115 (om_X2_x (Nat.le_trans (by decide) hd) R_122 g_115 f_127 f_130 hc_131) (fun _ S_136 q_139 => ?_) (fun _ _ qq => kr_x qq)
          refine kr_z (by decide) q_139 fun v_134 f_135 R_137 E_138 => ?_
          refine go_aload_n (n := 0) (by decide +kernel) l0 f0 ?_
          refine go_getf (x := 28) (ci := 5) (kf := 2) (fin := 0) (t := 2) (by decide +kernel) (by decide +kernel) (by decide +kernel) R_137 f0 (fx_k (c := 5) R_137 (by decide +kernel)) fun v_140 f_141 => ?_
          have f_142 := q_is_eq f_141 e_109
          refine go_aload_n (n := 0) (by decide +kernel) l0 f0 ?_
          refine go_getf (x := 49) (ci := 5) (kf := 8) (fin := 0) (t := 0) (by decide +kernel) (by decide +kernel) (by decide +kernel) R_137 f0 (fx_k (c := 5) R_137 (by decide +kernel)) fun v_143 f_144 => ?_
          have f_145 := q_is_eq f_144 e_114
          obtain ⟨x_147, hc_146, h⟩ := bp_s h
          refine go_callV (x := 89) (mi := 11) (n := 1) (ci := 3) (as := [v_143]) (rest := [v_134, v_119, v0]) (by decide +kernel) (by decide +kernel) rfl rfl (q_sum8 _ (Nat.le_of_ble_eq_true rfl)) R_137 f_142 g_115 (om_X2_y (Nat.le_trans (by decide) hd) R_137 g_115 f_142 f_145 hc_146) (fun _ S_151 q_154 => ?_) (fun _ _ qq => kr_x qq)
          refine kr_z (by decide) q_154 fun v_149 f_150 R_152 E_153 => ?_
          obtain ⟨x_156, m_157, hc_155, h⟩ := bd_s h
          refine go_callV (x := 92) (mi := 38) (n := 3) (ci := 5) (as := [v_119, v_134, v_149]) (rest := []) (by decide +kernel) (by decide +kernel) rfl rfl (q_sum8 _ (Nat.le_of_ble_eq_true rfl)) R_152 f0 (fx_k (c := 5) R_152 (by decide +kernel)) (om_X4_note (Nat.le_trans (by decide) hd) R_152 f0 f_120 f_135 f_150 hc_155) (fun _ S_160 q_163 => ?_) (fun _ _ qq => kr_x qq)
          refine kr_v q_163 fun R_161 E_162 => ?_
          have E_164 := Ext.tr E_104 E_162
          refine go_aload_n (n := 0) (by decide +kernel) l0 f0 ?_
          obtain ⟨x_166, m_167, hc_165, h⟩ := bd_s h
          refine go_callV (x := 96) (mi := 45) (n := 0) (ci := 5) (as := []) (rest := []) (by decide +kernel) (by decide +kernel) rfl rfl (q_sum8 _ (Nat.le_of_ble_eq_true rfl)) R_161 f0 (fx_k (c := 5) R_161 (by decide +kernel)) (om_X4_goOn (Nat.le_trans (by decide) hd) R_161 f0 hc_165) (fun _ S_170 q_173 => ?_) (fun _ _ qq => kr_x qq)
          refine kr_v q_173 fun R_171 E_172 => ?_
          have E_174 := Ext.tr E_164 E_172
          refine go_aload_n (n := 0) (by decide +kernel) l0 f0 ?_
          refine go_getf (x := 10) (ci := 5) (kf := 0) (fin := 1) (t := 2) (by decide +kernel) (by decide +kernel) (by decide +kernel) R_171 f0 (fx_k (c := 5) R_171 (by decide +kernel)) fun v_175 f_176 => ?_
          have f_177 := q_is_eq (b := 17) f_176 (fx_v R_171 (by decide +kernel)).symm
          refine go_dup (by decide +kernel) f_177 (Or.inr rfl) ?_
          obtain ⟨x_181, e_182, h⟩ := lx_s h
          refine go_getf (x := 66) (ci := 9) (kf := 10) (fin := 0) (t := 0) (by decide +kernel) (by decide +kernel) (by decide +kernel) R_171 f_177 (fx_k (c := 9) R_171 (by decide +kernel)) fun v_178 f_179 => ?_
          have f_180 := q_is_eq f_179 e_182
          refine go_iconst (n := 1) (z := 1) (by decide +kernel) (by decide) fun v_183 f_184 => ?_
          refine go_iadd (by decide +kernel) f_180 f_184 fun v_185 f_186 => ?_
          obtain ⟨m_187, e_188, h⟩ := up_s h
          refine go_putf (x := 66) (ci := 9) (kf := 10) (fin := 0) (zt := 0) (by decide +kernel) (by decide +kernel) (by decide) (by decide +kernel) (by decide) (Or.inl rfl) R_171 f_177 f_186 (fun hq => absurd hq (by decide)) (fx_k (c := 9) R_171 (by decide +kernel)) e_188 (fx_f (j := 10) R_171.2 (fx_k (c := 9) R_171 (by decide +kernel)) (by decide +kernel)) fun S_189 R_190 E_191 => ?_
          have E_192 := Ext.tr E_174 E_191
          refine go_aload_n (n := 0) (by decide +kernel) l0 f0 ?_
          obtain ⟨x_194, m_195, hc_193, h⟩ := bd_s h
          refine go_callV (x := 99) (mi := 35) (n := 0) (ci := 5) (as := []) (rest := []) (by decide +kernel) (by decide +kernel) rfl rfl (q_sum8 _ (Nat.le_of_ble_eq_true rfl)) R_190 f0 (fx_k (c := 5) R_190 (by decide +kernel)) (om_X4_passTasks (Nat.le_trans (by decide) hd) R_190 f0 hc_193) (fun _ S_198 q_201 => ?_) (fun _ _ qq => kr_x qq)
          refine kr_v q_201 fun R_199 E_200 => ?_
          have E_202 := Ext.tr E_192 E_200
          refine go_iinc (n := 5) (c := 1) (c' := 1) (by decide +kernel) (by decide +kernel) l5 f5 (by decide) fun L_203 v_204 f_205 l_206 kp_207 => ?_
          obtain ⟨x_208, e_209, h⟩ := lx_s h
          have f_210 := q_is_eq f_205 e_209
          have l_211 := kp_207 0 _ l0 (by decide) (Or.inl (by decide))
          have l_212 := kp_207 3 _ l3 (by decide) (Or.inl (by decide))
          refine go_goto (o := (-127)) (t := 17) (by decide +kernel) (by decide +kernel) ?_
          exact ih m_195 E_202 h R_199 l_211 f0 l_212 f3 l_206 f_210
        · have h := it_f hp_80 h
          exact hk62 m_58 E_63 h R_61 l0 f0
noncomputable def fj_X4_follow_147 (m : MM) : Option (Int × MM) := lx (m 16 10) fun x_225 =>
if x_225 = 0 then
some (1, m)
else
some (0, m)
set_option maxHeartbeats 4000000 in
theorem oj_X4_follow_147 {xs : List Int32} {d : Nat} {S : QS} {L : QL} {Q : QO → QS → Prop} {m : MM} {v0 : Value}  {rz : Int} {rm : MM}
  (hd : 6 ≤ d) (R : Rp S m) (l0 : q_lo L 0 = some v0) (f0 : q_is 2 v0 16)
  (hQ : Ext m rm → ∀ o S1, Rp S1 rm → q_out 0 o rz → Q o S1)
  (h : fj_X4_follow_147 m = some (rz, rm)) : Go xs d qM_X4_follow 147 L [] S Q := by
  unfold fj_X4_follow_147 at h
  refine go_aload_n (n := 0) (by decide +kernel) l0 f0 ?_
  obtain ⟨x_225, e_226, h⟩ := lx_s h
  refine go_getf (x := 55) (ci := 5) (kf := 10) (fin := 0) (t := 0) (by decide +kernel) (by decide +kernel) (by decide +kernel) R f0 (fx_k (c := 5) R (by decide +kernel)) fun v_222 f_223 => ?_
  have f_224 := q_is_eq f_223 e_226
  refine go_if (c := .ne) (o := 7) (t := 158) (P := ¬ (x_225 = 0)) (by decide +kernel) (by decide +kernel) f_224 (Iff.rfl) (fun hp_227 => ?_) (fun hp_227 => ?_)
  · have h := it_f hp_227 h
    refine go_iconst (n := 0) (z := 0) (by decide +kernel) (by decide) fun v_228 f_229 => ?_
    cases h
    exact go_iret (by decide +kernel) rfl (Or.inr ⟨rfl, by decide⟩) f_229 (hQ (Ext.rf _) _ _ R (q_out_v (by decide) f_229))
  · have h := it_n hp_227 h
    refine go_iconst (n := 1) (z := 1) (by decide +kernel) (by decide) fun v_230 f_231 => ?_
    refine go_goto (o := 4) (t := 159) (by decide +kernel) (by decide +kernel) ?_
    cases h
    exact go_iret (by decide +kernel) rfl (Or.inr ⟨rfl, by decide⟩) f_231 (hQ (Ext.rf _) _ _ R (q_out_v (by decide) f_231))
noncomputable def fm_X4_follow (p1 p2 p3 p4 : Int) (m0 : MM) : Option (Int × MM) := bd (fm_X4_load p1 p2 p4 m0) fun x_2 m_3 =>
lx (m_3 17 10) fun x_17 =>
fl_X4_follow_17 p3 (fun m_219 =>
fj_X4_follow_147 m_219) (fun m_238 =>
fj_X4_follow_147 m_238) BIG x_17 m_3
set_option maxHeartbeats 4000000 in
theorem om_X4_follow {xs : List Int32} {d : Nat} {S : QS} {m0 : MM} {p1 p2 p3 p4 : Int} {v0 : Value} {v1 : Value} {v2 : Value} {v3 : Value} {v4 : Value} {rz : Int} {rm : MM}
  (hd : 7 ≤ d) (R : Rp S m0) (f0 : q_is 2 v0 16) (f1 : q_is 2 v1 p1) (f2 : q_is 2 v2 p2) (f3 : q_is 0 v3 p3) (f4 : q_is 0 v4 p4)
  (h : fm_X4_follow p1 p2 p3 p4 m0 = some (rz, rm)) : Mt xs d 30 [v0, v1, v2, v3, v4] S (Cr 0 m0 rm rz) := by
  obtain ⟨d, rfl⟩ : ∃ e, d = e + 1 := ⟨d - 1, by omega⟩
  have hd : 6 ≤ d := Nat.le_of_succ_le_succ hd
  refine Mt.of (M := qM_X4_follow) rfl (by rw [sl_1 (q_is_cat f0 (Or.inr rfl)), sl_1 (q_is_cat f1 (Or.inr rfl)), sl_1 (q_is_cat f2 (Or.inr rfl)), sl_1 (q_is_cat f3 (Or.inl rfl)), sl_1 (q_is_cat f4 (Or.inl rfl)), sl_0]; decide) ?_
  rw [la_1 (q_is_cat f0 (Or.inr rfl)), la_1 (q_is_cat f1 (Or.inr rfl)), la_1 (q_is_cat f2 (Or.inr rfl)), la_1 (q_is_cat f3 (Or.inl rfl)), la_1 (q_is_cat f4 (Or.inl rfl)), la_0]
  obtain ⟨L, hL⟩ : ∃ L : QL, L = [(0, v0), (0 + 1, v1), (0 + 1 + 1, v2), (0 + 1 + 1 + 1, v3), (0 + 1 + 1 + 1 + 1, v4)] := ⟨_, rfl⟩
  rw [← hL]
  have l0 : q_lo L 0 = some v0 := by rw [hL]; rfl
  have l1 : q_lo L 1 = some v1 := by rw [hL]; rfl
  have l2 : q_lo L 2 = some v2 := by rw [hL]; rfl
  have l3 : q_lo L 3 = some v3 := by rw [hL]; rfl
  have l4 : q_lo L 4 = some v4 := by rw [hL]; rfl
  have hQ : Ext m0 rm → ∀ o S1, Rp S1 rm → q_out 0 o rz → (Cr 0 m0 rm rz) o S1 := fun a o S1 b e => ⟨b, a, e⟩
  unfold fm_X4_follow at h
  refine go_aload_n (n := 0) (by decide +kernel) l0 f0 ?_
  refine go_aload_n (n := 1) (by decide +kernel) l1 f1 ?_
  refine go_aload_n (n := 2) (by decide +kernel) l2 f2 ?_
  refine go_iload (n := 4) (by decide +kernel) l4 f4 ?_
  obtain ⟨x_2, m_3, hc_1, h⟩ := bd_s h
  refine go_callV (x := 62) (mi := 31) (n := 3) (ci := 5) (as := [v1, v2, v4]) (rest := []) (by decide +kernel) (by decide +kernel) rfl rfl (q_sum8 _ (Nat.le_of_ble_eq_true rfl)) R f0 (fx_k (c := 5) R (by decide +kernel)) (om_X4_load (Nat.le_trans (by decide) hd) R f0 f1 f2 f4 hc_1) (fun _ S_6 q_9 => ?_) (fun _ _ qq => kr_x qq)
  refine kr_v q_9 fun R_7 E_8 => ?_
  have E_10 := E_8
  refine go_aload_n (n := 0) (by decide +kernel) l0 f0 ?_
  refine go_getf (x := 10) (ci := 5) (kf := 0) (fin := 1) (t := 2) (by decide +kernel) (by decide +kernel) (by decide +kernel) R_7 f0 (fx_k (c := 5) R_7 (by decide +kernel)) fun v_11 f_12 => ?_
  have f_13 := q_is_eq (b := 17) f_12 (fx_v R_7 (by decide +kernel)).symm
  obtain ⟨x_17, e_18, h⟩ := lx_s h
  refine go_getf (x := 66) (ci := 9) (kf := 10) (fin := 0) (t := 0) (by decide +kernel) (by decide +kernel) (by decide +kernel) R_7 f_13 (fx_k (c := 9) R_7 (by decide +kernel)) fun v_14 f_15 => ?_
  have f_16 := q_is_eq f_15 e_18
  refine go_istore (n := 5) (by decide +kernel) (by decide +kernel) f_16 fun L_19 l_20 kp_21 => ?_
  have l_22 := kp_21 0 _ l0 (by decide) (Or.inl (by decide))
  have l_23 := kp_21 3 _ l3 (by decide) (Or.inl (by decide))
  refine ol_X4_follow_17 hd  ?_ ?_ (fun b => hQ (Ext.tr E_10 b)) BIG (Ext.rf _) h R_7 l_22 f0 l_23 f3 l_20 f_16
  · intro m_219 E_220
    intro S_216 L_217 v_213
    intro h R_218 l_214 f_215
    have E_221 := Ext.tr E_10 E_220
    refine go_goto (o := 85) (t := 147) (by decide +kernel) (by decide +kernel) ?_
    exact oj_X4_follow_147 hd R_218 l_214 f_215 (fun b => hQ (Ext.tr E_221 b)) h
  · intro m_238 E_239
    intro S_235 L_236 v_232
    intro h R_237 l_233 f_234
    have E_240 := Ext.tr E_10 E_239
    exact oj_X4_follow_147 hd R_237 l_233 f_234 (fun b => hQ (Ext.tr E_240 b)) h
end DF9
