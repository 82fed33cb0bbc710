/-! Methods as functions (written by wip/whole/dec.py), 9: X4_goOn, X4_passTasks, X4_follow. -/
section DF9
noncomputable def fj_X4_goOn_219 (c : Int → Int → MM → Option (Int × MM)) (y2 : Int) (m : MM) : Option (Int × MM) := bp (fm_X8_firstAble m) fun x_162 =>
lx (w32 (y2 + 1)) fun x_180 =>
c x_162 x_180 m
set_option maxHeartbeats 4000000 in
theorem oj_X4_goOn_219 {xs : List Int32} {d : Nat} {S : QS} {L : QL} {Q : QO → QS → Prop} {m : MM} {y2 : Int} {v0 : Value} {v2 : Value}  {rz : Int} {rm : MM} {c : Int → Int → MM → Option (Int × MM)} 
  (hd : 5 ≤ d) (R : Rp S m) (l0 : q_lo L 0 = some v0) (f0 : q_is 2 v0 16) (l2 : q_lo L 2 = some v2) (f2 : q_is 0 v2 y2)
  (hc : ∀ mq : MM, Ext m mq → ∀ {z1 : Int} {z2 : Int} {Sq : QS} {Lq : QL} {u0 : Value} {u1 : Value} {u2 : Value}, c z1 z2 mq = some (rz, rm) → Rp Sq mq → q_lo Lq 0 = some u0 → q_is 2 u0 16 → q_lo Lq 1 = some u1 → q_is 2 u1 z1 → q_lo Lq 2 = some u2 → q_is 0 u2 z2 → Go xs d qM_X4_goOn 10 Lq [] Sq Q)
  (hQ : Ext m rm → ∀ o S1, Rp S1 rm → q_out 9 o rz → Q o S1)
  (h : fj_X4_goOn_219 c y2 m = some (rz, rm)) : Go xs d qM_X4_goOn 219 L [] S Q := by
  unfold fj_X4_goOn_219 at h
  refine go_aload_n (n := 0) (by decide +kernel) l0 f0 ?_
  refine go_getf (x := 10) (ci := 5) (kf := 0) (fin := 1) (t := 2) (by decide +kernel) (by decide +kernel) (by decide +kernel) R f0 (fx_k (c := 5) R (by decide +kernel)) fun v_158 f_159 => ?_
  have f_160 := q_is_eq (b := 17) f_159 (fx_v R (by decide +kernel)).symm
  obtain ⟨x_162, hc_161, h⟩ := bp_s h
  refine go_callV (x := 238) (mi := 88) (n := 0) (ci := 9) (as := []) (rest := []) (by decide +kernel) (by decide +kernel) rfl rfl (q_sum8 _ (Nat.le_of_ble_eq_true rfl)) R f_160 (fx_k (c := 9) R (by decide +kernel)) (om_X8_firstAble (Nat.le_trans (by decide) hd) R f_160 hc_161) (fun _ S_166 q_169 => ?_) (fun _ _ qq => kr_x qq)
  refine kr_z (by decide) q_169 fun v_164 f_165 R_167 E_168 => ?_
  refine go_astore_n (n := 1) (by decide +kernel) (by decide +kernel) f_165 fun L_170 l_171 kp_172 => ?_
  have l_173 := kp_172 0 _ l0 (by decide) (Or.inr (q_is_cat f0 (Or.inr rfl)))
  have l_174 := kp_172 2 _ l2 (by decide) (Or.inl (by decide))
  refine go_iinc (n := 2) (c := 1) (c' := 1) (by decide +kernel) (by decide +kernel) l_174 f2 (by decide) fun L_175 v_176 f_177 l_178 kp_179 => ?_
  obtain ⟨x_180, e_181, h⟩ := lx_s h
  have f_182 := q_is_eq f_177 e_181
  have l_183 := kp_179 0 _ l_173 (by decide) (Or.inl (by decide))
  have l_184 := kp_179 1 _ l_171 (by decide) (Or.inr (q_is_cat f_165 (Or.inr rfl)))
  refine go_goto (o := (-220)) (t := 10) (by decide +kernel) (by decide +kernel) ?_
  exact hc m (Ext.rf _) h R_167 l_183 f0 l_184 f_165 l_178 f_182
noncomputable def fl_X4_goOn_10 : Nat → Int → Int → MM → Option (Int × MM)
  | 0, _, _, _ => none
  | n + 1, y1, y2, m => if y2 < 1000 then
if y1 = 0 then
some (0, m)
else
bp (fm_X4_goes m) fun x_29 =>
if x_29 = 0 then
some (0, m)
else
gd (okc m y1 2) <| lx (m y1 7) fun x_42 =>
if x_42 = 0 then
lx (m y1 4) fun x_48 =>
lx (m 16 3) fun x_53 =>
gd (okc m x_53 6) <| lx (m x_53 2) fun x_59 =>
if x_48 < x_59 then
lx (m 16 9) fun x_65 =>
if x_65 < 60 then
up m 16 9 (w32 (x_65 + 1)) fun m_77 =>
lx (m_77 16 3) fun x_87 =>
lx (m_77 y1 4) fun x_93 =>
gd (okc m_77 x_87 6) <| bp (fm_X5_at x_87 x_93 m_77) fun x_97 =>
lx (w32 (Int.tdiv x_97 1000000)) fun x_115 =>
if 7 < x_115 then
if 13 < x_115 then
if 18 < x_115 then
bd (fm_X4_doOtherLine y1 x_115 (Int.tmod (w32 (Int.tdiv x_97 1000)) 1000) (Int.tmod x_97 1000) m_77) fun x_147 m_148 =>
fj_X4_goOn_219 (fl_X4_goOn_10 n) y2 m_148
else
bd (fm_X4_doEndingLine y1 x_115 (Int.tmod (w32 (Int.tdiv x_97 1000)) 1000) (Int.tmod x_97 1000) m_77) fun x_198 m_199 =>
fj_X4_goOn_219 (fl_X4_goOn_10 n) y2 m_199
else
bd (fm_X4_doBranchLine y1 x_115 (Int.tmod (w32 (Int.tdiv x_97 1000)) 1000) m_77) fun x_218 m_219 =>
fj_X4_goOn_219 (fl_X4_goOn_10 n) y2 m_219
else
bd (fm_X4_doPlainLine y1 x_115 (Int.tmod (w32 (Int.tdiv x_97 1000)) 1000) (Int.tmod x_97 1000) m_77) fun x_242 m_243 =>
fj_X4_goOn_219 (fl_X4_goOn_10 n) y2 m_243
else
bd (fm_X4_getStuck (-1) m) fun x_256 m_257 =>
fj_X4_goOn_219 (fl_X4_goOn_10 n) y2 m_257
else
bd (fm_X4_endBranch y1 m) fun x_268 m_269 =>
fj_X4_goOn_219 (fl_X4_goOn_10 n) y2 m_269
else
bd (fm_X4_awake y1 m) fun x_280 m_281 =>
fj_X4_goOn_219 (fl_X4_goOn_10 n) y2 m_281
else
some (0, m)
set_option maxHeartbeats 4000000 in
theorem ol_X4_goOn_10 {xs : List Int32} {d : Nat} {Q : QO → QS → Prop} {mb : MM} {rz : Int} {rm : MM}
  (hd : 5 ≤ d)
  (hQ : Ext mb rm → ∀ o S1, Rp S1 rm → q_out 9 o rz → Q o S1) :
  ∀ (n : Nat) {m : MM} {S : QS} {L : QL} {y1 y2 : Int} {v0 : Value} {v1 : Value} {v2 : Value} , Ext mb m → fl_X4_goOn_10 n y1 y2 m = some (rz, rm) → Rp S m → q_lo L 0 = some v0 → q_is 2 v0 16 → q_lo L 1 = some v1 → q_is 2 v1 y1 → q_lo L 2 = some v2 → q_is 0 v2 y2 → Go xs d qM_X4_goOn 10 L [] S Q := by
  intro n
  induction n with
  | zero => intro m S L y1 y2 v0 v1 v2; intro E h R l0 f0 l1 f1 l2 f2; cases h
  | succ n ih0 =>
    intro m S L y1 y2 v0 v1 v2; intro E h R l0 f0 l1 f1 l2 f2
    have ih : ∀ mq : MM, Ext mb mq → ∀ {z1 : Int} {z2 : Int} {Sq : QS} {Lq : QL} {u0 : Value} {u1 : Value} {u2 : Value}, fl_X4_goOn_10 n z1 z2 mq = some (rz, rm) → Rp Sq mq → q_lo Lq 0 = some u0 → q_is 2 u0 16 → q_lo Lq 1 = some u1 → q_is 2 u1 z1 → q_lo Lq 2 = some u2 → q_is 0 u2 z2 → Go xs d qM_X4_goOn 10 Lq [] Sq Q := fun mq b => by intros; exact ih0 b ‹_› ‹_› ‹_› ‹_› ‹_› ‹_› ‹_› ‹_›
    unfold fl_X4_goOn_10 at h
    refine go_iload_n (n := 2) (by decide +kernel) l2 f2 ?_
    refine go_sipush (n := 1000) (z := 1000) (by decide +kernel) (by decide) fun v_24 f_25 => ?_
    refine go_icmp (c := .ge) (o := 219) (t := 233) (P := ¬ (y2 < 1000)) (by decide +kernel) (by decide +kernel) f2 f_25 (Int.not_lt.symm) (fun hp_26 => ?_) (fun hp_26 => ?_)
    · have h := it_f hp_26 h
      cases h
      exact go_vret (by decide +kernel) rfl (hQ E _ _ R q_out_n)
    · have h := it_n hp_26 h
      refine go_aload_n (n := 1) (by decide +kernel) l1 f1 ?_
      refine go_ifnull (o := 215) (t := 233) (by decide +kernel) (by decide +kernel) f1 (fun hp_27 => ?_) (fun hp_27 => ?_)
      · have h := it_t hp_27 h
        cases h
        exact go_vret (by decide +kernel) rfl (hQ E _ _ R q_out_n)
      · have h := it_f hp_27 h
        refine go_aload_n (n := 0) (by decide +kernel) l0 f0 ?_
        obtain ⟨x_29, hc_28, h⟩ := bp_s h
        refine go_callV (x := 69) (mi := 33) (n := 0) (ci := 5) (as := []) (rest := []) (by decide +kernel) (by decide +kernel) rfl rfl (q_sum8 _ (Nat.le_of_ble_eq_true rfl)) R f0 (fx_k (c := 5) R (by decide +kernel)) (om_X4_goes (Nat.le_trans (by decide) hd) R f0 hc_28) (fun _ S_33 q_36 => ?_) (fun _ _ qq => kr_x qq)
        refine kr_z (by decide) q_36 fun v_31 f_32 R_34 E_35 => ?_
        refine go_if (c := .eq) (o := 208) (t := 233) (P := x_29 = 0) (by decide +kernel) (by decide +kernel) f_32 (Iff.rfl) (fun hp_37 => ?_) (fun hp_37 => ?_)
        · have h := it_t hp_37 h
          cases h
          exact go_vret (by decide +kernel) rfl (hQ E _ _ R_34 q_out_n)
        · have h := it_f hp_37 h
          refine go_aload_n (n := 1) (by decide +kernel) l1 f1 ?_
          obtain ⟨g_40, h⟩ := gd_s h
          obtain ⟨x_42, e_43, h⟩ := lx_s h
          refine go_getf (x := 163) (ci := 2) (kf := 7) (fin := 0) (t := 0) (by decide +kernel) (by decide +kernel) (by decide +kernel) R_34 f1 g_40 fun v_38 f_39 => ?_
          have f_41 := q_is_eq f_39 e_43
          refine go_if (c := .eq) (o := 11) (t := 43) (P := x_42 = 0) (by decide +kernel) (by decide +kernel) f_41 (Iff.rfl) (fun hp_44 => ?_) (fun hp_44 => ?_)
          · have h := it_t hp_44 h
            refine go_aload_n (n := 1) (by decide +kernel) l1 f1 ?_
            obtain ⟨x_48, e_49, h⟩ := lx_s h
            refine go_getf (x := 168) (ci := 2) (kf := 4) (fin := 0) (t := 0) (by decide +kernel) (by decide +kernel) (by decide +kernel) R_34 f1 g_40 fun v_45 f_46 => ?_
            have f_47 := q_is_eq f_46 e_49
            refine go_aload_n (n := 0) (by decide +kernel) l0 f0 ?_
            obtain ⟨x_53, e_54, h⟩ := lx_s h
            refine go_getf (x := 31) (ci := 5) (kf := 3) (fin := 0) (t := 2) (by decide +kernel) (by decide +kernel) (by decide +kernel) R_34 f0 (fx_k (c := 5) R_34 (by decide +kernel)) fun v_50 f_51 => ?_
            have f_52 := q_is_eq f_51 e_54
            obtain ⟨g_57, h⟩ := gd_s h
            obtain ⟨x_59, e_60, h⟩ := lx_s h
            refine go_getf (x := 245) (ci := 6) (kf := 2) (fin := 0) (t := 0) (by decide +kernel) (by decide +kernel) (by decide +kernel) R_34 f_52 g_57 fun v_55 f_56 => ?_
            have f_58 := q_is_eq f_56 e_60
            refine go_icmp (c := .lt) (o := 11) (t := 65) (P := x_48 < x_59) (by decide +kernel) (by decide +kernel) f_47 f_58 (Iff.rfl) (fun hp_61 => ?_) (fun hp_61 => ?_)
            · have h := it_t hp_61 h
              refine go_aload_n (n := 0) (by decide +kernel) l0 f0 ?_
              obtain ⟨x_65, e_66, h⟩ := lx_s h
              refine go_getf (x := 52) (ci := 5) (kf := 9) (fin := 0) (t := 0) (by decide +kernel) (by decide +kernel) (by decide +kernel) R_34 f0 (fx_k (c := 5) R_34 (by decide +kernel)) fun v_62 f_63 => ?_
              have f_64 := q_is_eq f_63 e_66
              refine go_bipush (n := 60) (z := 60) (by decide +kernel) (by decide) fun v_67 f_68 => ?_
              refine go_icmp (c := .lt) (o := 11) (t := 82) (P := x_65 < 60) (by decide +kernel) (by decide +kernel) f_64 f_68 (Iff.rfl) (fun hp_69 => ?_) (fun hp_69 => ?_)
              · have h := it_t hp_69 h
                refine go_aload_n (n := 0) (by decide +kernel) l0 f0 ?_
                refine go_dup (by decide +kernel) f0 (Or.inr rfl) ?_
                refine go_getf (x := 52) (ci := 5) (kf := 9) (fin := 0) (t := 0) (by decide +kernel) (by decide +kernel) (by decide +kernel) R_34 f0 (fx_k (c := 5) R_34 (by decide +kernel)) fun v_70 f_71 => ?_
                have f_72 := q_is_eq f_71 e_66
                refine go_iconst (n := 1) (z := 1) (by decide +kernel) (by decide) fun v_73 f_74 => ?_
                refine go_iadd (by decide +kernel) f_72 f_74 fun v_75 f_76 => ?_
                obtain ⟨m_77, e_78, h⟩ := up_s h
                refine go_putf (x := 52) (ci := 5) (kf := 9) (fin := 0) (zt := 0) (by decide +kernel) (by decide +kernel) (by decide) (by decide +kernel) (by decide) (Or.inl rfl) R_34 f0 f_76 (fun hq => absurd hq (by decide)) (fx_k (c := 5) R_34 (by decide +kernel)) e_78 (fx_f (j := 9) R_34.2 (fx_k (c := 5) R_34 (by decide +kernel)) (by decide +kernel)) fun S_79 R_80 E_81 => ?_
                have E_83 := Ext.tr E E_81
                refine go_aload_n (n := 0) (by decide +kernel) l0 f0 ?_
                obtain ⟨x_87, e_88, h⟩ := lx_s h
                refine go_getf (x := 31) (ci := 5) (kf := 3) (fin := 0) (t := 2) (by decide +kernel) (by decide +kernel) (by decide +kernel) R_80 f0 (fx_k (c := 5) R_80 (by decide +kernel)) fun v_84 f_85 => ?_
                have f_86 := q_is_eq f_85 e_88
                refine go_aload_n (n := 1) (by decide +kernel) l1 f1 ?_
                have g_91 := Ext.ok E_81 g_40
                obtain ⟨x_93, e_94, h⟩ := lx_s h
                refine go_getf (x := 168) (ci := 2) (kf := 4) (fin := 0) (t := 0) (by decide +kernel) (by decide +kernel) (by decide +kernel) R_80 f1 g_91 fun v_89 f_90 => ?_
                have f_92 := q_is_eq f_90 e_94
                obtain ⟨g_95, h⟩ := gd_s h
                obtain ⟨x_97, hc_96, h⟩ := bp_s h
                refine go_callV (x := 174) (mi := 59) (n := 1) (ci := 6) (as := [v_89]) (rest := []) (by decide +kernel) (by decide +kernel) rfl rfl (q_sum8 _ (Nat.le_of_ble_eq_true rfl)) R_80 f_86 g_95 (om_X5_at (Nat.le_trans (by decide) hd) R_80 g_95 f_86 f_92 hc_96) (fun _ S_101 q_104 => ?_) (fun _ _ qq => kr_x qq)
                refine kr_z (by decide) q_104 fun v_99 f_100 R_102 E_103 => ?_
                refine go_istore_n (n := 3) (by decide +kernel) (by decide +kernel) f_100 fun L_105 l_106 kp_107 => ?_
                have l_108 := kp_107 0 _ l0 (by decide) (Or.inl (by decide))
                have l_109 := kp_107 1 _ l1 (by decide) (Or.inl (by decide))
                have l_110 := kp_107 2 _ l2 (by decide) (Or.inr (q_is_cat f2 (Or.inl rfl)))
                refine go_iload_n (n := 3) (by decide +kernel) l_106 f_100 ?_
                refine go_ldc (x := 249) (n := 1000000) (a := 0) (b := 0) (z := 1000000) (by decide +kernel) (by decide +kernel) (by decide +kernel) fun v_111 f_112 => ?_
                refine go_idiv (by decide +kernel) f_100 f_112 (by decide) fun v_113 f_114 => ?_
                obtain ⟨x_115, e_116, h⟩ := lx_s h
                have f_117 := q_is_eq f_114 e_116
                refine go_istore (n := 4) (by decide +kernel) (by decide +kernel) f_117 fun L_118 l_119 kp_120 => ?_
                have l_121 := kp_120 0 _ l_108 (by decide) (Or.inl (by decide))
                have l_122 := kp_120 1 _ l_109 (by decide) (Or.inl (by decide))
                have l_123 := kp_120 2 _ l_110 (by decide) (Or.inl (by decide))
                have l_124 := kp_120 3 _ l_106 (by decide) (Or.inr (q_is_cat f_100 (Or.inl rfl)))
                refine go_iload (n := 4) (by decide +kernel) l_119 f_117 ?_
                refine go_bipush (n := 7) (z := 7) (by decide +kernel) (by decide) fun v_125 f_126 => ?_
                refine go_icmp (c := .gt) (o := 27) (t := 141) (P := 7 < x_115) (by decide +kernel) (by decide +kernel) f_117 f_126 (Iff.rfl) (fun hp_127 => ?_) (fun hp_127 => ?_)
                · have h := it_t hp_127 h
                  refine go_iload (n := 4) (by decide +kernel) l_119 f_117 ?_
                  refine go_bipush (n := 13) (z := 13) (by decide +kernel) (by decide) fun v_128 f_129 => ?_
                  refine go_icmp (c := .gt) (o := 22) (t := 167) (P := 13 < x_115) (by decide +kernel) (by decide +kernel) f_117 f_129 (Iff.rfl) (fun hp_130 => ?_) (fun hp_130 => ?_)
                  · have h := it_t hp_130 h
                    refine go_iload (n := 4) (by decide +kernel) l_119 f_117 ?_
                    refine go_bipush (n := 18) (z := 18) (by decide +kernel) (by decide) fun v_131 f_132 => ?_
                    refine go_icmp (c := .gt) (o := 27) (t := 198) (P := 18 < x_115) (by decide +kernel) (by decide +kernel) f_117 f_132 (Iff.rfl) (fun hp_133 => ?_) (fun hp_133 => ?_)
                    · have h := it_t hp_133 h
                      refine go_aload_n (n := 0) (by decide +kernel) l_121 f0 ?_
                      refine go_aload_n (n := 1) (by decide +kernel) l_122 f1 ?_
                      refine go_iload (n := 4) (by decide +kernel) l_119 f_117 ?_
                      refine go_iload_n (n := 3) (by decide +kernel) l_124 f_100 ?_
                      refine go_sipush (n := 1000) (z := 1000) (by decide +kernel) (by decide) fun v_134 f_135 => ?_
                      refine go_idiv (by decide +kernel) f_100 f_135 (by decide) fun v_136 f_137 => ?_
                      refine go_sipush (n := 1000) (z := 1000) (by decide +kernel) (by decide) fun v_138 f_139 => ?_
                      refine go_irem (by decide +kernel) f_137 f_139 (by decide) fun v_140 f_141 => ?_
                      refine go_iload_n (n := 3) (by decide +kernel) l_124 f_100 ?_
                      refine go_sipush (n := 1000) (z := 1000) (by decide +kernel) (by decide) fun v_142 f_143 => ?_
                      refine go_irem (by decide +kernel) f_100 f_143 (by decide) fun v_144 f_145 => ?_
                      obtain ⟨x_147, m_148, hc_146, h⟩ := bd_s h
                      refine go_callV (x := 260) (mi := 55) (n := 4) (ci := 5) (as := [v1, v_113, v_140, v_144]) (rest := []) (by decide +kernel) (by decide +kernel) rfl rfl (q_sum8 _ (Nat.le_of_ble_eq_true rfl)) R_102 f0 (fx_k (c := 5) R_102 (by decide +kernel)) (om_X4_doOtherLine (Nat.le_trans (by decide) hd) R_102 f0 f1 f_117 f_141 f_145 hc_146) (fun _ S_151 q_154 => ?_) (fun _ _ qq => kr_x qq)
                      refine kr_v q_154 fun R_152 E_153 => ?_
                      have E_157 := Ext.tr E_83 E_153
                      exact oj_X4_goOn_219 hd R_152 l_121 f0 l_123 f2 (fun mq b => ih mq (Ext.tr E_157 b)) (fun b => hQ (Ext.tr E_157 b)) h
                    · have h := it_f hp_133 h
                      refine go_aload_n (n := 0) (by decide +kernel) l_121 f0 ?_
                      refine go_aload_n (n := 1) (by decide +kernel) l_122 f1 ?_
                      refine go_iload (n := 4) (by decide +kernel) l_119 f_117 ?_
                      refine go_iload_n (n := 3) (by decide +kernel) l_124 f_100 ?_
                      refine go_sipush (n := 1000) (z := 1000) (by decide +kernel) (by decide) fun v_185 f_186 => ?_
                      refine go_idiv (by decide +kernel) f_100 f_186 (by decide) fun v_187 f_188 => ?_
                      refine go_sipush (n := 1000) (z := 1000) (by decide +kernel) (by decide) fun v_189 f_190 => ?_
                      refine go_irem (by decide +kernel) f_188 f_190 (by decide) fun v_191 f_192 => ?_
                      refine go_iload_n (n := 3) (by decide +kernel) l_124 f_100 ?_
                      refine go_sipush (n := 1000) (z := 1000) (by decide +kernel) (by decide) fun v_193 f_194 => ?_
                      refine go_irem (by decide +kernel) f_100 f_194 (by decide) fun v_195 f_196 => ?_
                      obtain ⟨x_198, m_199, hc_197, h⟩ := bd_s h
                      refine go_callV (x := 257) (mi := 53) (n := 4) (ci := 5) (as := [v1, v_113, v_191, v_195]) (rest := []) (by decide +kernel) (by decide +kernel) rfl rfl (q_sum8 _ (Nat.le_of_ble_eq_true rfl)) R_102 f0 (fx_k (c := 5) R_102 (by decide +kernel)) (om_X4_doEndingLine (Nat.le_trans (by decide) hd) R_102 f0 f1 f_117 f_192 f_196 hc_197) (fun _ S_202 q_205 => ?_) (fun _ _ qq => kr_x qq)
                      refine kr_v q_205 fun R_203 E_204 => ?_
                      have E_208 := Ext.tr E_83 E_204
                      refine go_goto (o := 24) (t := 219) (by decide +kernel) (by decide +kernel) ?_
                      exact oj_X4_goOn_219 hd R_203 l_121 f0 l_123 f2 (fun mq b => ih mq (Ext.tr E_208 b)) (fun b => hQ (Ext.tr E_208 b)) h
                  · have h := it_f hp_130 h
                    refine go_aload_n (n := 0) (by decide +kernel) l_121 f0 ?_
                    refine go_aload_n (n := 1) (by decide +kernel) l_122 f1 ?_
                    refine go_iload (n := 4) (by decide +kernel) l_119 f_117 ?_
                    refine go_iload_n (n := 3) (by decide +kernel) l_124 f_100 ?_
                    refine go_sipush (n := 1000) (z := 1000) (by decide +kernel) (by decide) fun v_209 f_210 => ?_
                    refine go_idiv (by decide +kernel) f_100 f_210 (by decide) fun v_211 f_212 => ?_
                    refine go_sipush (n := 1000) (z := 1000) (by decide +kernel) (by decide) fun v_213 f_214 => ?_
                    refine go_irem (by decide +kernel) f_212 f_214 (by decide) fun v_215 f_216 => ?_
                    obtain ⟨x_218, m_219, hc_217, h⟩ := bd_s h
                    refine go_callV (x := 254) (mi := 48) (n := 3) (ci := 5) (as := [v1, v_113, v_215]) (rest := []) (by decide +kernel) (by decide +kernel) rfl rfl (q_sum8 _ (Nat.le_of_ble_eq_true rfl)) R_102 f0 (fx_k (c := 5) R_102 (by decide +kernel)) (om_X4_doBranchLine (Nat.le_trans (by decide) hd) R_102 f0 f1 f_117 f_216 hc_217) (fun _ S_222 q_225 => ?_) (fun _ _ qq => kr_x qq)
                    refine kr_v q_225 fun R_223 E_224 => ?_
                    have E_228 := Ext.tr E_83 E_224
                    refine go_goto (o := 55) (t := 219) (by decide +kernel) (by decide +kernel) ?_
                    exact oj_X4_goOn_219 hd R_223 l_121 f0 l_123 f2 (fun mq b => ih mq (Ext.tr E_228 b)) (fun b => hQ (Ext.tr E_228 b)) h
                · have h := it_f hp_127 h
                  refine go_aload_n (n := 0) (by decide +kernel) l_121 f0 ?_
                  refine go_aload_n (n := 1) (by decide +kernel) l_122 f1 ?_
                  refine go_iload (n := 4) (by decide +kernel) l_119 f_117 ?_
                  refine go_iload_n (n := 3) (by decide +kernel) l_124 f_100 ?_
                  refine go_sipush (n := 1000) (z := 1000) (by decide +kernel) (by decide) fun v_229 f_230 => ?_
                  refine go_idiv (by decide +kernel) f_100 f_230 (by decide) fun v_231 f_232 => ?_
                  refine go_sipush (n := 1000) (z := 1000) (by decide +kernel) (by decide) fun v_233 f_234 => ?_
                  refine go_irem (by decide +kernel) f_232 f_234 (by decide) fun v_235 f_236 => ?_
                  refine go_iload_n (n := 3) (by decide +kernel) l_124 f_100 ?_
                  refine go_sipush (n := 1000) (z := 1000) (by decide +kernel) (by decide) fun v_237 f_238 => ?_
                  refine go_irem (by decide +kernel) f_100 f_238 (by decide) fun v_239 f_240 => ?_
                  obtain ⟨x_242, m_243, hc_241, h⟩ := bd_s h
                  refine go_callV (x := 250) (mi := 47) (n := 4) (ci := 5) (as := [v1, v_113, v_235, v_239]) (rest := []) (by decide +kernel) (by decide +kernel) rfl rfl (q_sum8 _ (Nat.le_of_ble_eq_true rfl)) R_102 f0 (fx_k (c := 5) R_102 (by decide +kernel)) (om_X4_doPlainLine (Nat.le_trans (by decide) hd) R_102 f0 f1 f_117 f_236 f_240 hc_241) (fun _ S_246 q_249 => ?_) (fun _ _ qq => kr_x qq)
                  refine kr_v q_249 fun R_247 E_248 => ?_
                  have E_252 := Ext.tr E_83 E_248
                  refine go_goto (o := 81) (t := 219) (by decide +kernel) (by decide +kernel) ?_
                  exact oj_X4_goOn_219 hd R_247 l_121 f0 l_123 f2 (fun mq b => ih mq (Ext.tr E_252 b)) (fun b => hQ (Ext.tr E_252 b)) h
              · have h := it_f hp_69 h
                refine go_aload_n (n := 0) (by decide +kernel) l0 f0 ?_
                refine go_iconst (n := (-1)) (z := (-1)) (by decide +kernel) (by decide) fun v_253 f_254 => ?_
                obtain ⟨x_256, m_257, hc_255, h⟩ := bd_s h
                refine go_callV (x := 126) (mi := 34) (n := 1) (ci := 5) (as := [v_253]) (rest := []) (by decide +kernel) (by decide +kernel) rfl rfl (q_sum8 _ (Nat.le_of_ble_eq_true rfl)) R_34 f0 (fx_k (c := 5) R_34 (by decide +kernel)) (om_X4_getStuck (Nat.le_trans (by decide) hd) R_34 f0 f_254 hc_255) (fun _ S_260 q_263 => ?_) (fun _ _ qq => kr_x qq)
                refine kr_v q_263 fun R_261 E_262 => ?_
                have E_266 := Ext.tr E E_262
                refine go_goto (o := 140) (t := 219) (by decide +kernel) (by decide +kernel) ?_
                exact oj_X4_goOn_219 hd R_261 l0 f0 l2 f2 (fun mq b => ih mq (Ext.tr E_266 b)) (fun b => hQ (Ext.tr E_266 b)) h
            · have h := it_f hp_61 h
              refine go_aload_n (n := 0) (by decide +kernel) l0 f0 ?_
              refine go_aload_n (n := 1) (by decide +kernel) l1 f1 ?_
              obtain ⟨x_268, m_269, hc_267, h⟩ := bd_s h
              refine go_callV (x := 246) (mi := 43) (n := 1) (ci := 5) (as := [v1]) (rest := []) (by decide +kernel) (by decide +kernel) rfl rfl (q_sum8 _ (Nat.le_of_ble_eq_true rfl)) R_34 f0 (fx_k (c := 5) R_34 (by decide +kernel)) (om_X4_endBranch (Nat.le_trans (by decide) hd) R_34 f0 f1 hc_267) (fun _ S_272 q_275 => ?_) (fun _ _ qq => kr_x qq)
              refine kr_v q_275 fun R_273 E_274 => ?_
              have E_278 := Ext.tr E E_274
              refine go_goto (o := 157) (t := 219) (by decide +kernel) (by decide +kernel) ?_
              exact oj_X4_goOn_219 hd R_273 l0 f0 l2 f2 (fun mq b => ih mq (Ext.tr E_278 b)) (fun b => hQ (Ext.tr E_278 b)) h
          · have h := it_f hp_44 h
            refine go_aload_n (n := 0) (by decide +kernel) l0 f0 ?_
            refine go_aload_n (n := 1) (by decide +kernel) l1 f1 ?_
            obtain ⟨x_280, m_281, hc_279, h⟩ := bd_s h
            refine go_callV (x := 242) (mi := 46) (n := 1) (ci := 5) (as := [v1]) (rest := []) (by decide +kernel) (by decide +kernel) rfl rfl (q_sum8 _ (Nat.le_of_ble_eq_true rfl)) R_34 f0 (fx_k (c := 5) R_34 (by decide +kernel)) (om_X4_awake (Nat.le_trans (by decide) hd) R_34 f0 f1 hc_279) (fun _ S_284 q_287 => ?_) (fun _ _ qq => kr_x qq)
            refine kr_v q_287 fun R_285 E_286 => ?_
            have E_290 := Ext.tr E E_286
            refine go_goto (o := 179) (t := 219) (by decide +kernel) (by decide +kernel) ?_
            exact oj_X4_goOn_219 hd R_285 l0 f0 l2 f2 (fun mq b => ih mq (Ext.tr E_290 b)) (fun b => hQ (Ext.tr E_290 b)) h
noncomputable def fm_X4_goOn (m0 : MM) : Option (Int × MM) := bp (fm_X8_firstAble m0) fun x_5 =>
fl_X4_goOn_10   BIG x_5 0 m0
set_option maxHeartbeats 4000000 in
theorem om_X4_goOn {xs : List Int32} {d : Nat} {S : QS} {m0 : MM} {v0 : Value} {rz : Int} {rm : MM}
  (hd : 6 ≤ d) (R : Rp S m0) (f0 : q_is 2 v0 16)
  (h : fm_X4_goOn m0 = some (rz, rm)) : Mt xs d 45 [v0] S (Cr 9 m0 rm rz) := by
  obtain ⟨d, rfl⟩ : ∃ e, d = e + 1 := ⟨d - 1, by omega⟩
  have hd : 5 ≤ d := Nat.le_of_succ_le_succ hd
  refine Mt.of (M := qM_X4_goOn) rfl (by rw [sl_1 (q_is_cat f0 (Or.inr rfl)), sl_0]; decide) ?_
  rw [la_1 (q_is_cat f0 (Or.inr rfl)), la_0]
  obtain ⟨L, hL⟩ : ∃ L : QL, L = [(0, v0)] := ⟨_, rfl⟩
  rw [← hL]
  have l0 : q_lo L 0 = some v0 := by rw [hL]; rfl
  have hQ : Ext m0 rm → ∀ o S1, Rp S1 rm → q_out 9 o rz → (Cr 9 m0 rm rz) o S1 := fun a o S1 b e => ⟨b, a, e⟩
  unfold fm_X4_goOn at h
  refine go_aload_n (n := 0) (by decide +kernel) l0 f0 ?_
  refine go_getf (x := 10) (ci := 5) (kf := 0) (fin := 1) (t := 2) (by decide +kernel) (by decide +kernel) (by decide +kernel) R f0 (fx_k (c := 5) R (by decide +kernel)) fun v_1 f_2 => ?_
  have f_3 := q_is_eq (b := 17) f_2 (fx_v R (by decide +kernel)).symm
  obtain ⟨x_5, hc_4, h⟩ := bp_s h
  refine go_callV (x := 238) (mi := 88) (n := 0) (ci := 9) (as := []) (rest := []) (by decide +kernel) (by decide +kernel) rfl rfl (q_sum8 _ (Nat.le_of_ble_eq_true rfl)) R f_3 (fx_k (c := 9) R (by decide +kernel)) (om_X8_firstAble (Nat.le_trans (by decide) hd) R f_3 hc_4) (fun _ S_9 q_12 => ?_) (fun _ _ qq => kr_x qq)
  refine kr_z (by decide) q_12 fun v_7 f_8 R_10 E_11 => ?_
  refine go_astore_n (n := 1) (by decide +kernel) (by decide +kernel) f_8 fun L_13 l_14 kp_15 => ?_
  have l_16 := kp_15 0 _ l0 (by decide) (Or.inr (q_is_cat f0 (Or.inr rfl)))
  refine go_iconst (n := 0) (z := 0) (by decide +kernel) (by decide) fun v_17 f_18 => ?_
  refine go_istore_n (n := 2) (by decide +kernel) (by decide +kernel) f_18 fun L_19 l_20 kp_21 => ?_
  have l_22 := kp_21 0 _ l_16 (by decide) (Or.inl (by decide))
  have l_23 := kp_21 1 _ l_14 (by decide) (Or.inr (q_is_cat f_8 (Or.inr rfl)))
  refine ol_X4_goOn_10 hd   hQ BIG (Ext.rf _) h R_10 l_22 f0 l_23 f_8 l_20 f_18
noncomputable def fj_X4_passTasks_88 (c : Int → MM → Option (Int × MM)) (y1 s0 : Int) (m : MM) : Option (Int × MM) := if s0 < y1 then
bd (fm_X4_getStuck s0 m) fun x_100 m_101 =>
lx (w32 (y1 + 1)) fun x_116 =>
c x_116 m_101
else
lx (w32 (y1 + 1)) fun x_95 =>
c x_95 m
set_option maxHeartbeats 4000000 in
theorem oj_X4_passTasks_88 {xs : List Int32} {d : Nat} {S : QS} {L : QL} {Q : QO → QS → Prop} {m : MM} {y1 s0 : Int} {v0 : Value} {v1 : Value} {w0 : Value}  {rz : Int} {rm : MM} {c : Int → MM → Option (Int × MM)} 
  (hd : 2 ≤ d) (R : Rp S m) (l0 : q_lo L 0 = some v0) (f0 : q_is 2 v0 16) (l1 : q_lo L 1 = some v1) (f1 : q_is 0 v1 y1) (fs0 : q_is 0 w0 s0)
  (hc : ∀ mq : MM, Ext m mq → ∀ {z1 : Int} {Sq : QS} {Lq : QL} {u0 : Value} {u1 : Value}, c z1 mq = some (rz, rm) → Rp Sq mq → q_lo Lq 0 = some u0 → q_is 2 u0 16 → q_lo Lq 1 = some u1 → q_is 0 u1 z1 → Go xs d qM_X4_passTasks 8 Lq [] Sq Q)
  (hQ : Ext m rm → ∀ o S1, Rp S1 rm → q_out 9 o rz → Q o S1)
  (h : fj_X4_passTasks_88 c y1 s0 m = some (rz, rm)) : Go xs d qM_X4_passTasks 88 L [w0] S Q := by
  unfold fj_X4_passTasks_88 at h
  refine go_istore_n (n := 2) (by decide +kernel) (by decide +kernel) fs0 fun L_84 l_85 kp_86 => ?_
  have l_87 := kp_86 0 _ l0 (by decide) (Or.inl (by decide))
  have l_88 := kp_86 1 _ l1 (by decide) (Or.inr (q_is_cat f1 (Or.inl rfl)))
  refine go_iload_n (n := 2) (by decide +kernel) l_85 fs0 ?_
  refine go_iload_n (n := 1) (by decide +kernel) l_88 f1 ?_
  refine go_icmp (c := .ge) (o := 8) (t := 99) (P := ¬ (s0 < y1)) (by decide +kernel) (by decide +kernel) fs0 f1 (Int.not_lt.symm) (fun hp_89 => ?_) (fun hp_89 => ?_)
  · have h := it_f hp_89 h
    refine go_iinc (n := 1) (c := 1) (c' := 1) (by decide +kernel) (by decide +kernel) l_88 f1 (by decide) fun L_90 v_91 f_92 l_93 kp_94 => ?_
    obtain ⟨x_95, e_96, h⟩ := lx_s h
    have f_97 := q_is_eq f_92 e_96
    have l_98 := kp_94 0 _ l_87 (by decide) (Or.inr (q_is_cat f0 (Or.inr rfl)))
    refine go_goto (o := (-94)) (t := 8) (by decide +kernel) (by decide +kernel) ?_
    exact hc m (Ext.rf _) h R l_98 f0 l_93 f_97
  · have h := it_n hp_89 h
    refine go_aload_n (n := 0) (by decide +kernel) l_87 f0 ?_
    refine go_iload_n (n := 2) (by decide +kernel) l_85 fs0 ?_
    obtain ⟨x_100, m_101, hc_99, h⟩ := bd_s h
    refine go_callV (x := 126) (mi := 34) (n := 1) (ci := 5) (as := [w0]) (rest := []) (by decide +kernel) (by decide +kernel) rfl rfl (q_sum8 _ (Nat.le_of_ble_eq_true rfl)) R f0 (fx_k (c := 5) R (by decide +kernel)) (om_X4_getStuck (Nat.le_trans (by decide) hd) R f0 fs0 hc_99) (fun _ S_104 q_107 => ?_) (fun _ _ qq => kr_x qq)
    refine kr_v q_107 fun R_105 E_106 => ?_
    have E_110 := E_106
    refine go_iinc (n := 1) (c := 1) (c' := 1) (by decide +kernel) (by decide +kernel) l_88 f1 (by decide) fun L_111 v_112 f_113 l_114 kp_115 => ?_
    obtain ⟨x_116, e_117, h⟩ := lx_s h
    have f_118 := q_is_eq f_113 e_117
    have l_119 := kp_115 0 _ l_87 (by decide) (Or.inr (q_is_cat f0 (Or.inr rfl)))
    refine go_goto (o := (-94)) (t := 8) (by decide +kernel) (by decide +kernel) ?_
    exact hc m_101 E_110 h R_105 l_119 f0 l_114 f_118
noncomputable def fj_X4_passTasks_57 (c : Int → MM → Option (Int × MM)) (y1 : Int) (m : MM) : Option (Int × MM) := lx (m 16 2) fun x_69 =>
gd (okc m x_69 3) <| bp (fm_X2_kind x_69 y1 m) fun x_73 =>
if x_73 = 17 then
lx (m 17 12) fun x_129 =>
bp (fm_X2_nextCommand x_69 x_129 m) fun x_132 =>
fj_X4_passTasks_88 c y1 x_132 m
else
fj_X4_passTasks_88 c y1 y1 m
set_option maxHeartbeats 4000000 in
theorem oj_X4_passTasks_57 {xs : List Int32} {d : Nat} {S : QS} {L : QL} {Q : QO → QS → Prop} {m : MM} {y1 : Int} {v0 : Value} {v1 : Value}  {rz : Int} {rm : MM} {c : Int → MM → Option (Int × MM)} 
  (hd : 2 ≤ d) (R : Rp S m) (l0 : q_lo L 0 = some v0) (f0 : q_is 2 v0 16) (l1 : q_lo L 1 = some v1) (f1 : q_is 0 v1 y1)
  (hc : ∀ mq : MM, Ext m mq → ∀ {z1 : Int} {Sq : QS} {Lq : QL} {u0 : Value} {u1 : Value}, c z1 mq = some (rz, rm) → Rp Sq mq → q_lo Lq 0 = some u0 → q_is 2 u0 16 → q_lo Lq 1 = some u1 → q_is 0 u1 z1 → Go xs d qM_X4_passTasks 8 Lq [] Sq Q)
  (hQ : Ext m rm → ∀ o S1, Rp S1 rm → q_out 9 o rz → Q o S1)
  (h : fj_X4_passTasks_57 c y1 m = some (rz, rm)) : Go xs d qM_X4_passTasks 57 L [] S Q := by
  unfold fj_X4_passTasks_57 at h
  refine go_aload_n (n := 0) (by decide +kernel) l0 f0 ?_
  obtain ⟨x_69, e_70, h⟩ := lx_s h
  refine go_getf (x := 28) (ci := 5) (kf := 2) (fin := 0) (t := 2) (by decide +kernel) (by decide +kernel) (by decide +kernel) R f0 (fx_k (c := 5) R (by decide +kernel)) fun v_66 f_67 => ?_
  have f_68 := q_is_eq f_67 e_70
  refine go_iload_n (n := 1) (by decide +kernel) l1 f1 ?_
  obtain ⟨g_71, h⟩ := gd_s h
  obtain ⟨x_73, hc_72, h⟩ := bp_s h
  refine go_callV (x := 83) (mi := 9) (n := 1) (ci := 3) (as := [v1]) (rest := []) (by decide +kernel) (by decide +kernel) rfl rfl (q_sum8 _ (Nat.le_of_ble_eq_true rfl)) R f_68 g_71 (om_X2_kind (Nat.le_trans (by decide) hd) R g_71 f_68 f1 hc_72) (fun _ S_77 q_80 => ?_) (fun _ _ qq => kr_x qq)
  refine kr_z (by decide) q_80 fun v_75 f_76 R_78 E_79 => ?_
  refine go_bipush (n := 17) (z := 17) (by decide +kernel) (by decide) fun v_81 f_82 => ?_
  refine go_icmp (c := .ne) (o := 20) (t := 87) (P := ¬ (x_73 = 17)) (by decide +kernel) (by decide +kernel) f_76 f_82 (Iff.rfl) (fun hp_83 => ?_) (fun hp_83 => ?_)
  · have h := it_f hp_83 h
    refine go_iload_n (n := 1) (by decide +kernel) l1 f1 ?_
    exact oj_X4_passTasks_88 hd R_78 l0 f0 l1 f1 f1 hc hQ h
  · have h := it_n hp_83 h
    refine go_aload_n (n := 0) (by decide +kernel) l0 f0 ?_
    refine go_getf (x := 28) (ci := 5) (kf := 2) (fin := 0) (t := 2) (by decide +kernel) (by decide +kernel) (by decide +kernel) R_78 f0 (fx_k (c := 5) R_78 (by decide +kernel)) fun v_120 f_121 => ?_
    have f_122 := q_is_eq f_121 e_70
    refine go_aload_n (n := 0) (by decide +kernel) l0 f0 ?_
    refine go_getf (x := 10) (ci := 5) (kf := 0) (fin := 1) (t := 2) (by decide +kernel) (by decide +kernel) (by decide +kernel) R_78 f0 (fx_k (c := 5) R_78 (by decide +kernel)) fun v_123 f_124 => ?_
    have f_125 := q_is_eq (b := 17) f_124 (fx_v R_78 (by decide +kernel)).symm
    obtain ⟨x_129, e_130, h⟩ := lx_s h
    refine go_getf (x := 114) (ci := 9) (kf := 12) (fin := 0) (t := 0) (by decide +kernel) (by decide +kernel) (by decide +kernel) R_78 f_125 (fx_k (c := 9) R_78 (by decide +kernel)) fun v_126 f_127 => ?_
    have f_128 := q_is_eq f_127 e_130
    obtain ⟨x_132, hc_131, h⟩ := bp_s h
    refine go_callV (x := 123) (mi := 22) (n := 1) (ci := 3) (as := [v_126]) (rest := []) (by decide +kernel) (by decide +kernel) rfl rfl (q_sum8 _ (Nat.le_of_ble_eq_true rfl)) R_78 f_122 g_71 (om_X2_nextCommand (Nat.le_trans (by decide) hd) R_78 g_71 f_122 f_128 hc_131) (fun _ S_136 q_139 => ?_) (fun _ _ qq => kr_x qq)
    refine kr_z (by decide) q_139 fun v_134 f_135 R_137 E_138 => ?_
    refine go_goto (o := 4) (t := 88) (by decide +kernel) (by decide +kernel) ?_
    exact oj_X4_passTasks_88 hd R_137 l0 f0 l1 f1 f_135 hc hQ h
noncomputable def fl_X4_passTasks_8 : Nat → Int → MM → Option (Int × MM)
  | 0, _, _ => none
  | n + 1, y1, m => lx (m 16 2) fun x_16 =>
gd (okc m x_16 3) <| lx (m x_16 1) fun x_22 =>
if y1 < x_22 then
lx (m 16 10) fun x_38 =>
if x_38 = 0 then
bp (fm_X2_kind x_16 y1 m) fun x_55 =>
if x_55 = 17 then
bp (fm_X2_x x_16 y1 m) fun x_144 =>
lx (m 17 10) fun x_158 =>
if x_158 < x_144 then
up m 17 13 y1 fun m_164 =>
some (0, m_164)
else
fj_X4_passTasks_57 (fl_X4_passTasks_8 n) y1 m
else
fj_X4_passTasks_57 (fl_X4_passTasks_8 n) y1 m
else
up m 17 13 y1 fun m_44 =>
some (0, m_44)
else
up m 17 13 y1 fun m_28 =>
some (0, m_28)
set_option maxHeartbeats 4000000 in
theorem ol_X4_passTasks_8 {xs : List Int32} {d : Nat} {Q : QO → QS → Prop} {mb : MM} {rz : Int} {rm : MM}
  (hd : 2 ≤ d)
  (hQ : Ext mb rm → ∀ o S1, Rp S1 rm → q_out 9 o rz → Q o S1) :
  ∀ (n : Nat) {m : MM} {S : QS} {L : QL} {y1 : Int} {v0 : Value} {v1 : Value} , Ext mb m → fl_X4_passTasks_8 n y1 m = some (rz, rm) → Rp S m → q_lo L 0 = some v0 → q_is 2 v0 16 → q_lo L 1 = some v1 → q_is 0 v1 y1 → Go xs d qM_X4_passTasks 8 L [] S Q := by
  intro n
  induction n with
  | zero => intro m S L y1 v0 v1; intro E h R l0 f0 l1 f1; cases h
  | succ n ih0 =>
    intro m S L y1 v0 v1; intro E h R l0 f0 l1 f1
    have ih : ∀ mq : MM, Ext mb mq → ∀ {z1 : Int} {Sq : QS} {Lq : QL} {u0 : Value} {u1 : Value}, fl_X4_passTasks_8 n z1 mq = some (rz, rm) → Rp Sq mq → q_lo Lq 0 = some u0 → q_is 2 u0 16 → q_lo Lq 1 = some u1 → q_is 0 u1 z1 → Go xs d qM_X4_passTasks 8 Lq [] Sq Q := fun mq b => by intros; exact ih0 b ‹_› ‹_› ‹_› ‹_› ‹_› ‹_›
    unfold fl_X4_passTasks_8 at h
    refine go_iload_n (n := 1) (by decide +kernel) l1 f1 ?_
    refine go_aload_n (n := 0) (by decide +kernel) l0 f0 ?_
    obtain ⟨x_16, e_17, h⟩ := lx_s h
    refine go_getf (x := 28) (ci := 5) (kf := 2) (fin := 0) (t := 2) (by decide +kernel) (by decide +kernel) (by decide +kernel) R f0 (fx_k (c := 5) R (by decide +kernel)) fun v_13 f_14 => ?_
    have f_15 := q_is_eq f_14 e_17
    obtain ⟨g_20, h⟩ := gd_s h
    obtain ⟨x_22, e_23, h⟩ := lx_s h
    refine go_getf (x := 80) (ci := 3) (kf := 1) (fin := 0) (t := 0) (by decide +kernel) (by decide +kernel) (by decide +kernel) R f_15 g_20 fun v_18 f_19 => ?_
    have f_21 := q_is_eq f_19 e_23
    refine go_icmp (c := .ge) (o := 89) (t := 105) (P := ¬ (y1 < x_22)) (by decide +kernel) (by decide +kernel) f1 f_21 (Int.not_lt.symm) (fun hp_24 => ?_) (fun hp_24 => ?_)
    · have h := it_f hp_24 h
      refine go_aload_n (n := 0) (by decide +kernel) l0 f0 ?_
      refine go_getf (x := 10) (ci := 5) (kf := 0) (fin := 1) (t := 2) (by decide +kernel) (by decide +kernel) (by decide +kernel) R f0 (fx_k (c := 5) R (by decide +kernel)) fun v_25 f_26 => ?_
      have f_27 := q_is_eq (b := 17) f_26 (fx_v R (by decide +kernel)).symm
      refine go_iload_n (n := 1) (by decide +kernel) l1 f1 ?_
      obtain ⟨m_28, e_29, h⟩ := up_s h
      refine go_putf (x := 117) (ci := 9) (kf := 13) (fin := 0) (zt := 0) (by decide +kernel) (by decide +kernel) (by decide) (by decide +kernel) (by decide) (Or.inl rfl) R f_27 f1 (fun hq => absurd hq (by decide)) (fx_k (c := 9) R (by decide +kernel)) e_29 (fx_f (j := 13) R.2 (fx_k (c := 9) R (by decide +kernel)) (by decide +kernel)) fun S_30 R_31 E_32 => ?_
      have E_34 := Ext.tr E E_32
      cases h
      exact go_vret (by decide +kernel) rfl (hQ E_34 _ _ R_31 q_out_n)
    · have h := it_n hp_24 h
      refine go_aload_n (n := 0) (by decide +kernel) l0 f0 ?_
      obtain ⟨x_38, e_39, h⟩ := lx_s h
      refine go_getf (x := 55) (ci := 5) (kf := 10) (fin := 0) (t := 0) (by decide +kernel) (by decide +kernel) (by decide +kernel) R f0 (fx_k (c := 5) R (by decide +kernel)) fun v_35 f_36 => ?_
      have f_37 := q_is_eq f_36 e_39
      refine go_if (c := .ne) (o := 82) (t := 105) (P := ¬ (x_38 = 0)) (by decide +kernel) (by decide +kernel) f_37 (Iff.rfl) (fun hp_40 => ?_) (fun hp_40 => ?_)
      · have h := it_f hp_40 h
        refine go_aload_n (n := 0) (by decide +kernel) l0 f0 ?_
        refine go_getf (x := 10) (ci := 5) (kf := 0) (fin := 1) (t := 2) (by decide +kernel) (by decide +kernel) (by decide +kernel) R f0 (fx_k (c := 5) R (by decide +kernel)) fun v_41 f_42 => ?_
        have f_43 := q_is_eq (b := 17) f_42 (fx_v R (by decide +kernel)).symm
        refine go_iload_n (n := 1) (by decide +kernel) l1 f1 ?_
        obtain ⟨m_44, e_45, h⟩ := up_s h
        refine go_putf (x := 117) (ci := 9) (kf := 13) (fin := 0) (zt := 0) (by decide +kernel) (by decide +kernel) (by decide) (by decide +kernel) (by decide) (Or.inl rfl) R f_43 f1 (fun hq => absurd hq (by decide)) (fx_k (c := 9) R (by decide +kernel)) e_45 (fx_f (j := 13) R.2 (fx_k (c := 9) R (by decide +kernel)) (by decide +kernel)) fun S_46 R_47 E_48 => ?_
        have E_50 := Ext.tr E E_48
        cases h
        exact go_vret (by decide +kernel) rfl (hQ E_50 _ _ R_47 q_out_n)
      · have h := it_n hp_40 h
        refine go_aload_n (n := 0) (by decide +kernel) l0 f0 ?_
        refine go_getf (x := 28) (ci := 5) (kf := 2) (fin := 0) (t := 2) (by decide +kernel) (by decide +kernel) (by decide +kernel) R f0 (fx_k (c := 5) R (by decide +kernel)) fun v_51 f_52 => ?_
        have f_53 := q_is_eq f_52 e_17
        refine go_iload_n (n := 1) (by decide +kernel) l1 f1 ?_
        obtain ⟨x_55, hc_54, h⟩ := bp_s h
        refine go_callV (x := 83) (mi := 9) (n := 1) (ci := 3) (as := [v1]) (rest := []) (by decide +kernel) (by decide +kernel) rfl rfl (q_sum8 _ (Nat.le_of_ble_eq_true rfl)) R f_53 g_20 (om_X2_kind (Nat.le_trans (by decide) hd) R g_20 f_53 f1 hc_54) (fun _ S_59 q_62 => ?_) (fun _ _ qq => kr_x qq)
        refine kr_z (by decide) q_62 fun v_57 f_58 R_60 E_61 => ?_
        refine go_bipush (n := 17) (z := 17) (by decide +kernel) (by decide) fun v_63 f_64 => ?_
        refine go_icmp (c := .ne) (o := 21) (t := 57) (P := ¬ (x_55 = 17)) (by decide +kernel) (by decide +kernel) f_58 f_64 (Iff.rfl) (fun hp_65 => ?_) (fun hp_65 => ?_)
        · have h := it_f hp_65 h
          exact oj_X4_passTasks_57 hd R_60 l0 f0 l1 f1 (fun mq b => ih mq (Ext.tr E b)) (fun b => hQ (Ext.tr E b)) h
        · have h := it_n hp_65 h
          refine go_aload_n (n := 0) (by decide +kernel) l0 f0 ?_
          refine go_getf (x := 28) (ci := 5) (kf := 2) (fin := 0) (t := 2) (by decide +kernel) (by decide +kernel) (by decide +kernel) R_60 f0 (fx_k (c := 5) R_60 (by decide +kernel)) fun v_140 f_141 => ?_
          have f_142 := q_is_eq f_141 e_17
          refine go_iload_n (n := 1) (by decide +kernel) l1 f1 ?_
          obtain ⟨x_144, hc_143, h⟩ := bp_s h
          refine go_callV (x := 86) (mi := 10) (n := 1) (ci := 3) (as := [v1]) (rest := []) (by decide +kernel) (by decide +kernel) rfl rfl (q_sum8 _ (Nat.le_of_ble_eq_true rfl)) R_60 f_142 g_20 (om_X2_x (Nat.le_trans (by decide) hd) R_60 g_20 f_142 f1 hc_143) (fun _ S_148 q_151 => ?_) (fun _ _ qq => kr_x qq)
          refine kr_z (by decide) q_151 fun v_146 f_147 R_149 E_150 => ?_
          refine go_aload_n (n := 0) (by decide +kernel) l0 f0 ?_
          refine go_getf (x := 10) (ci := 5) (kf := 0) (fin := 1) (t := 2) (by decide +kernel) (by decide +kernel) (by decide +kernel) R_149 f0 (fx_k (c := 5) R_149 (by decide +kernel)) fun v_152 f_153 => ?_
          have f_154 := q_is_eq (b := 17) f_153 (fx_v R_149 (by decide +kernel)).symm
          obtain ⟨x_158, e_159, h⟩ := lx_s h
          refine go_getf (x := 66) (ci := 9) (kf := 10) (fin := 0) (t := 0) (by decide +kernel) (by decide +kernel) (by decide +kernel) R_149 f_154 (fx_k (c := 9) R_149 (by decide +kernel)) fun v_155 f_156 => ?_
          have f_157 := q_is_eq f_156 e_159
          refine go_icmp (c := .gt) (o := 51) (t := 105) (P := x_158 < x_144) (by decide +kernel) (by decide +kernel) f_147 f_157 (Iff.rfl) (fun hp_160 => ?_) (fun hp_160 => ?_)
          · have h := it_t hp_160 h
            refine go_aload_n (n := 0) (by decide +kernel) l0 f0 ?_
            refine go_getf (x := 10) (ci := 5) (kf := 0) (fin := 1) (t := 2) (by decide +kernel) (by decide +kernel) (by decide +kernel) R_149 f0 (fx_k (c := 5) R_149 (by decide +kernel)) fun v_161 f_162 => ?_
            have f_163 := q_is_eq (b := 17) f_162 (fx_v R_149 (by decide +kernel)).symm
            refine go_iload_n (n := 1) (by decide +kernel) l1 f1 ?_
            obtain ⟨m_164, e_165, h⟩ := up_s h
            refine go_putf (x := 117) (ci := 9) (kf := 13) (fin := 0) (zt := 0) (by decide +kernel) (by decide +kernel) (by decide) (by decide +kernel) (by decide) (Or.inl rfl) R_149 f_163 f1 (fun hq => absurd hq (by decide)) (fx_k (c := 9) R_149 (by decide +kernel)) e_165 (fx_f (j := 13) R_149.2 (fx_k (c := 9) R_149 (by decide +kernel)) (by decide +kernel)) fun S_166 R_167 E_168 => ?_
            have E_170 := Ext.tr E E_168
            cases h
            exact go_vret (by decide +kernel) rfl (hQ E_170 _ _ R_167 q_out_n)
          · have h := it_f hp_160 h
            exact oj_X4_passTasks_57 hd R_149 l0 f0 l1 f1 (fun mq b => ih mq (Ext.tr E b)) (fun b => hQ (Ext.tr E b)) h
noncomputable def fm_X4_passTasks (m0 : MM) : Option (Int × MM) := lx (m0 17 13) fun x_7 =>
fl_X4_passTasks_8   BIG x_7 m0
set_option maxHeartbeats 4000000 in
theorem om_X4_passTasks {xs : List Int32} {d : Nat} {S : QS} {m0 : MM} {v0 : Value} {rz : Int} {rm : MM}
  (hd : 3 ≤ d) (R : Rp S m0) (f0 : q_is 2 v0 16)
  (h : fm_X4_passTasks m0 = some (rz, rm)) : Mt xs d 35 [v0] S (Cr 9 m0 rm rz) := by
  obtain ⟨d, rfl⟩ : ∃ e, d = e + 1 := ⟨d - 1, by omega⟩
  have hd : 2 ≤ d := Nat.le_of_succ_le_succ hd
  refine Mt.of (M := qM_X4_passTasks) rfl (by rw [sl_1 (q_is_cat f0 (Or.inr rfl)), sl_0]; decide) ?_
  rw [la_1 (q_is_cat f0 (Or.inr rfl)), la_0]
  obtain ⟨L, hL⟩ : ∃ L : QL, L = [(0, v0)] := ⟨_, rfl⟩
  rw [← hL]
  have l0 : q_lo L 0 = some v0 := by rw [hL]; rfl
  have hQ : Ext m0 rm → ∀ o S1, Rp S1 rm → q_out 9 o rz → (Cr 9 m0 rm rz) o S1 := fun a o S1 b e => ⟨b, a, e⟩
  unfold fm_X4_passTasks at h
  refine go_aload_n (n := 0) (by decide +kernel) l0 f0 ?_
  refine go_getf (x := 10) (ci := 5) (kf := 0) (fin := 1) (t := 2) (by decide +kernel) (by decide +kernel) (by decide +kernel) R f0 (fx_k (c := 5) R (by decide +kernel)) fun v_1 f_2 => ?_
  have f_3 := q_is_eq (b := 17) f_2 (fx_v R (by decide +kernel)).symm
  obtain ⟨x_7, e_8, h⟩ := lx_s h
  refine go_getf (x := 117) (ci := 9) (kf := 13) (fin := 0) (t := 0) (by decide +kernel) (by decide +kernel) (by decide +kernel) R f_3 (fx_k (c := 9) R (by decide +kernel)) fun v_4 f_5 => ?_
  have f_6 := q_is_eq f_5 e_8
  refine go_istore_n (n := 1) (by decide +kernel) (by decide +kernel) f_6 fun L_9 l_10 kp_11 => ?_
  have l_12 := kp_11 0 _ l0 (by decide) (Or.inr (q_is_cat f0 (Or.inr rfl)))
  refine ol_X4_passTasks_8 hd   hQ BIG (Ext.rf _) h R l_12 f0 l_10 f_6
noncomputable def fl_X4_follow_17 (y3 : Int) (k62 : MM → Option (Int × MM)) (k147 : MM → Option (Int × MM)) : Nat → Int → MM → Option (Int × MM)
  | 0, _, _ => none
  | n + 1, y5, m => if y5 < y3 then
bp (fm_X4_goes m) fun x_28 =>
if x_28 = 0 then
k147 m
else
lx (m 16 2) fun x_40 =>
lx (m 17 11) fun x_48 =>
gd (okc m x_40 3) <| bp (fm_X2_nextArrival x_40 x_48 m) fun x_52 =>
up m 16 8 x_52 fun m_60 =>
lx (m_60 16 8) fun x_70 =>
lx (m_60 16 2) fun x_75 =>
gd (okc m_60 x_75 3) <| lx (m_60 x_75 1) fun x_81 =>
if x_70 < x_81 then
up m_60 17 11 (w32 (x_70 + 1)) fun m_94 =>
up m_94 16 9 0 fun m_103 =>
lx (m_103 16 2) fun x_113 =>
lx (m_103 16 8) fun x_118 =>
gd (okc m_103 x_113 3) <| bp (fm_X2_kind x_113 x_118 m_103) fun x_122 =>
bp (fm_X2_x x_113 x_118 m_103) fun x_137 =>
bp (fm_X2_y x_113 x_118 m_103) fun x_152 =>
bd (fm_X4_note x_122 x_137 x_152 m_103) fun x_161 m_162 =>
bd (fm_X4_goOn m_162) fun x_173 m_174 =>
lx (m_174 17 10) fun x_190 =>
up m_174 17 10 (w32 (x_190 + 1)) fun m_196 =>
bd (fm_X4_passTasks m_196) fun x_204 m_205 =>
lx (w32 (y5 + 1)) fun x_220 =>
fl_X4_follow_17 y3 k62 k147 n x_220 m_205
else
k62 m_60
else
k147 m
set_option maxHeartbeats 4000000 in
theorem ol_X4_follow_17 {xs : List Int32} {d : Nat} {Q : QO → QS → Prop} {mb : MM} {y3 : Int} {k62 : MM → Option (Int × MM)} {k147 : MM → Option (Int × MM)} {rz : Int} {rm : MM}
  (hd : 6 ≤ d)
  (hk62 : ∀ mq : MM, Ext mb mq → ∀ {Sq : QS} {Lq : QL} {u0 : Value}, k62 mq = some (rz, rm) → Rp Sq mq → q_lo Lq 0 = some u0 → q_is 2 u0 16 → Go xs d qM_X4_follow 62 Lq [] Sq Q)
  (hk147 : ∀ mq : MM, Ext mb mq → ∀ {Sq : QS} {Lq : QL} {u0 : Value}, k147 mq = some (rz, rm) → Rp Sq mq → q_lo Lq 0 = some u0 → q_is 2 u0 16 → Go xs d qM_X4_follow 147 Lq [] Sq Q)
  (hQ : Ext mb rm → ∀ o S1, Rp S1 rm → q_out 0 o rz → Q o S1) :
  ∀ (n : Nat) {m : MM} {S : QS} {L : QL} {y5 : Int} {v0 : Value} {v3 : Value} {v5 : Value} , Ext mb m → fl_X4_follow_17 y3 k62 k147 n y5 m = some (rz, rm) → Rp S m → q_lo L 0 = some v0 → q_is 2 v0 16 → q_lo L 3 = some v3 → q_is 0 v3 y3 → q_lo L 5 = some v5 → q_is 0 v5 y5 → Go xs d qM_X4_follow 17 L [] S Q := by
  intro n
  induction n with
  | zero => intro m S L y5 v0 v3 v5; intro E h R l0 f0 l3 f3 l5 f5; cases h
  | succ n ih0 =>
    intro m S L y5 v0 v3 v5; intro E h R l0 f0 l3 f3 l5 f5
    have ih : ∀ mq : MM, Ext mb mq → ∀ {z5 : Int} {Sq : QS} {Lq : QL} {u0 : Value} {u3 : Value} {u5 : Value}, fl_X4_follow_17 y3 k62 k147 n z5 mq = some (rz, rm) → Rp Sq mq → q_lo Lq 0 = some u0 → q_is 2 u0 16 → q_lo Lq 3 = some u3 → q_is 0 u3 y3 → q_lo Lq 5 = some u5 → q_is 0 u5 z5 → Go xs d qM_X4_follow 17 Lq [] Sq Q := fun mq b => by intros; exact ih0 b ‹_› ‹_› ‹_› ‹_› ‹_› ‹_› ‹_› ‹_›
    unfold fl_X4_follow_17 at h
    refine go_iload (n := 5) (by decide +kernel) l5 f5 ?_
    refine go_iload_n (n := 3) (by decide +kernel) l3 f3 ?_
    refine go_icmp (c := .ge) (o := 127) (t := 147) (P := ¬ (y5 < y3)) (by decide +kernel) (by decide +kernel) f5 f3 (Int.not_lt.symm) (fun hp_26 => ?_) (fun hp_26 => ?_)
    · have h := it_f hp_26 h
      exact hk147 m E h R l0 f0
    · have h := it_n hp_26 h
      refine go_aload_n (n := 0) (by decide +kernel) l0 f0 ?_
      obtain ⟨x_28, hc_27, h⟩ := bp_s h
      refine go_callV (x := 69) (mi := 33) (n := 0) (ci := 5) (as := []) (rest := []) (by decide +kernel) (by decide +kernel) rfl rfl (q_sum8 _ (Nat.le_of_ble_eq_true rfl)) R f0 (fx_k (c := 5) R (by decide +kernel)) (om_X4_goes (Nat.le_trans (by decide) hd) R f0 hc_27) (fun _ S_32 q_35 => ?_) (fun _ _ qq => kr_x qq)
      refine kr_z (by decide) q_35 fun v_30 f_31 R_33 E_34 => ?_
      refine go_if (c := .eq) (o := 120) (t := 147) (P := x_28 = 0) (by decide +kernel) (by decide +kernel) f_31 (Iff.rfl) (fun hp_36 => ?_) (fun hp_36 => ?_)
      · have h := it_t hp_36 h
        exact hk147 m E h R_33 l0 f0
      · have h := it_f hp_36 h
        refine go_aload_n (n := 0) (by decide +kernel) l0 f0 ?_
        refine go_aload_n (n := 0) (by decide +kernel) l0 f0 ?_
        obtain ⟨x_40, e_41, h⟩ := lx_s h
        refine go_getf (x := 28) (ci := 5) (kf := 2) (fin := 0) (t := 2) (by decide +kernel) (by decide +kernel) (by decide +kernel) R_33 f0 (fx_k (c := 5) R_33 (by decide +kernel)) fun v_37 f_38 => ?_
        have f_39 := q_is_eq f_38 e_41
        refine go_aload_n (n := 0) (by decide +kernel) l0 f0 ?_
        refine go_getf (x := 10) (ci := 5) (kf := 0) (fin := 1) (t := 2) (by decide +kernel) (by decide +kernel) (by decide +kernel) R_33 f0 (fx_k (c := 5) R_33 (by decide +kernel)) fun v_42 f_43 => ?_
        have f_44 := q_is_eq (b := 17) f_43 (fx_v R_33 (by decide +kernel)).symm
        obtain ⟨x_48, e_49, h⟩ := lx_s h
        refine go_getf (x := 73) (ci := 9) (kf := 11) (fin := 0) (t := 0) (by decide +kernel) (by decide +kernel) (by decide +kernel) R_33 f_44 (fx_k (c := 9) R_33 (by decide +kernel)) fun v_45 f_46 => ?_
        have f_47 := q_is_eq f_46 e_49
        obtain ⟨g_50, h⟩ := gd_s h
        obtain ⟨x_52, hc_51, h⟩ := bp_s h
        refine go_callV (x := 76) (mi := 21) (n := 1) (ci := 3) (as := [v_45]) (rest := [v0]) (by decide +kernel) (by decide +kernel) rfl rfl (q_sum8 _ (Nat.le_of_ble_eq_true rfl)) R_33 f_39 g_50 (om_X2_nextArrival (Nat.le_trans (by decide) hd) R_33 g_50 f_39 f_47 hc_51) (fun _ S_56 q_59 => ?_) (fun _ _ qq => kr_x qq)
        refine kr_z (by decide) q_59 fun v_54 f_55 R_57 E_58 => ?_
        obtain ⟨m_60, e_61, h⟩ := up_s h
        refine go_putf (x := 49) (ci := 5) (kf := 8) (fin := 0) (zt := 0) (by decide +kernel) (by decide +kernel) (by decide) (by decide +kernel) (by decide) (Or.inl rfl) R_57 f0 f_55 (fun hq => absurd hq (by decide)) (fx_k (c := 5) R_57 (by decide +kernel)) e_61 (fx_f (j := 8) R_57.2 (fx_k (c := 5) R_57 (by decide +kernel)) (by decide +kernel)) fun S_62 R_63 E_64 => ?_
        have E_66 := Ext.tr E E_64
        refine go_aload_n (n := 0) (by decide +kernel) l0 f0 ?_
        obtain ⟨x_70, e_71, h⟩ := lx_s h
        refine go_getf (x := 49) (ci := 5) (kf := 8) (fin := 0) (t := 0) (by decide +kernel) (by decide +kernel) (by decide +kernel) R_63 f0 (fx_k (c := 5) R_63 (by decide +kernel)) fun v_67 f_68 => ?_
        have f_69 := q_is_eq f_68 e_71
        refine go_aload_n (n := 0) (by decide +kernel) l0 f0 ?_
        obtain ⟨x_75, e_76, h⟩ := lx_s h
        refine go_getf (x := 28) (ci := 5) (kf := 2) (fin := 0) (t := 2) (by decide +kernel) (by decide +kernel) (by decide +kernel) R_63 f0 (fx_k (c := 5) R_63 (by decide +kernel)) fun v_72 f_73 => ?_
        have f_74 := q_is_eq f_73 e_76
        obtain ⟨g_79, h⟩ := gd_s h
        obtain ⟨x_81, e_82, h⟩ := lx_s h
        refine go_getf (x := 80) (ci := 3) (kf := 1) (fin := 0) (t := 0) (by decide +kernel) (by decide +kernel) (by decide +kernel) R_63 f_74 g_79 fun v_77 f_78 => ?_
        have f_80 := q_is_eq f_78 e_82
        refine go_icmp (c := .lt) (o := 6) (t := 65) (P := x_70 < x_81) (by decide +kernel) (by decide +kernel) f_69 f_80 (Iff.rfl) (fun hp_83 => ?_) (fun hp_83 => ?_)
        · have h := it_t hp_83 h
          refine go_aload_n (n := 0) (by decide +kernel) l0 f0 ?_
          refine go_getf (x := 10) (ci := 5) (kf := 0) (fin := 1) (t := 2) (by decide +kernel) (by decide +kernel) (by decide +kernel) R_63 f0 (fx_k (c := 5) R_63 (by decide +kernel)) fun v_84 f_85 => ?_
          have f_86 := q_is_eq (b := 17) f_85 (fx_v R_63 (by decide +kernel)).symm
          refine go_aload_n (n := 0) (by decide +kernel) l0 f0 ?_
          refine go_getf (x := 49) (ci := 5) (kf := 8) (fin := 0) (t := 0) (by decide +kernel) (by decide +kernel) (by decide +kernel) R_63 f0 (fx_k (c := 5) R_63 (by decide +kernel)) fun v_87 f_88 => ?_
          have f_89 := q_is_eq f_88 e_71
          refine go_iconst (n := 1) (z := 1) (by decide +kernel) (by decide) fun v_90 f_91 => ?_
          refine go_iadd (by decide +kernel) f_89 f_91 fun v_92 f_93 => ?_
          obtain ⟨m_94, e_95, h⟩ := up_s h
          refine go_putf (x := 73) (ci := 9) (kf := 11) (fin := 0) (zt := 0) (by decide +kernel) (by decide +kernel) (by decide) (by decide +kernel) (by decide) (Or.inl rfl) R_63 f_86 f_93 (fun hq => absurd hq (by decide)) (fx_k (c := 9) R_63 (by decide +kernel)) e_95 (fx_f (j := 11) R_63.2 (fx_k (c := 9) R_63 (by decide +kernel)) (by decide +kernel)) fun S_96 R_97 E_98 => ?_
          have E_100 := Ext.tr E_66 E_98
          refine go_aload_n (n := 0) (by decide +kernel) l0 f0 ?_
          refine go_iconst (n := 0) (z := 0) (by decide +kernel) (by decide) fun v_101 f_102 => ?_
          obtain ⟨m_103, e_104, h⟩ := up_s h
          refine go_putf (x := 52) (ci := 5) (kf := 9) (fin := 0) (zt := 0) (by decide +kernel) (by decide +kernel) (by decide) (by decide +kernel) (by decide) (Or.inl rfl) R_97 f0 f_102 (fun hq => absurd hq (by decide)) (fx_k (c := 5) R_97 (by decide +kernel)) e_104 (fx_f (j := 9) R_97.2 (fx_k (c := 5) R_97 (by decide +kernel)) (by decide +kernel)) fun S_105 R_106 E_107 => ?_
          have E_109 := Ext.tr E_100 E_107
          refine go_aload_n (n := 0) (by decide +kernel) l0 f0 ?_
          refine go_aload_n (n := 0) (by decide +kernel) l0 f0 ?_
          obtain ⟨x_113, e_114, h⟩ := lx_s h
          refine go_getf (x := 28) (ci := 5) (kf := 2) (fin := 0) (t := 2) (by decide +kernel) (by decide +kernel) (by decide +kernel) R_106 f0 (fx_k (c := 5) R_106 (by decide +kernel)) fun v_110 f_111 => ?_
          have f_112 := q_is_eq f_111 e_114
          refine go_aload_n (n := 0) (by decide +kernel) l0 f0 ?_
          obtain ⟨x_118, e_119, h⟩ := lx_s h
          refine go_getf (x := 49) (ci := 5) (kf := 8) (fin := 0) (t := 0) (by decide +kernel) (by decide +kernel) (by decide +kernel) R_106 f0 (fx_k (c := 5) R_106 (by decide +kernel)) fun v_115 f_116 => ?_
          have f_117 := q_is_eq f_116 e_119
          obtain ⟨g_120, h⟩ := gd_s h
          obtain ⟨x_122, hc_121, h⟩ := bp_s h
          refine go_callV (x := 83) (mi := 9) (n := 1) (ci := 3) (as := [v_115]) (rest := [v0]) (by decide +kernel) (by decide +kernel) rfl rfl (q_sum8 _ (Nat.le_of_ble_eq_true rfl)) R_106 f_112 g_120 (om_X2_kind (Nat.le_trans (by decide) hd) R_106 g_120 f_112 f_117 hc_121) (fun _ S_126 q_129 => ?_) (fun _ _ qq => kr_x qq)
          refine kr_z (by decide) q_129 fun v_124 f_125 R_127 E_128 => ?_
          refine go_aload_n (n := 0) (by decide +kernel) l0 f0 ?_
          refine go_getf (x := 28) (ci := 5) (kf := 2) (fin := 0) (t := 2) (by decide +kernel) (by decide +kernel) (by decide +kernel) R_127 f0 (fx_k (c := 5) R_127 (by decide +kernel)) fun v_130 f_131 => ?_
          have f_132 := q_is_eq f_131 e_114
          refine go_aload_n (n := 0) (by decide +kernel) l0 f0 ?_
          refine go_getf (x := 49) (ci := 5) (kf := 8) (fin := 0) (t := 0) (by decide +kernel) (by decide +kernel) (by decide +kernel) R_127 f0 (fx_k (c := 5) R_127 (by decide +kernel)) fun v_133 f_134 => ?_
          have f_135 := q_is_eq f_134 e_119
          obtain ⟨x_137, hc_136, h⟩ := bp_s h
          refine go_callV (x := 86) (mi := 10) (n := 1) (ci := 3) (as := [v_133]) (rest := [v_124, v0]) (by decide +kernel) (by decide +kernel) rfl rfl (q_sum8 _ (Nat.le_of_ble_eq_true rfl)) R_127 f_132 g_120 (om_X2_x (Nat.le_trans (by decide) hd) R_127 g_120 f_132 f_135 hc_136) (fun _ S_141 q_144 => ?_) (fun _ _ qq => kr_x qq)
          refine kr_z (by decide) q_144 fun v_139 f_140 R_142 E_143 => ?_
          refine go_aload_n (n := 0) (by decide +kernel) l0 f0 ?_
          refine go_getf (x := 28) (ci := 5) (kf := 2) (fin := 0) (t := 2) (by decide +kernel) (by decide +kernel) (by decide +kernel) R_142 f0 (fx_k (c := 5) R_142 (by decide +kernel)) fun v_145 f_146 => ?_
          have f_147 := q_is_eq f_146 e_114
          refine go_aload_n (n := 0) (by decide +kernel) l0 f0 ?_
          refine go_getf (x := 49) (ci := 5) (kf := 8) (fin := 0) (t := 0) (by decide +kernel) (by decide +kernel) (by decide +kernel) R_142 f0 (fx_k (c := 5) R_142 (by decide +kernel)) fun v_148 f_149 => ?_
          have f_150 := q_is_eq f_149 e_119
          obtain ⟨x_152, hc_151, h⟩ := bp_s h
          refine go_callV (x := 89) (mi := 11) (n := 1) (ci := 3) (as := [v_148]) (rest := [v_139, v_124, v0]) (by decide +kernel) (by decide +kernel) rfl rfl (q_sum8 _ (Nat.le_of_ble_eq_true rfl)) R_142 f_147 g_120 (om_X2_y (Nat.le_trans (by decide) hd) R_142 g_120 f_147 f_150 hc_151) (fun _ S_156 q_159 => ?_) (fun _ _ qq => kr_x qq)
          refine kr_z (by decide) q_159 fun v_154 f_155 R_157 E_158 => ?_
          obtain ⟨x_161, m_162, hc_160, h⟩ := bd_s h
          refine go_callV (x := 92) (mi := 38) (n := 3) (ci := 5) (as := [v_124, v_139, v_154]) (rest := []) (by decide +kernel) (by decide +kernel) rfl rfl (q_sum8 _ (Nat.le_of_ble_eq_true rfl)) R_157 f0 (fx_k (c := 5) R_157 (by decide +kernel)) (om_X4_note (Nat.le_trans (by decide) hd) R_157 f0 f_125 f_140 f_155 hc_160) (fun _ S_165 q_168 => ?_) (fun _ _ qq => kr_x qq)
          refine kr_v q_168 fun R_166 E_167 => ?_
          have E_171 := Ext.tr E_109 E_167
          refine go_aload_n (n := 0) (by decide +kernel) l0 f0 ?_
          obtain ⟨x_173, m_174, hc_172, h⟩ := bd_s h
          refine go_callV (x := 96) (mi := 45) (n := 0) (ci := 5) (as := []) (rest := []) (by decide +kernel) (by decide +kernel) rfl rfl (q_sum8 _ (Nat.le_of_ble_eq_true rfl)) R_166 f0 (fx_k (c := 5) R_166 (by decide +kernel)) (om_X4_goOn (Nat.le_trans (by decide) hd) R_166 f0 hc_172) (fun _ S_177 q_180 => ?_) (fun _ _ qq => kr_x qq)
          refine kr_v q_180 fun R_178 E_179 => ?_
          have E_183 := Ext.tr E_171 E_179
          refine go_aload_n (n := 0) (by decide +kernel) l0 f0 ?_
          refine go_getf (x := 10) (ci := 5) (kf := 0) (fin := 1) (t := 2) (by decide +kernel) (by decide +kernel) (by decide +kernel) R_178 f0 (fx_k (c := 5) R_178 (by decide +kernel)) fun v_184 f_185 => ?_
          have f_186 := q_is_eq (b := 17) f_185 (fx_v R_178 (by decide +kernel)).symm
          refine go_dup (by decide +kernel) f_186 (Or.inr rfl) ?_
          obtain ⟨x_190, e_191, h⟩ := lx_s h
          refine go_getf (x := 66) (ci := 9) (kf := 10) (fin := 0) (t := 0) (by decide +kernel) (by decide +kernel) (by decide +kernel) R_178 f_186 (fx_k (c := 9) R_178 (by decide +kernel)) fun v_187 f_188 => ?_
          have f_189 := q_is_eq f_188 e_191
          refine go_iconst (n := 1) (z := 1) (by decide +kernel) (by decide) fun v_192 f_193 => ?_
          refine go_iadd (by decide +kernel) f_189 f_193 fun v_194 f_195 => ?_
          obtain ⟨m_196, e_197, h⟩ := up_s h
          refine go_putf (x := 66) (ci := 9) (kf := 10) (fin := 0) (zt := 0) (by decide +kernel) (by decide +kernel) (by decide) (by decide +kernel) (by decide) (Or.inl rfl) R_178 f_186 f_195 (fun hq => absurd hq (by decide)) (fx_k (c := 9) R_178 (by decide +kernel)) e_197 (fx_f (j := 10) R_178.2 (fx_k (c := 9) R_178 (by decide +kernel)) (by decide +kernel)) fun S_198 R_199 E_200 => ?_
          have E_202 := Ext.tr E_183 E_200
          refine go_aload_n (n := 0) (by decide +kernel) l0 f0 ?_
          obtain ⟨x_204, m_205, hc_203, h⟩ := bd_s h
          refine go_callV (x := 99) (mi := 35) (n := 0) (ci := 5) (as := []) (rest := []) (by decide +kernel) (by decide +kernel) rfl rfl (q_sum8 _ (Nat.le_of_ble_eq_true rfl)) R_199 f0 (fx_k (c := 5) R_199 (by decide +kernel)) (om_X4_passTasks (Nat.le_trans (by decide) hd) R_199 f0 hc_203) (fun _ S_208 q_211 => ?_) (fun _ _ qq => kr_x qq)
          refine kr_v q_211 fun R_209 E_210 => ?_
          have E_214 := Ext.tr E_202 E_210
          refine go_iinc (n := 5) (c := 1) (c' := 1) (by decide +kernel) (by decide +kernel) l5 f5 (by decide) fun L_215 v_216 f_217 l_218 kp_219 => ?_
          obtain ⟨x_220, e_221, h⟩ := lx_s h
          have f_222 := q_is_eq f_217 e_221
          have l_223 := kp_219 0 _ l0 (by decide) (Or.inl (by decide))
          have l_224 := kp_219 3 _ l3 (by decide) (Or.inl (by decide))
          refine go_goto (o := (-127)) (t := 17) (by decide +kernel) (by decide +kernel) ?_
          exact ih m_205 E_214 h R_209 l_223 f0 l_224 f3 l_218 f_222
        · have h := it_f hp_83 h
          exact hk62 m_60 E_66 h R_63 l0 f0
noncomputable def fj_X4_follow_147 (m : MM) : Option (Int × MM) := lx (m 16 10) fun x_239 =>
if x_239 = 0 then
some (1, m)
else
some (0, m)
set_option maxHeartbeats 4000000 in
theorem oj_X4_follow_147 {xs : List Int32} {d : Nat} {S : QS} {L : QL} {Q : QO → QS → Prop} {m : MM} {v0 : Value}  {rz : Int} {rm : MM}
  (hd : 6 ≤ d) (R : Rp S m) (l0 : q_lo L 0 = some v0) (f0 : q_is 2 v0 16)
  (hQ : Ext m rm → ∀ o S1, Rp S1 rm → q_out 0 o rz → Q o S1)
  (h : fj_X4_follow_147 m = some (rz, rm)) : Go xs d qM_X4_follow 147 L [] S Q := by
  unfold fj_X4_follow_147 at h
  refine go_aload_n (n := 0) (by decide +kernel) l0 f0 ?_
  obtain ⟨x_239, e_240, h⟩ := lx_s h
  refine go_getf (x := 55) (ci := 5) (kf := 10) (fin := 0) (t := 0) (by decide +kernel) (by decide +kernel) (by decide +kernel) R f0 (fx_k (c := 5) R (by decide +kernel)) fun v_236 f_237 => ?_
  have f_238 := q_is_eq f_237 e_240
  refine go_if (c := .ne) (o := 7) (t := 158) (P := ¬ (x_239 = 0)) (by decide +kernel) (by decide +kernel) f_238 (Iff.rfl) (fun hp_241 => ?_) (fun hp_241 => ?_)
  · have h := it_f hp_241 h
    refine go_iconst (n := 0) (z := 0) (by decide +kernel) (by decide) fun v_242 f_243 => ?_
    cases h
    exact go_iret (by decide +kernel) rfl (Or.inr ⟨rfl, by decide⟩) f_243 (hQ (Ext.rf _) _ _ R (q_out_v (by decide) f_243))
  · have h := it_n hp_241 h
    refine go_iconst (n := 1) (z := 1) (by decide +kernel) (by decide) fun v_244 f_245 => ?_
    refine go_goto (o := 4) (t := 159) (by decide +kernel) (by decide +kernel) ?_
    cases h
    exact go_iret (by decide +kernel) rfl (Or.inr ⟨rfl, by decide⟩) f_245 (hQ (Ext.rf _) _ _ R (q_out_v (by decide) f_245))
noncomputable def fm_X4_follow (p1 p2 p3 p4 : Int) (m0 : MM) : Option (Int × MM) := bd (fm_X4_load p1 p2 p4 m0) fun x_2 m_3 =>
lx (m_3 17 10) fun x_19 =>
fl_X4_follow_17 p3 (fun m_231 =>
fj_X4_follow_147 m_231) (fun m_252 =>
fj_X4_follow_147 m_252) BIG x_19 m_3
set_option maxHeartbeats 4000000 in
theorem om_X4_follow {xs : List Int32} {d : Nat} {S : QS} {m0 : MM} {p1 p2 p3 p4 : Int} {v0 : Value} {v1 : Value} {v2 : Value} {v3 : Value} {v4 : Value} {rz : Int} {rm : MM}
  (hd : 7 ≤ d) (R : Rp S m0) (f0 : q_is 2 v0 16) (f1 : q_is 2 v1 p1) (f2 : q_is 2 v2 p2) (f3 : q_is 0 v3 p3) (f4 : q_is 0 v4 p4)
  (h : fm_X4_follow p1 p2 p3 p4 m0 = some (rz, rm)) : Mt xs d 30 [v0, v1, v2, v3, v4] S (Cr 0 m0 rm rz) := by
  obtain ⟨d, rfl⟩ : ∃ e, d = e + 1 := ⟨d - 1, by omega⟩
  have hd : 6 ≤ d := Nat.le_of_succ_le_succ hd
  refine Mt.of (M := qM_X4_follow) rfl (by rw [sl_1 (q_is_cat f0 (Or.inr rfl)), sl_1 (q_is_cat f1 (Or.inr rfl)), sl_1 (q_is_cat f2 (Or.inr rfl)), sl_1 (q_is_cat f3 (Or.inl rfl)), sl_1 (q_is_cat f4 (Or.inl rfl)), sl_0]; decide) ?_
  rw [la_1 (q_is_cat f0 (Or.inr rfl)), la_1 (q_is_cat f1 (Or.inr rfl)), la_1 (q_is_cat f2 (Or.inr rfl)), la_1 (q_is_cat f3 (Or.inl rfl)), la_1 (q_is_cat f4 (Or.inl rfl)), la_0]
  obtain ⟨L, hL⟩ : ∃ L : QL, L = [(0, v0), (0 + 1, v1), (0 + 1 + 1, v2), (0 + 1 + 1 + 1, v3), (0 + 1 + 1 + 1 + 1, v4)] := ⟨_, rfl⟩
  rw [← hL]
  have l0 : q_lo L 0 = some v0 := by rw [hL]; rfl
  have l1 : q_lo L 1 = some v1 := by rw [hL]; rfl
  have l2 : q_lo L 2 = some v2 := by rw [hL]; rfl
  have l3 : q_lo L 3 = some v3 := by rw [hL]; rfl
  have l4 : q_lo L 4 = some v4 := by rw [hL]; rfl
  have hQ : Ext m0 rm → ∀ o S1, Rp S1 rm → q_out 0 o rz → (Cr 0 m0 rm rz) o S1 := fun a o S1 b e => ⟨b, a, e⟩
  unfold fm_X4_follow at h
  refine go_aload_n (n := 0) (by decide +kernel) l0 f0 ?_
  refine go_aload_n (n := 1) (by decide +kernel) l1 f1 ?_
  refine go_aload_n (n := 2) (by decide +kernel) l2 f2 ?_
  refine go_iload (n := 4) (by decide +kernel) l4 f4 ?_
  obtain ⟨x_2, m_3, hc_1, h⟩ := bd_s h
  refine go_callV (x := 62) (mi := 31) (n := 3) (ci := 5) (as := [v1, v2, v4]) (rest := []) (by decide +kernel) (by decide +kernel) rfl rfl (q_sum8 _ (Nat.le_of_ble_eq_true rfl)) R f0 (fx_k (c := 5) R (by decide +kernel)) (om_X4_load (Nat.le_trans (by decide) hd) R f0 f1 f2 f4 hc_1) (fun _ S_6 q_9 => ?_) (fun _ _ qq => kr_x qq)
  refine kr_v q_9 fun R_7 E_8 => ?_
  have E_12 := E_8
  refine go_aload_n (n := 0) (by decide +kernel) l0 f0 ?_
  refine go_getf (x := 10) (ci := 5) (kf := 0) (fin := 1) (t := 2) (by decide +kernel) (by decide +kernel) (by decide +kernel) R_7 f0 (fx_k (c := 5) R_7 (by decide +kernel)) fun v_13 f_14 => ?_
  have f_15 := q_is_eq (b := 17) f_14 (fx_v R_7 (by decide +kernel)).symm
  obtain ⟨x_19, e_20, h⟩ := lx_s h
  refine go_getf (x := 66) (ci := 9) (kf := 10) (fin := 0) (t := 0) (by decide +kernel) (by decide +kernel) (by decide +kernel) R_7 f_15 (fx_k (c := 9) R_7 (by decide +kernel)) fun v_16 f_17 => ?_
  have f_18 := q_is_eq f_17 e_20
  refine go_istore (n := 5) (by decide +kernel) (by decide +kernel) f_18 fun L_21 l_22 kp_23 => ?_
  have l_24 := kp_23 0 _ l0 (by decide) (Or.inl (by decide))
  have l_25 := kp_23 3 _ l3 (by decide) (Or.inl (by decide))
  refine ol_X4_follow_17 hd  ?_ ?_ (fun b => hQ (Ext.tr E_12 b)) BIG (Ext.rf _) h R_7 l_24 f0 l_25 f3 l_22 f_18
  · intro m_231 E_232
    intro S_228 L_229 v_225
    intro h R_230 l_226 f_227
    have E_233 := Ext.tr E_12 E_232
    refine go_goto (o := 85) (t := 147) (by decide +kernel) (by decide +kernel) ?_
    exact oj_X4_follow_147 hd R_230 l_226 f_227 (fun b => hQ (Ext.tr E_233 b)) h
  · intro m_252 E_253
    intro S_249 L_250 v_246
    intro h R_251 l_247 f_248
    have E_254 := Ext.tr E_12 E_253
    exact oj_X4_follow_147 hd R_251 l_247 f_248 (fun b => hQ (Ext.tr E_254 b)) h
end DF9
