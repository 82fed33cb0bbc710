/-! Methods as functions (written by wip/whole/dec.py), 21: X11_checkVersion, X11_un_safe, X11_move, X11_partFromChildren, X11_restoreWork, X11_setBack. -/
section DF21
noncomputable def fm_X11_checkVersion (p1 p2 : Int) (m0 : MM) : Option ((Int ⊕ Nat) × MM) := if p2 < 0 then
some (.inr 0, mthr m0)
else
gd (okc m0 p1 11) <| lx (m0 p1 0) fun x_6 =>
gd (okc m0 x_6 0) <| bp (fm_Jx4a65c_size_8abf5 x_6 m0) fun x_10 =>
if p2 < x_10 then
some (.inl 0, m0)
else
some (.inr 0, mthr m0)
set_option maxHeartbeats 4000000 in
theorem om_X11_checkVersion {xs : List Int32} {d : Nat} {S : QS} {m0 : MM} {p1 p2 : Int} {v0 : Value} {v1 : Value} {v2 : Value} {rr : Int ⊕ Nat} {rm : MM}
  (hd : 2 ≤ d) (R : Rp S m0) (f0 : q_is 2 v0 4) (f1 : q_is 2 v1 p1) (f2 : q_is 0 v2 p2)
  (h : fm_X11_checkVersion p1 p2 m0 = some (rr, rm)) : Mt xs d 142 [v0, v1, v2] S (Cx 9 m0 rm rr) := by
  obtain ⟨d, rfl⟩ : ∃ e, d = e + 1 := ⟨d - 1, by omega⟩
  have hd : 1 ≤ d := Nat.le_of_succ_le_succ hd
  refine Mt.of (M := qM_X11_checkVersion) rfl (by rw [sl_1 (q_is_cat f0 (Or.inr rfl)), sl_1 (q_is_cat f1 (Or.inr rfl)), sl_1 (q_is_cat f2 (Or.inl rfl)), sl_0]; decide) ?_
  rw [la_1 (q_is_cat f0 (Or.inr rfl)), la_1 (q_is_cat f1 (Or.inr rfl)), la_1 (q_is_cat f2 (Or.inl rfl)), la_0]
  obtain ⟨L, hL⟩ : ∃ L : QL, L = [(0, v0), (0 + 1, v1), (0 + 1 + 1, v2)] := ⟨_, rfl⟩
  rw [← hL]
  have l0 : q_lo L 0 = some v0 := by rw [hL]; rfl
  have l1 : q_lo L 1 = some v1 := by rw [hL]; rfl
  have l2 : q_lo L 2 = some v2 := by rw [hL]; rfl
  have hQ : Ext m0 rm → ∀ o S1, Rp S1 rm → q_oux 9 o rr → (Cx 9 m0 rm rr) o S1 := fun a o S1 b e => ⟨b, a, e⟩
  unfold fm_X11_checkVersion at h
  refine go_iload_n (n := 2) (by decide +kernel) l2 f2 ?_
  refine go_if (c := .lt) (o := 14) (t := 15) (P := p2 < 0) (by decide +kernel) (by decide +kernel) f2 (Iff.rfl) (fun hp_1 => ?_) (fun hp_1 => ?_)
  · have h := it_t hp_1 h
    cases h
    exact go_thr (x := 255) (e := 0) (ic := 259) (b := 0) (by decide +kernel) (by decide +kernel) (by decide +kernel) R rfl fun Sq Rq Eq => hQ Eq _ _ Rq rfl
  · have h := it_f hp_1 h
    refine go_iload_n (n := 2) (by decide +kernel) l2 f2 ?_
    refine go_aload_n (n := 1) (by decide +kernel) l1 f1 ?_
    obtain ⟨g_4, h⟩ := gd_s h
    obtain ⟨x_6, e_7, h⟩ := lx_s h
    refine go_getf (x := 124) (ci := 11) (kf := 0) (fin := 2) (t := 2) (by decide +kernel) (by decide +kernel) (by decide +kernel) R f1 g_4 fun v_2 f_3 => ?_
    have f_5 := q_is_eq f_3 e_7
    obtain ⟨g_8, h⟩ := gd_s h
    obtain ⟨x_10, hc_9, h⟩ := bp_s h
    refine go_callV (x := 127) (mi := 326) (n := 0) (ci := 0) (as := []) (rest := [v2]) (by decide +kernel) (by decide +kernel) rfl rfl (q_sum8 _ (Nat.le_of_ble_eq_true rfl)) R f_5 g_8 (om_Jx4a65c_size_8abf5 (Nat.le_trans (by decide) hd) R g_8 f_5 hc_9) (fun _ S_14 q_17 => ?_) (fun _ _ qq => kr_x qq)
    refine kr_z (by decide) q_17 fun v_12 f_13 R_15 E_16 => ?_
    refine go_icmp (c := .lt) (o := 14) (t := 26) (P := p2 < x_10) (by decide +kernel) (by decide +kernel) f2 f_13 (Iff.rfl) (fun hp_18 => ?_) (fun hp_18 => ?_)
    · have h := it_t hp_18 h
      cases h
      exact go_vret (by decide +kernel) rfl (hQ (Ext.rf _) _ _ R_15 q_out_n)
    · have h := it_f hp_18 h
      cases h
      exact go_thr (x := 255) (e := 0) (ic := 259) (b := 0) (by decide +kernel) (by decide +kernel) (by decide +kernel) R_15 rfl fun Sq Rq Eq => hQ Eq _ _ Rq rfl
noncomputable def fl_X11_unsafe_15 (y1 y2 : Int) : Nat → Int → Int → MM → Option ((Int ⊕ Nat) × MM)
  | 0, _, _, _ => none
  | n + 1, y3, y4, m => bp (fm_Jx4a65c_size_8abf5 7 m) fun x_54 =>
if y4 < x_54 then
bp (fm_Jx4a65c_get_915e3 7 y4 m) fun x_67 =>
gd (okc m x_67 7) <| lx (m x_67 1) fun x_87 =>
if x_87 = y1 then
lx (m x_67 6) fun x_105 =>
if x_105 = 0 then
bp (fm_X11_codeOf x_67 y2 m) fun x_124 =>
lx (m x_67 16) fun x_135 =>
gd (okc m x_135 3) <| lx (m x_135 4) fun x_141 =>
bd (fm_X4_follow x_67 x_124 x_141 0 m) fun x_146 m_147 =>
if x_146 = 0 then
lx (w32 (y3 + 1)) fun x_175 =>
lx (w32 (y4 + 1)) fun x_187 =>
fl_X11_unsafe_15 y1 y2 n x_175 x_187 m_147
else
lx (w32 (y4 + 1)) fun x_163 =>
fl_X11_unsafe_15 y1 y2 n y3 x_163 m_147
else
lx (w32 (y4 + 1)) fun x_113 =>
fl_X11_unsafe_15 y1 y2 n y3 x_113 m
else
lx (w32 (y4 + 1)) fun x_95 =>
fl_X11_unsafe_15 y1 y2 n y3 x_95 m
else
some (.inl y3, m)
set_option maxHeartbeats 4000000 in
theorem ol_X11_unsafe_15 {xs : List Int32} {d : Nat} {Q : QO → QS → Prop} {mb : MM} {y1 y2 : Int} {rr : Int ⊕ Nat} {rm : MM}
  (hd : 7 ≤ d)
  (hQ : Ext mb rm → ∀ o S1, Rp S1 rm → q_oux 0 o rr → Q o S1) :
  ∀ (n : Nat) {m : MM} {S : QS} {L : QL} {y3 y4 : Int} {v0 : Value} {v1 : Value} {v2 : Value} {v3 : Value} {v4 : Value} , Ext mb m → fl_X11_unsafe_15 y1 y2 n y3 y4 m = some (rr, rm) → Rp S m → q_lo L 0 = some v0 → q_is 2 v0 4 → q_lo L 1 = some v1 → q_is 0 v1 y1 → q_lo L 2 = some v2 → q_is 0 v2 y2 → q_lo L 3 = some v3 → q_is 0 v3 y3 → q_lo L 4 = some v4 → q_is 0 v4 y4 → Go xs d qM_X11_unsafe 15 L [] S Q := by
  intro n
  induction n with
  | zero => intro m S L y3 y4 v0 v1 v2 v3 v4; intro E h R l0 f0 l1 f1 l2 f2 l3 f3 l4 f4; cases h
  | succ n ih0 =>
    intro m S L y3 y4 v0 v1 v2 v3 v4; intro E h R l0 f0 l1 f1 l2 f2 l3 f3 l4 f4
    have ih : ∀ mq : MM, Ext mb mq → ∀ {z3 : Int} {z4 : Int} {Sq : QS} {Lq : QL} {u0 : Value} {u1 : Value} {u2 : Value} {u3 : Value} {u4 : Value}, fl_X11_unsafe_15 y1 y2 n z3 z4 mq = some (rr, rm) → Rp Sq mq → q_lo Lq 0 = some u0 → q_is 2 u0 4 → q_lo Lq 1 = some u1 → q_is 0 u1 y1 → q_lo Lq 2 = some u2 → q_is 0 u2 y2 → q_lo Lq 3 = some u3 → q_is 0 u3 z3 → q_lo Lq 4 = some u4 → q_is 0 u4 z4 → Go xs d qM_X11_unsafe 15 Lq [] Sq Q := fun mq b => by intros; exact ih0 b ‹_› ‹_› ‹_› ‹_› ‹_› ‹_› ‹_› ‹_› ‹_› ‹_› ‹_› ‹_›
    unfold fl_X11_unsafe_15 at h
    refine go_iload (n := 4) (by decide +kernel) l4 f4 ?_
    refine go_aload_n (n := 0) (by decide +kernel) l0 f0 ?_
    refine go_getf (x := 24) (ci := 12) (kf := 2) (fin := 1) (t := 2) (by decide +kernel) (by decide +kernel) (by decide +kernel) R f0 (fx_k (c := 12) R (by decide +kernel)) fun v_50 f_51 => ?_
    have f_52 := q_is_eq (b := 7) f_51 (fx_v R (by decide +kernel)).symm
    obtain ⟨x_54, hc_53, h⟩ := bp_s h
    refine go_callV (x := 127) (mi := 326) (n := 0) (ci := 0) (as := []) (rest := [v4]) (by decide +kernel) (by decide +kernel) rfl rfl (q_sum8 _ (Nat.le_of_ble_eq_true rfl)) R f_52 (fx_k (c := 0) R (by decide +kernel)) (om_Jx4a65c_size_8abf5 (Nat.le_trans (by decide) hd) R (fx_k (c := 0) R (by decide +kernel)) f_52 hc_53) (fun _ S_58 q_61 => ?_) (fun _ _ qq => kr_x qq)
    refine kr_z (by decide) q_61 fun v_56 f_57 R_59 E_60 => ?_
    refine go_icmp (c := .ge) (o := 71) (t := 95) (P := ¬ (y4 < x_54)) (by decide +kernel) (by decide +kernel) f4 f_57 (Int.not_lt.symm) (fun hp_62 => ?_) (fun hp_62 => ?_)
    · have h := it_f hp_62 h
      refine go_iload_n (n := 3) (by decide +kernel) l3 f3 ?_
      cases h
      exact go_iret (by decide +kernel) rfl (Or.inl rfl) f3 (hQ E _ _ R_59 (q_out_v (by decide) f3))
    · have h := it_n hp_62 h
      refine go_aload_n (n := 0) (by decide +kernel) l0 f0 ?_
      refine go_getf (x := 24) (ci := 12) (kf := 2) (fin := 1) (t := 2) (by decide +kernel) (by decide +kernel) (by decide +kernel) R_59 f0 (fx_k (c := 12) R_59 (by decide +kernel)) fun v_63 f_64 => ?_
      have f_65 := q_is_eq (b := 7) f_64 (fx_v R_59 (by decide +kernel)).symm
      refine go_iload (n := 4) (by decide +kernel) l4 f4 ?_
      obtain ⟨x_67, hc_66, h⟩ := bp_s h
      refine go_callV (x := 305) (mi := 329) (n := 1) (ci := 0) (as := [v4]) (rest := []) (by decide +kernel) (by decide +kernel) rfl rfl (q_sum8 _ (Nat.le_of_ble_eq_true rfl)) R_59 f_65 (fx_k (c := 0) R_59 (by decide +kernel)) (om_Jx4a65c_get_915e3 (Nat.le_trans (by decide) hd) R_59 (fx_k (c := 0) R_59 (by decide +kernel)) f_65 f4 hc_66) (fun _ S_71 q_74 => ?_) (fun _ _ qq => kr_x qq)
      refine kr_z (by decide) q_74 fun v_69 f_70 R_72 E_73 => ?_
      obtain ⟨g_75, h⟩ := gd_s h
      refine go_cast (x := 181) (kd := 7) (a := 0) (b := 0) (by decide +kernel) (by decide +kernel) R_72 f_70 g_75 ?_
      refine go_astore (n := 5) (by decide +kernel) (by decide +kernel) f_70 fun L_76 l_77 kp_78 => ?_
      have l_79 := kp_78 0 _ l0 (by decide) (Or.inl (by decide))
      have l_80 := kp_78 1 _ l1 (by decide) (Or.inl (by decide))
      have l_81 := kp_78 2 _ l2 (by decide) (Or.inl (by decide))
      have l_82 := kp_78 3 _ l3 (by decide) (Or.inl (by decide))
      have l_83 := kp_78 4 _ l4 (by decide) (Or.inr (q_is_cat f4 (Or.inl rfl)))
      refine go_aload (n := 5) (by decide +kernel) l_77 f_70 ?_
      obtain ⟨x_87, e_88, h⟩ := lx_s h
      refine go_getf (x := 404) (ci := 7) (kf := 1) (fin := 2) (t := 0) (by decide +kernel) (by decide +kernel) (by decide +kernel) R_72 f_70 g_75 fun v_84 f_85 => ?_
      have f_86 := q_is_eq f_85 e_88
      refine go_iload_n (n := 1) (by decide +kernel) l_80 f1 ?_
      refine go_icmp (c := .ne) (o := 42) (t := 89) (P := ¬ (x_87 = y1)) (by decide +kernel) (by decide +kernel) f_86 f1 (Iff.rfl) (fun hp_89 => ?_) (fun hp_89 => ?_)
      · have h := it_f hp_89 h
        refine go_iinc (n := 4) (c := 1) (c' := 1) (by decide +kernel) (by decide +kernel) l_83 f4 (by decide) fun L_90 v_91 f_92 l_93 kp_94 => ?_
        obtain ⟨x_95, e_96, h⟩ := lx_s h
        have f_97 := q_is_eq f_92 e_96
        have l_98 := kp_94 0 _ l_79 (by decide) (Or.inl (by decide))
        have l_99 := kp_94 1 _ l_80 (by decide) (Or.inl (by decide))
        have l_100 := kp_94 2 _ l_81 (by decide) (Or.inl (by decide))
        have l_101 := kp_94 3 _ l_82 (by decide) (Or.inr (q_is_cat f3 (Or.inl rfl)))
        refine go_goto (o := (-77)) (t := 15) (by decide +kernel) (by decide +kernel) ?_
        exact ih m E h R_72 l_98 f0 l_99 f1 l_100 f2 l_101 f3 l_93 f_97
      · have h := it_n hp_89 h
        refine go_aload (n := 5) (by decide +kernel) l_77 f_70 ?_
        obtain ⟨x_105, e_106, h⟩ := lx_s h
        refine go_getf (x := 208) (ci := 7) (kf := 6) (fin := 0) (t := 0) (by decide +kernel) (by decide +kernel) (by decide +kernel) R_72 f_70 g_75 fun v_102 f_103 => ?_
        have f_104 := q_is_eq f_103 e_106
        refine go_if (c := .ne) (o := 34) (t := 89) (P := ¬ (x_105 = 0)) (by decide +kernel) (by decide +kernel) f_104 (Iff.rfl) (fun hp_107 => ?_) (fun hp_107 => ?_)
        · have h := it_f hp_107 h
          refine go_iinc (n := 4) (c := 1) (c' := 1) (by decide +kernel) (by decide +kernel) l_83 f4 (by decide) fun L_108 v_109 f_110 l_111 kp_112 => ?_
          obtain ⟨x_113, e_114, h⟩ := lx_s h
          have f_115 := q_is_eq f_110 e_114
          have l_116 := kp_112 0 _ l_79 (by decide) (Or.inl (by decide))
          have l_117 := kp_112 1 _ l_80 (by decide) (Or.inl (by decide))
          have l_118 := kp_112 2 _ l_81 (by decide) (Or.inl (by decide))
          have l_119 := kp_112 3 _ l_82 (by decide) (Or.inr (q_is_cat f3 (Or.inl rfl)))
          refine go_goto (o := (-77)) (t := 15) (by decide +kernel) (by decide +kernel) ?_
          exact ih m E h R_72 l_116 f0 l_117 f1 l_118 f2 l_119 f3 l_111 f_115
        · have h := it_n hp_107 h
          refine go_aload_n (n := 0) (by decide +kernel) l_79 f0 ?_
          refine go_getf (x := 57) (ci := 12) (kf := 10) (fin := 1) (t := 2) (by decide +kernel) (by decide +kernel) (by decide +kernel) R_72 f0 (fx_k (c := 12) R_72 (by decide +kernel)) fun v_120 f_121 => ?_
          have f_122 := q_is_eq (b := 16) f_121 (fx_v R_72 (by decide +kernel)).symm
          refine go_aload (n := 5) (by decide +kernel) l_77 f_70 ?_
          refine go_aload_n (n := 0) (by decide +kernel) l_79 f0 ?_
          refine go_aload (n := 5) (by decide +kernel) l_77 f_70 ?_
          refine go_iload_n (n := 2) (by decide +kernel) l_81 f2 ?_
          obtain ⟨x_124, hc_123, h⟩ := bp_s h
          refine go_callV (x := 216) (mi := 149) (n := 2) (ci := 12) (as := [v_69, v2]) (rest := [v_69, v_120]) (by decide +kernel) (by decide +kernel) rfl rfl (q_sum8 _ (Nat.le_of_ble_eq_true rfl)) R_72 f0 (fx_k (c := 12) R_72 (by decide +kernel)) (om_X11_codeOf (Nat.le_trans (by decide) hd) R_72 f0 f_70 f2 hc_123) (fun _ S_128 q_131 => ?_) (fun _ _ qq => kr_x qq)
          refine kr_z (by decide) q_131 fun v_126 f_127 R_129 E_130 => ?_
          refine go_aload (n := 5) (by decide +kernel) l_77 f_70 ?_
          obtain ⟨x_135, e_136, h⟩ := lx_s h
          refine go_getf (x := 195) (ci := 7) (kf := 16) (fin := 2) (t := 2) (by decide +kernel) (by decide +kernel) (by decide +kernel) R_129 f_70 g_75 fun v_132 f_133 => ?_
          have f_134 := q_is_eq f_133 e_136
          obtain ⟨g_139, h⟩ := gd_s h
          obtain ⟨x_141, e_142, h⟩ := lx_s h
          refine go_getf (x := 220) (ci := 3) (kf := 4) (fin := 0) (t := 0) (by decide +kernel) (by decide +kernel) (by decide +kernel) R_129 f_134 g_139 fun v_137 f_138 => ?_
          have f_140 := q_is_eq f_138 e_142
          refine go_iconst (n := 0) (z := 0) (by decide +kernel) (by decide) fun v_143 f_144 => ?_
          obtain ⟨x_146, m_147, hc_145, h⟩ := bd_s h
          refine go_callV (x := 223) (mi := 30) (n := 4) (ci := 5) (as := [v_69, v_126, v_137, v_143]) (rest := []) (by decide +kernel) (by decide +kernel) rfl rfl (q_sum8 _ (Nat.le_of_ble_eq_true rfl)) R_129 f_122 (fx_k (c := 5) R_129 (by decide +kernel)) (om_X4_follow (Nat.le_trans (by decide) hd) R_129 f_122 f_70 f_127 f_140 f_144 hc_145) (fun _ S_150 q_153 => ?_) (fun _ _ qq => kr_x qq)
          refine kr_z (by decide) q_153 fun v_148 f_149 R_151 E_152 => ?_
          have E_156 := Ext.tr E E_152
          refine go_if (c := .ne) (o := 6) (t := 89) (P := ¬ (x_146 = 0)) (by decide +kernel) (by decide +kernel) f_149 (Iff.rfl) (fun hp_157 => ?_) (fun hp_157 => ?_)
          · have h := it_f hp_157 h
            refine go_iinc (n := 4) (c := 1) (c' := 1) (by decide +kernel) (by decide +kernel) l_83 f4 (by decide) fun L_158 v_159 f_160 l_161 kp_162 => ?_
            obtain ⟨x_163, e_164, h⟩ := lx_s h
            have f_165 := q_is_eq f_160 e_164
            have l_166 := kp_162 0 _ l_79 (by decide) (Or.inl (by decide))
            have l_167 := kp_162 1 _ l_80 (by decide) (Or.inl (by decide))
            have l_168 := kp_162 2 _ l_81 (by decide) (Or.inl (by decide))
            have l_169 := kp_162 3 _ l_82 (by decide) (Or.inr (q_is_cat f3 (Or.inl rfl)))
            refine go_goto (o := (-77)) (t := 15) (by decide +kernel) (by decide +kernel) ?_
            exact ih m_147 E_156 h R_151 l_166 f0 l_167 f1 l_168 f2 l_169 f3 l_161 f_165
          · have h := it_n hp_157 h
            refine go_iinc (n := 3) (c := 1) (c' := 1) (by decide +kernel) (by decide +kernel) l_82 f3 (by decide) fun L_170 v_171 f_172 l_173 kp_174 => ?_
            obtain ⟨x_175, e_176, h⟩ := lx_s h
            have f_177 := q_is_eq f_172 e_176
            have l_178 := kp_174 0 _ l_79 (by decide) (Or.inl (by decide))
            have l_179 := kp_174 1 _ l_80 (by decide) (Or.inl (by decide))
            have l_180 := kp_174 2 _ l_81 (by decide) (Or.inr (q_is_cat f2 (Or.inl rfl)))
            have l_181 := kp_174 4 _ l_83 (by decide) (Or.inl (by decide))
            refine go_iinc (n := 4) (c := 1) (c' := 1) (by decide +kernel) (by decide +kernel) l_181 f4 (by decide) fun L_182 v_183 f_184 l_185 kp_186 => ?_
            obtain ⟨x_187, e_188, h⟩ := lx_s h
            have f_189 := q_is_eq f_184 e_188
            have l_190 := kp_186 0 _ l_178 (by decide) (Or.inl (by decide))
            have l_191 := kp_186 1 _ l_179 (by decide) (Or.inl (by decide))
            have l_192 := kp_186 2 _ l_180 (by decide) (Or.inl (by decide))
            have l_193 := kp_186 3 _ l_173 (by decide) (Or.inr (q_is_cat f_177 (Or.inl rfl)))
            refine go_goto (o := (-77)) (t := 15) (by decide +kernel) (by decide +kernel) ?_
            exact ih m_147 E_156 h R_151 l_190 f0 l_191 f1 l_192 f2 l_193 f_177 l_185 f_189
noncomputable def fm_X11_unsafe (p1 p2 : Int) (m0 : MM) : Option ((Int ⊕ Nat) × MM) := bx (fm_X11_typeAt p1 m0) (fun q_10 m_3 => some (.inr q_10, m_3)) fun x_2 m_3 =>
bx (fm_X11_checkVersion x_2 p2 m_3) (fun q_26 m_19 => some (.inr q_26, m_19)) fun x_18 m_19 =>
fl_X11_unsafe_15 p1 p2  BIG 0 0 m_19
set_option maxHeartbeats 4000000 in
theorem om_X11_unsafe {xs : List Int32} {d : Nat} {S : QS} {m0 : MM} {p1 p2 : Int} {v0 : Value} {v1 : Value} {v2 : Value} {rr : Int ⊕ Nat} {rm : MM}
  (hd : 8 ≤ d) (R : Rp S m0) (f0 : q_is 2 v0 4) (f1 : q_is 0 v1 p1) (f2 : q_is 0 v2 p2)
  (h : fm_X11_unsafe p1 p2 m0 = some (rr, rm)) : Mt xs d 125 [v0, v1, v2] S (Cx 0 m0 rm rr) := by
  obtain ⟨d, rfl⟩ : ∃ e, d = e + 1 := ⟨d - 1, by omega⟩
  have hd : 7 ≤ d := Nat.le_of_succ_le_succ hd
  refine Mt.of (M := qM_X11_unsafe) rfl (by rw [sl_1 (q_is_cat f0 (Or.inr rfl)), sl_1 (q_is_cat f1 (Or.inl rfl)), sl_1 (q_is_cat f2 (Or.inl rfl)), sl_0]; decide) ?_
  rw [la_1 (q_is_cat f0 (Or.inr rfl)), la_1 (q_is_cat f1 (Or.inl rfl)), la_1 (q_is_cat f2 (Or.inl rfl)), la_0]
  obtain ⟨L, hL⟩ : ∃ L : QL, L = [(0, v0), (0 + 1, v1), (0 + 1 + 1, v2)] := ⟨_, rfl⟩
  rw [← hL]
  have l0 : q_lo L 0 = some v0 := by rw [hL]; rfl
  have l1 : q_lo L 1 = some v1 := by rw [hL]; rfl
  have l2 : q_lo L 2 = some v2 := by rw [hL]; rfl
  have hQ : Ext m0 rm → ∀ o S1, Rp S1 rm → q_oux 0 o rr → (Cx 0 m0 rm rr) o S1 := fun a o S1 b e => ⟨b, a, e⟩
  unfold fm_X11_unsafe at h
  refine go_aload_n (n := 0) (by decide +kernel) l0 f0 ?_
  refine go_aload_n (n := 0) (by decide +kernel) l0 f0 ?_
  refine go_iload_n (n := 1) (by decide +kernel) l1 f1 ?_
  obtain ⟨rr5, m_3, hc_1, h⟩ := bx_s h
  rcases h with ⟨q_10, rfl, h⟩ | ⟨x_2, rfl, h⟩
  · cases h
    exact go_callV (x := 86) (mi := 137) (n := 1) (ci := 12) (as := [v1]) (rest := [v0]) (by decide +kernel) (by decide +kernel) rfl rfl (q_sum8 _ (Nat.le_of_ble_eq_true rfl)) R f0 (fx_k (c := 12) R (by decide +kernel)) (om_X11_typeAt (Nat.le_trans (by decide) hd) R f0 f1 hc_1) (fun _ _ qq => kx_lx qq) (fun _ _ qq => by
      obtain ⟨rfl, Rq, Eq⟩ := kx_e qq
      exact Or.inl ⟨rfl, hQ Eq _ _ Rq rfl⟩)
  refine go_callV (x := 86) (mi := 137) (n := 1) (ci := 12) (as := [v1]) (rest := [v0]) (by decide +kernel) (by decide +kernel) rfl rfl (q_sum8 _ (Nat.le_of_ble_eq_true rfl)) R f0 (fx_k (c := 12) R (by decide +kernel)) (om_X11_typeAt (Nat.le_trans (by decide) hd) R f0 f1 hc_1) (fun _ S_6 q_9 => ?_) (fun _ _ qq => kr_x (kx_l qq))
  have q_9 := kx_l q_9
  refine kr_z (by decide) q_9 fun v_4 f_5 R_7 E_8 => ?_
  have E_16 := E_8
  refine go_iload_n (n := 2) (by decide +kernel) l2 f2 ?_
  obtain ⟨rr5, m_19, hc_17, h⟩ := bx_s h
  rcases h with ⟨q_26, rfl, h⟩ | ⟨x_18, rfl, h⟩
  · cases h
    exact go_callV (x := 400) (mi := 142) (n := 2) (ci := 12) (as := [v_4, v2]) (rest := []) (by decide +kernel) (by decide +kernel) rfl rfl (q_sum8 _ (Nat.le_of_ble_eq_true rfl)) R_7 f0 (fx_k (c := 12) R_7 (by decide +kernel)) (om_X11_checkVersion (Nat.le_trans (by decide) hd) R_7 f0 f_5 f2 hc_17) (fun _ _ qq => kx_lx qq) (fun _ _ qq => by
      obtain ⟨rfl, Rq, Eq⟩ := kx_e qq
      exact Or.inl ⟨rfl, hQ (Ext.tr E_16 Eq) _ _ Rq rfl⟩)
  refine go_callV (x := 400) (mi := 142) (n := 2) (ci := 12) (as := [v_4, v2]) (rest := []) (by decide +kernel) (by decide +kernel) rfl rfl (q_sum8 _ (Nat.le_of_ble_eq_true rfl)) R_7 f0 (fx_k (c := 12) R_7 (by decide +kernel)) (om_X11_checkVersion (Nat.le_trans (by decide) hd) R_7 f0 f_5 f2 hc_17) (fun _ S_22 q_25 => ?_) (fun _ _ qq => kr_x (kx_l qq))
  have q_25 := kx_l q_25
  refine kr_v q_25 fun R_23 E_24 => ?_
  have E_32 := Ext.tr E_16 E_24
  refine go_iconst (n := 0) (z := 0) (by decide +kernel) (by decide) fun v_33 f_34 => ?_
  refine go_istore_n (n := 3) (by decide +kernel) (by decide +kernel) f_34 fun L_35 l_36 kp_37 => ?_
  have l_38 := kp_37 0 _ l0 (by decide) (Or.inl (by decide))
  have l_39 := kp_37 1 _ l1 (by decide) (Or.inl (by decide))
  have l_40 := kp_37 2 _ l2 (by decide) (Or.inr (q_is_cat f2 (Or.inl rfl)))
  refine go_iconst (n := 0) (z := 0) (by decide +kernel) (by decide) fun v_41 f_42 => ?_
  refine go_istore (n := 4) (by decide +kernel) (by decide +kernel) f_42 fun L_43 l_44 kp_45 => ?_
  have l_46 := kp_45 0 _ l_38 (by decide) (Or.inl (by decide))
  have l_47 := kp_45 1 _ l_39 (by decide) (Or.inl (by decide))
  have l_48 := kp_45 2 _ l_40 (by decide) (Or.inl (by decide))
  have l_49 := kp_45 3 _ l_36 (by decide) (Or.inr (q_is_cat f_34 (Or.inl rfl)))
  refine ol_X11_unsafe_15 hd   (fun b => hQ (Ext.tr E_32 b)) BIG (Ext.rf _) h R_23 l_46 f0 l_47 f1 l_48 f2 l_49 f_34 l_44 f_42
noncomputable def fm_X11_move (p1 p2 : Int) (m0 : MM) : Option ((Int ⊕ Nat) × MM) := bx (fm_X11_runAt p1 m0) (fun q_10 m_3 => some (.inr q_10, m_3)) fun x_2 m_3 =>
gd (okc m_3 x_2 7) <| lx (m_3 x_2 1) fun x_26 =>
bx (fm_X11_typeAt x_26 m_3) (fun q_37 m_30 => some (.inr q_37, m_30)) fun x_29 m_30 =>
bx (fm_X11_checkVersion x_29 p2 m_30) (fun q_53 m_46 => some (.inr q_53, m_46)) fun x_45 m_46 =>
bp (fm_X6_isAlive x_2 m_46) fun x_62 =>
if x_62 = 0 then
some (.inr 2, mthr m_46)
else
up m_46 x_2 3 p2 fun m_71 =>
up m_71 x_2 6 0 fun m_81 =>
bp (fm_X11_codeOf x_2 p2 m_81) fun x_92 =>
lx (m_81 x_2 16) fun x_104 =>
gd (okc m_81 x_104 3) <| lx (m_81 x_104 4) fun x_110 =>
bd (fm_X4_follow x_2 x_92 x_110 0 m_81) fun x_115 m_116 =>
gd (x_115 = 0 ∨ x_115 = 1) <| some (.inl x_115, m_116)
set_option maxHeartbeats 4000000 in
theorem om_X11_move {xs : List Int32} {d : Nat} {S : QS} {m0 : MM} {p1 p2 : Int} {v0 : Value} {v1 : Value} {v2 : Value} {rr : Int ⊕ Nat} {rm : MM}
  (hd : 8 ≤ d) (R : Rp S m0) (f0 : q_is 2 v0 4) (f1 : q_is 0 v1 p1) (f2 : q_is 0 v2 p2)
  (h : fm_X11_move p1 p2 m0 = some (rr, rm)) : Mt xs d 126 [v0, v1, v2] S (Cx 0 m0 rm rr) := by
  obtain ⟨d, rfl⟩ : ∃ e, d = e + 1 := ⟨d - 1, by omega⟩
  have hd : 7 ≤ d := Nat.le_of_succ_le_succ hd
  refine Mt.of (M := qM_X11_move) rfl (by rw [sl_1 (q_is_cat f0 (Or.inr rfl)), sl_1 (q_is_cat f1 (Or.inl rfl)), sl_1 (q_is_cat f2 (Or.inl rfl)), sl_0]; decide) ?_
  rw [la_1 (q_is_cat f0 (Or.inr rfl)), la_1 (q_is_cat f1 (Or.inl rfl)), la_1 (q_is_cat f2 (Or.inl rfl)), la_0]
  obtain ⟨L, hL⟩ : ∃ L : QL, L = [(0, v0), (0 + 1, v1), (0 + 1 + 1, v2)] := ⟨_, rfl⟩
  rw [← hL]
  have l0 : q_lo L 0 = some v0 := by rw [hL]; rfl
  have l1 : q_lo L 1 = some v1 := by rw [hL]; rfl
  have l2 : q_lo L 2 = some v2 := by rw [hL]; rfl
  have hQ : Ext m0 rm → ∀ o S1, Rp S1 rm → q_oux 0 o rr → (Cx 0 m0 rm rr) o S1 := fun a o S1 b e => ⟨b, a, e⟩
  unfold fm_X11_move at h
  refine go_aload_n (n := 0) (by decide +kernel) l0 f0 ?_
  refine go_iload_n (n := 1) (by decide +kernel) l1 f1 ?_
  obtain ⟨rr5, m_3, hc_1, h⟩ := bx_s h
  rcases h with ⟨q_10, rfl, h⟩ | ⟨x_2, rfl, h⟩
  · cases h
    exact go_callV (x := 185) (mi := 139) (n := 1) (ci := 12) (as := [v1]) (rest := []) (by decide +kernel) (by decide +kernel) rfl rfl (q_sum8 _ (Nat.le_of_ble_eq_true rfl)) R f0 (fx_k (c := 12) R (by decide +kernel)) (om_X11_runAt (Nat.le_trans (by decide) hd) R f0 f1 hc_1) (fun _ _ qq => kx_lx qq) (fun _ _ qq => by
      obtain ⟨rfl, Rq, Eq⟩ := kx_e qq
      exact Or.inl ⟨rfl, hQ Eq _ _ Rq rfl⟩)
  refine go_callV (x := 185) (mi := 139) (n := 1) (ci := 12) (as := [v1]) (rest := []) (by decide +kernel) (by decide +kernel) rfl rfl (q_sum8 _ (Nat.le_of_ble_eq_true rfl)) R f0 (fx_k (c := 12) R (by decide +kernel)) (om_X11_runAt (Nat.le_trans (by decide) hd) R f0 f1 hc_1) (fun _ S_6 q_9 => ?_) (fun _ _ qq => kr_x (kx_l qq))
  have q_9 := kx_l q_9
  refine kr_z (by decide) q_9 fun v_4 f_5 R_7 E_8 => ?_
  have E_16 := E_8
  refine go_astore_n (n := 3) (by decide +kernel) (by decide +kernel) f_5 fun L_17 l_18 kp_19 => ?_
  have l_20 := kp_19 0 _ l0 (by decide) (Or.inl (by decide))
  have l_21 := kp_19 2 _ l2 (by decide) (Or.inr (q_is_cat f2 (Or.inl rfl)))
  refine go_aload_n (n := 0) (by decide +kernel) l_20 f0 ?_
  refine go_aload_n (n := 0) (by decide +kernel) l_20 f0 ?_
  refine go_aload_n (n := 3) (by decide +kernel) l_18 f_5 ?_
  obtain ⟨g_24, h⟩ := gd_s h
  obtain ⟨x_26, e_27, h⟩ := lx_s h
  refine go_getf (x := 404) (ci := 7) (kf := 1) (fin := 2) (t := 0) (by decide +kernel) (by decide +kernel) (by decide +kernel) R_7 f_5 g_24 fun v_22 f_23 => ?_
  have f_25 := q_is_eq f_23 e_27
  obtain ⟨rr5, m_30, hc_28, h⟩ := bx_s h
  rcases h with ⟨q_37, rfl, h⟩ | ⟨x_29, rfl, h⟩
  · cases h
    exact go_callV (x := 86) (mi := 137) (n := 1) (ci := 12) (as := [v_22]) (rest := [v0]) (by decide +kernel) (by decide +kernel) rfl rfl (q_sum8 _ (Nat.le_of_ble_eq_true rfl)) R_7 f0 (fx_k (c := 12) R_7 (by decide +kernel)) (om_X11_typeAt (Nat.le_trans (by decide) hd) R_7 f0 f_25 hc_28) (fun _ _ qq => kx_lx qq) (fun _ _ qq => by
      obtain ⟨rfl, Rq, Eq⟩ := kx_e qq
      exact Or.inl ⟨rfl, hQ (Ext.tr E_16 Eq) _ _ Rq rfl⟩)
  refine go_callV (x := 86) (mi := 137) (n := 1) (ci := 12) (as := [v_22]) (rest := [v0]) (by decide +kernel) (by decide +kernel) rfl rfl (q_sum8 _ (Nat.le_of_ble_eq_true rfl)) R_7 f0 (fx_k (c := 12) R_7 (by decide +kernel)) (om_X11_typeAt (Nat.le_trans (by decide) hd) R_7 f0 f_25 hc_28) (fun _ S_33 q_36 => ?_) (fun _ _ qq => kr_x (kx_l qq))
  have q_36 := kx_l q_36
  refine kr_z (by decide) q_36 fun v_31 f_32 R_34 E_35 => ?_
  have E_43 := Ext.tr E_16 E_35
  refine go_iload_n (n := 2) (by decide +kernel) l_21 f2 ?_
  obtain ⟨rr5, m_46, hc_44, h⟩ := bx_s h
  rcases h with ⟨q_53, rfl, h⟩ | ⟨x_45, rfl, h⟩
  · cases h
    exact go_callV (x := 400) (mi := 142) (n := 2) (ci := 12) (as := [v_31, v2]) (rest := []) (by decide +kernel) (by decide +kernel) rfl rfl (q_sum8 _ (Nat.le_of_ble_eq_true rfl)) R_34 f0 (fx_k (c := 12) R_34 (by decide +kernel)) (om_X11_checkVersion (Nat.le_trans (by decide) hd) R_34 f0 f_32 f2 hc_44) (fun _ _ qq => kx_lx qq) (fun _ _ qq => by
      obtain ⟨rfl, Rq, Eq⟩ := kx_e qq
      exact Or.inl ⟨rfl, hQ (Ext.tr E_43 Eq) _ _ Rq rfl⟩)
  refine go_callV (x := 400) (mi := 142) (n := 2) (ci := 12) (as := [v_31, v2]) (rest := []) (by decide +kernel) (by decide +kernel) rfl rfl (q_sum8 _ (Nat.le_of_ble_eq_true rfl)) R_34 f0 (fx_k (c := 12) R_34 (by decide +kernel)) (om_X11_checkVersion (Nat.le_trans (by decide) hd) R_34 f0 f_32 f2 hc_44) (fun _ S_49 q_52 => ?_) (fun _ _ qq => kr_x (kx_l qq))
  have q_52 := kx_l q_52
  refine kr_v q_52 fun R_50 E_51 => ?_
  have E_59 := Ext.tr E_43 E_51
  refine go_aload_n (n := 3) (by decide +kernel) l_18 f_5 ?_
  have g_60 := Ext.ok (Ext.tr E_35 E_51) g_24
  obtain ⟨x_62, hc_61, h⟩ := bp_s h
  refine go_callV (x := 192) (mi := 66) (n := 0) (ci := 7) (as := []) (rest := []) (by decide +kernel) (by decide +kernel) rfl rfl (q_sum8 _ (Nat.le_of_ble_eq_true rfl)) R_50 f_5 g_60 (om_X6_isAlive (Nat.le_trans (by decide) hd) R_50 g_60 f_5 hc_61) (fun _ S_66 q_69 => ?_) (fun _ _ qq => kr_x qq)
  refine kr_z (by decide) q_69 fun v_64 f_65 R_67 E_68 => ?_
  refine go_if (c := .ne) (o := 13) (t := 36) (P := ¬ (x_62 = 0)) (by decide +kernel) (by decide +kernel) f_65 (Iff.rfl) (fun hp_70 => ?_) (fun hp_70 => ?_)
  · have h := it_f hp_70 h
    refine go_aload_n (n := 3) (by decide +kernel) l_18 f_5 ?_
    refine go_iload_n (n := 2) (by decide +kernel) l_21 f2 ?_
    obtain ⟨m_71, e_72, h⟩ := up_s h
    refine go_putf (x := 213) (ci := 7) (kf := 3) (fin := 0) (zt := 0) (by decide +kernel) (by decide +kernel) (by decide) (by decide +kernel) (by decide) (Or.inl rfl) R_67 f_5 f2 (fun hq => absurd hq (by decide)) g_60 e_72 (fx_f (j := 3) R_67.2 g_60 (by decide +kernel)) fun S_73 R_74 E_75 => ?_
    have E_77 := Ext.tr E_59 E_75
    refine go_aload_n (n := 3) (by decide +kernel) l_18 f_5 ?_
    refine go_iconst (n := 0) (z := 0) (by decide +kernel) (by decide) fun v_78 f_79 => ?_
    have g_80 := Ext.ok E_75 g_60
    obtain ⟨m_81, e_82, h⟩ := up_s h
    refine go_putf (x := 208) (ci := 7) (kf := 6) (fin := 0) (zt := 0) (by decide +kernel) (by decide +kernel) (by decide) (by decide +kernel) (by decide) (Or.inl rfl) R_74 f_5 f_79 (fun hq => absurd hq (by decide)) g_80 e_82 (fx_f (j := 6) R_74.2 g_80 (by decide +kernel)) fun S_83 R_84 E_85 => ?_
    have E_87 := Ext.tr E_77 E_85
    refine go_aload_n (n := 0) (by decide +kernel) l_20 f0 ?_
    refine go_getf (x := 57) (ci := 12) (kf := 10) (fin := 1) (t := 2) (by decide +kernel) (by decide +kernel) (by decide +kernel) R_84 f0 (fx_k (c := 12) R_84 (by decide +kernel)) fun v_88 f_89 => ?_
    have f_90 := q_is_eq (b := 16) f_89 (fx_v R_84 (by decide +kernel)).symm
    refine go_aload_n (n := 3) (by decide +kernel) l_18 f_5 ?_
    refine go_aload_n (n := 0) (by decide +kernel) l_20 f0 ?_
    refine go_aload_n (n := 3) (by decide +kernel) l_18 f_5 ?_
    refine go_iload_n (n := 2) (by decide +kernel) l_21 f2 ?_
    obtain ⟨x_92, hc_91, h⟩ := bp_s h
    refine go_callV (x := 216) (mi := 149) (n := 2) (ci := 12) (as := [v_4, v2]) (rest := [v_4, v_88]) (by decide +kernel) (by decide +kernel) rfl rfl (q_sum8 _ (Nat.le_of_ble_eq_true rfl)) R_84 f0 (fx_k (c := 12) R_84 (by decide +kernel)) (om_X11_codeOf (Nat.le_trans (by decide) hd) R_84 f0 f_5 f2 hc_91) (fun _ S_96 q_99 => ?_) (fun _ _ qq => kr_x qq)
    refine kr_z (by decide) q_99 fun v_94 f_95 R_97 E_98 => ?_
    refine go_aload_n (n := 3) (by decide +kernel) l_18 f_5 ?_
    have g_102 := Ext.ok E_85 g_80
    obtain ⟨x_104, e_105, h⟩ := lx_s h
    refine go_getf (x := 195) (ci := 7) (kf := 16) (fin := 2) (t := 2) (by decide +kernel) (by decide +kernel) (by decide +kernel) R_97 f_5 g_102 fun v_100 f_101 => ?_
    have f_103 := q_is_eq f_101 e_105
    obtain ⟨g_108, h⟩ := gd_s h
    obtain ⟨x_110, e_111, h⟩ := lx_s h
    refine go_getf (x := 220) (ci := 3) (kf := 4) (fin := 0) (t := 0) (by decide +kernel) (by decide +kernel) (by decide +kernel) R_97 f_103 g_108 fun v_106 f_107 => ?_
    have f_109 := q_is_eq f_107 e_111
    refine go_iconst (n := 0) (z := 0) (by decide +kernel) (by decide) fun v_112 f_113 => ?_
    obtain ⟨x_115, m_116, hc_114, h⟩ := bd_s h
    refine go_callV (x := 223) (mi := 30) (n := 4) (ci := 5) (as := [v_4, v_94, v_106, v_112]) (rest := []) (by decide +kernel) (by decide +kernel) rfl rfl (q_sum8 _ (Nat.le_of_ble_eq_true rfl)) R_97 f_90 (fx_k (c := 5) R_97 (by decide +kernel)) (om_X4_follow (Nat.le_trans (by decide) hd) R_97 f_90 f_5 f_95 f_109 f_113 hc_114) (fun _ S_119 q_122 => ?_) (fun _ _ qq => kr_x qq)
    refine kr_z (by decide) q_122 fun v_117 f_118 R_120 E_121 => ?_
    have E_125 := Ext.tr E_87 E_121
    obtain ⟨g_126, h⟩ := gd_s h
    cases h
    exact go_iret (by decide +kernel) rfl (Or.inr ⟨rfl, g_126⟩) f_118 (hQ E_125 _ _ R_120 (q_out_v (by decide) f_118))
  · have h := it_n hp_70 h
    cases h
    exact go_thr (x := 111) (e := 2) (ic := 115) (b := 0) (by decide +kernel) (by decide +kernel) (by decide +kernel) R_67 rfl fun Sq Rq Eq => hQ (Ext.tr E_59 Eq) _ _ Rq rfl
noncomputable def fl_X11_partFromChildren_2 (y1 y2 : Int) : Nat → Int → MM → Option (Int × MM)
  | 0, _, _ => none
  | n + 1, y3, m => bp (fm_Jx4a65c_size_8abf5 7 m) fun x_13 =>
if y3 < x_13 then
bp (fm_Jx4a65c_get_915e3 7 y3 m) fun x_26 =>
gd (okc m x_26 7) <| lx (m x_26 4) fun x_45 =>
if x_45 = y1 then
lx (m x_26 5) fun x_62 =>
if x_62 < y2 then
lx (w32 (y3 + 1)) fun x_70 =>
fl_X11_partFromChildren_2 y1 y2 n x_70 m
else
up m x_26 4 (-1) fun m_78 =>
lx (w32 (y3 + 1)) fun x_90 =>
fl_X11_partFromChildren_2 y1 y2 n x_90 m_78
else
lx (w32 (y3 + 1)) fun x_53 =>
fl_X11_partFromChildren_2 y1 y2 n x_53 m
else
some (0, m)
set_option maxHeartbeats 4000000 in
theorem ol_X11_partFromChildren_2 {xs : List Int32} {d : Nat} {Q : QO → QS → Prop} {mb : MM} {y1 y2 : Int} {rz : Int} {rm : MM}
  (hd : 3 ≤ d)
  (hQ : Ext mb rm → ∀ o S1, Rp S1 rm → q_out 9 o rz → Q o S1) :
  ∀ (n : Nat) {m : MM} {S : QS} {L : QL} {y3 : Int} {v0 : Value} {v1 : Value} {v2 : Value} {v3 : Value} , Ext mb m → fl_X11_partFromChildren_2 y1 y2 n y3 m = some (rz, rm) → Rp S m → q_lo L 0 = some v0 → q_is 2 v0 4 → q_lo L 1 = some v1 → q_is 0 v1 y1 → q_lo L 2 = some v2 → q_is 0 v2 y2 → q_lo L 3 = some v3 → q_is 0 v3 y3 → Go xs d qM_X11_partFromChildren 2 L [] S Q := by
  intro n
  induction n with
  | zero => intro m S L y3 v0 v1 v2 v3; intro E h R l0 f0 l1 f1 l2 f2 l3 f3; cases h
  | succ n ih0 =>
    intro m S L y3 v0 v1 v2 v3; intro E h R l0 f0 l1 f1 l2 f2 l3 f3
    have ih : ∀ mq : MM, Ext mb mq → ∀ {z3 : Int} {Sq : QS} {Lq : QL} {u0 : Value} {u1 : Value} {u2 : Value} {u3 : Value}, fl_X11_partFromChildren_2 y1 y2 n z3 mq = some (rz, rm) → Rp Sq mq → q_lo Lq 0 = some u0 → q_is 2 u0 4 → q_lo Lq 1 = some u1 → q_is 0 u1 y1 → q_lo Lq 2 = some u2 → q_is 0 u2 y2 → q_lo Lq 3 = some u3 → q_is 0 u3 z3 → Go xs d qM_X11_partFromChildren 2 Lq [] Sq Q := fun mq b => by intros; exact ih0 b ‹_› ‹_› ‹_› ‹_› ‹_› ‹_› ‹_› ‹_› ‹_› ‹_›
    unfold fl_X11_partFromChildren_2 at h
    refine go_iload_n (n := 3) (by decide +kernel) l3 f3 ?_
    refine go_aload_n (n := 0) (by decide +kernel) l0 f0 ?_
    refine go_getf (x := 24) (ci := 12) (kf := 2) (fin := 1) (t := 2) (by decide +kernel) (by decide +kernel) (by decide +kernel) R f0 (fx_k (c := 12) R (by decide +kernel)) fun v_9 f_10 => ?_
    have f_11 := q_is_eq (b := 7) f_10 (fx_v R (by decide +kernel)).symm
    obtain ⟨x_13, hc_12, h⟩ := bp_s h
    refine go_callV (x := 127) (mi := 326) (n := 0) (ci := 0) (as := []) (rest := [v3]) (by decide +kernel) (by decide +kernel) rfl rfl (q_sum8 _ (Nat.le_of_ble_eq_true rfl)) R f_11 (fx_k (c := 0) R (by decide +kernel)) (om_Jx4a65c_size_8abf5 (Nat.le_trans (by decide) hd) R (fx_k (c := 0) R (by decide +kernel)) f_11 hc_12) (fun _ S_17 q_20 => ?_) (fun _ _ qq => kr_x qq)
    refine kr_z (by decide) q_20 fun v_15 f_16 R_18 E_19 => ?_
    refine go_icmp (c := .ge) (o := 46) (t := 56) (P := ¬ (y3 < x_13)) (by decide +kernel) (by decide +kernel) f3 f_16 (Int.not_lt.symm) (fun hp_21 => ?_) (fun hp_21 => ?_)
    · have h := it_f hp_21 h
      cases h
      exact go_vret (by decide +kernel) rfl (hQ E _ _ R_18 q_out_n)
    · have h := it_n hp_21 h
      refine go_aload_n (n := 0) (by decide +kernel) l0 f0 ?_
      refine go_getf (x := 24) (ci := 12) (kf := 2) (fin := 1) (t := 2) (by decide +kernel) (by decide +kernel) (by decide +kernel) R_18 f0 (fx_k (c := 12) R_18 (by decide +kernel)) fun v_22 f_23 => ?_
      have f_24 := q_is_eq (b := 7) f_23 (fx_v R_18 (by decide +kernel)).symm
      refine go_iload_n (n := 3) (by decide +kernel) l3 f3 ?_
      obtain ⟨x_26, hc_25, h⟩ := bp_s h
      refine go_callV (x := 305) (mi := 329) (n := 1) (ci := 0) (as := [v3]) (rest := []) (by decide +kernel) (by decide +kernel) rfl rfl (q_sum8 _ (Nat.le_of_ble_eq_true rfl)) R_18 f_24 (fx_k (c := 0) R_18 (by decide +kernel)) (om_Jx4a65c_get_915e3 (Nat.le_trans (by decide) hd) R_18 (fx_k (c := 0) R_18 (by decide +kernel)) f_24 f3 hc_25) (fun _ S_30 q_33 => ?_) (fun _ _ qq => kr_x qq)
      refine kr_z (by decide) q_33 fun v_28 f_29 R_31 E_32 => ?_
      obtain ⟨g_34, h⟩ := gd_s h
      refine go_cast (x := 181) (kd := 7) (a := 0) (b := 0) (by decide +kernel) (by decide +kernel) R_31 f_29 g_34 ?_
      refine go_astore (n := 4) (by decide +kernel) (by decide +kernel) f_29 fun L_35 l_36 kp_37 => ?_
      have l_38 := kp_37 0 _ l0 (by decide) (Or.inl (by decide))
      have l_39 := kp_37 1 _ l1 (by decide) (Or.inl (by decide))
      have l_40 := kp_37 2 _ l2 (by decide) (Or.inl (by decide))
      have l_41 := kp_37 3 _ l3 (by decide) (Or.inr (q_is_cat f3 (Or.inl rfl)))
      refine go_aload (n := 4) (by decide +kernel) l_36 f_29 ?_
      obtain ⟨x_45, e_46, h⟩ := lx_s h
      refine go_getf (x := 414) (ci := 7) (kf := 4) (fin := 0) (t := 0) (by decide +kernel) (by decide +kernel) (by decide +kernel) R_31 f_29 g_34 fun v_42 f_43 => ?_
      have f_44 := q_is_eq f_43 e_46
      refine go_iload_n (n := 1) (by decide +kernel) l_39 f1 ?_
      refine go_icmp (c := .ne) (o := 18) (t := 50) (P := ¬ (x_45 = y1)) (by decide +kernel) (by decide +kernel) f_44 f1 (Iff.rfl) (fun hp_47 => ?_) (fun hp_47 => ?_)
      · have h := it_f hp_47 h
        refine go_iinc (n := 3) (c := 1) (c' := 1) (by decide +kernel) (by decide +kernel) l_41 f3 (by decide) fun L_48 v_49 f_50 l_51 kp_52 => ?_
        obtain ⟨x_53, e_54, h⟩ := lx_s h
        have f_55 := q_is_eq f_50 e_54
        have l_56 := kp_52 0 _ l_38 (by decide) (Or.inl (by decide))
        have l_57 := kp_52 1 _ l_39 (by decide) (Or.inl (by decide))
        have l_58 := kp_52 2 _ l_40 (by decide) (Or.inr (q_is_cat f2 (Or.inl rfl)))
        refine go_goto (o := (-51)) (t := 2) (by decide +kernel) (by decide +kernel) ?_
        exact ih m E h R_31 l_56 f0 l_57 f1 l_58 f2 l_51 f_55
      · have h := it_n hp_47 h
        refine go_aload (n := 4) (by decide +kernel) l_36 f_29 ?_
        obtain ⟨x_62, e_63, h⟩ := lx_s h
        refine go_getf (x := 417) (ci := 7) (kf := 5) (fin := 2) (t := 0) (by decide +kernel) (by decide +kernel) (by decide +kernel) R_31 f_29 g_34 fun v_59 f_60 => ?_
        have f_61 := q_is_eq f_60 e_63
        refine go_iload_n (n := 2) (by decide +kernel) l_40 f2 ?_
        refine go_icmp (c := .lt) (o := 9) (t := 50) (P := x_62 < y2) (by decide +kernel) (by decide +kernel) f_61 f2 (Iff.rfl) (fun hp_64 => ?_) (fun hp_64 => ?_)
        · have h := it_t hp_64 h
          refine go_iinc (n := 3) (c := 1) (c' := 1) (by decide +kernel) (by decide +kernel) l_41 f3 (by decide) fun L_65 v_66 f_67 l_68 kp_69 => ?_
          obtain ⟨x_70, e_71, h⟩ := lx_s h
          have f_72 := q_is_eq f_67 e_71
          have l_73 := kp_69 0 _ l_38 (by decide) (Or.inl (by decide))
          have l_74 := kp_69 1 _ l_39 (by decide) (Or.inl (by decide))
          have l_75 := kp_69 2 _ l_40 (by decide) (Or.inr (q_is_cat f2 (Or.inl rfl)))
          refine go_goto (o := (-51)) (t := 2) (by decide +kernel) (by decide +kernel) ?_
          exact ih m E h R_31 l_73 f0 l_74 f1 l_75 f2 l_68 f_72
        · have h := it_f hp_64 h
          refine go_aload (n := 4) (by decide +kernel) l_36 f_29 ?_
          refine go_iconst (n := (-1)) (z := (-1)) (by decide +kernel) (by decide) fun v_76 f_77 => ?_
          obtain ⟨m_78, e_79, h⟩ := up_s h
          refine go_putf (x := 414) (ci := 7) (kf := 4) (fin := 0) (zt := 0) (by decide +kernel) (by decide +kernel) (by decide) (by decide +kernel) (by decide) (Or.inl rfl) R_31 f_29 f_77 (fun hq => absurd hq (by decide)) g_34 e_79 (fx_f (j := 4) R_31.2 g_34 (by decide +kernel)) fun S_80 R_81 E_82 => ?_
          have E_84 := Ext.tr E E_82
          refine go_iinc (n := 3) (c := 1) (c' := 1) (by decide +kernel) (by decide +kernel) l_41 f3 (by decide) fun L_85 v_86 f_87 l_88 kp_89 => ?_
          obtain ⟨x_90, e_91, h⟩ := lx_s h
          have f_92 := q_is_eq f_87 e_91
          have l_93 := kp_89 0 _ l_38 (by decide) (Or.inl (by decide))
          have l_94 := kp_89 1 _ l_39 (by decide) (Or.inl (by decide))
          have l_95 := kp_89 2 _ l_40 (by decide) (Or.inr (q_is_cat f2 (Or.inl rfl)))
          refine go_goto (o := (-51)) (t := 2) (by decide +kernel) (by decide +kernel) ?_
          exact ih m_78 E_84 h R_81 l_93 f0 l_94 f1 l_95 f2 l_88 f_92
noncomputable def fm_X11_partFromChildren (p1 p2 : Int) (m0 : MM) : Option (Int × MM) := fl_X11_partFromChildren_2 p1 p2  BIG 0 m0
set_option maxHeartbeats 4000000 in
theorem om_X11_partFromChildren {xs : List Int32} {d : Nat} {S : QS} {m0 : MM} {p1 p2 : Int} {v0 : Value} {v1 : Value} {v2 : Value} {rz : Int} {rm : MM}
  (hd : 4 ≤ d) (R : Rp S m0) (f0 : q_is 2 v0 4) (f1 : q_is 0 v1 p1) (f2 : q_is 0 v2 p2)
  (h : fm_X11_partFromChildren p1 p2 m0 = some (rz, rm)) : Mt xs d 158 [v0, v1, v2] S (Cr 9 m0 rm rz) := by
  obtain ⟨d, rfl⟩ : ∃ e, d = e + 1 := ⟨d - 1, by omega⟩
  have hd : 3 ≤ d := Nat.le_of_succ_le_succ hd
  refine Mt.of (M := qM_X11_partFromChildren) rfl (by rw [sl_1 (q_is_cat f0 (Or.inr rfl)), sl_1 (q_is_cat f1 (Or.inl rfl)), sl_1 (q_is_cat f2 (Or.inl rfl)), sl_0]; decide) ?_
  rw [la_1 (q_is_cat f0 (Or.inr rfl)), la_1 (q_is_cat f1 (Or.inl rfl)), la_1 (q_is_cat f2 (Or.inl rfl)), la_0]
  obtain ⟨L, hL⟩ : ∃ L : QL, L = [(0, v0), (0 + 1, v1), (0 + 1 + 1, v2)] := ⟨_, rfl⟩
  rw [← hL]
  have l0 : q_lo L 0 = some v0 := by rw [hL]; rfl
  have l1 : q_lo L 1 = some v1 := by rw [hL]; rfl
  have l2 : q_lo L 2 = some v2 := by rw [hL]; rfl
  have hQ : Ext m0 rm → ∀ o S1, Rp S1 rm → q_out 9 o rz → (Cr 9 m0 rm rz) o S1 := fun a o S1 b e => ⟨b, a, e⟩
  unfold fm_X11_partFromChildren at h
  refine go_iconst (n := 0) (z := 0) (by decide +kernel) (by decide) fun v_1 f_2 => ?_
  refine go_istore_n (n := 3) (by decide +kernel) (by decide +kernel) f_2 fun L_3 l_4 kp_5 => ?_
  have l_6 := kp_5 0 _ l0 (by decide) (Or.inl (by decide))
  have l_7 := kp_5 1 _ l1 (by decide) (Or.inl (by decide))
  have l_8 := kp_5 2 _ l2 (by decide) (Or.inr (q_is_cat f2 (Or.inl rfl)))
  refine ol_X11_partFromChildren_2 hd   hQ BIG (Ext.rf _) h R l_6 f0 l_7 f1 l_8 f2 l_4 f_2
noncomputable def fj_X11_restoreWork_41 (c : Int → MM → Option (Int × MM)) (y1 y2 y3 y4 y5 : Int) (m : MM) : Option (Int × MM) := gd (okc m y2 3) <| bp (fm_X2_hasEnded y2 y4 m) fun x_57 =>
if x_57 = 0 then
if y5 = 8 then
bp (fm_X2_x y2 y4 m) fun x_133 =>
bp (fm_X2_y y2 y4 m) fun x_142 =>
bd (fm_X11_makeActivity y1 y4 x_133 x_142 m) fun x_151 m_152 =>
lx (w32 (y4 + 1)) fun x_167 =>
c x_167 m_152
else
bp (fm_X2_timeOfCommand y2 y4 m) fun x_70 =>
bp (fm_X2_x y2 y4 m) fun x_79 =>
lx (m 4 14) fun x_92 =>
bp (fm_J9_max_7cf53 (w32 (x_70 + x_79)) (w32 (x_92 + 1)) m) fun x_99 =>
gd (okc m y1 7) <| bd (fm_X6_addTimer y1 y4 x_99 m) fun x_109 m_110 =>
lx (w32 (y4 + 1)) fun x_125 =>
c x_125 m_110
else
lx (w32 (y4 + 1)) fun x_179 =>
c x_179 m
set_option maxHeartbeats 4000000 in
theorem oj_X11_restoreWork_41 {xs : List Int32} {d : Nat} {S : QS} {L : QL} {Q : QO → QS → Prop} {m : MM} {y1 y2 y3 y4 y5 : Int} {v0 : Value} {v1 : Value} {v2 : Value} {v3 : Value} {v4 : Value} {v5 : Value}  {rz : Int} {rm : MM} {c : Int → MM → Option (Int × MM)} 
  (hd : 9 ≤ d) (R : Rp S m) (l0 : q_lo L 0 = some v0) (f0 : q_is 2 v0 4) (l1 : q_lo L 1 = some v1) (f1 : q_is 2 v1 y1) (l2 : q_lo L 2 = some v2) (f2 : q_is 2 v2 y2) (l3 : q_lo L 3 = some v3) (f3 : q_is 0 v3 y3) (l4 : q_lo L 4 = some v4) (f4 : q_is 0 v4 y4) (l5 : q_lo L 5 = some v5) (f5 : q_is 0 v5 y5)
  (hc : ∀ mq : MM, Ext m mq → ∀ {z4 : Int} {Sq : QS} {Lq : QL} {u0 : Value} {u1 : Value} {u2 : Value} {u3 : Value} {u4 : Value}, c z4 mq = some (rz, rm) → Rp Sq mq → q_lo Lq 0 = some u0 → q_is 2 u0 4 → q_lo Lq 1 = some u1 → q_is 2 u1 y1 → q_lo Lq 2 = some u2 → q_is 2 u2 y2 → q_lo Lq 3 = some u3 → q_is 0 u3 y3 → q_lo Lq 4 = some u4 → q_is 0 u4 z4 → Go xs d qM_X11_restoreWork 13 Lq [] Sq Q)
  (hQ : Ext m rm → ∀ o S1, Rp S1 rm → q_out 9 o rz → Q o S1)
  (h : fj_X11_restoreWork_41 c y1 y2 y3 y4 y5 m = some (rz, rm)) : Go xs d qM_X11_restoreWork 41 L [] S Q := by
  unfold fj_X11_restoreWork_41 at h
  refine go_aload_n (n := 2) (by decide +kernel) l2 f2 ?_
  refine go_iload (n := 4) (by decide +kernel) l4 f4 ?_
  obtain ⟨g_55, h⟩ := gd_s h
  obtain ⟨x_57, hc_56, h⟩ := bp_s h
  refine go_callV (x := 626) (mi := 27) (n := 1) (ci := 3) (as := [v4]) (rest := []) (by decide +kernel) (by decide +kernel) rfl rfl (q_sum8 _ (Nat.le_of_ble_eq_true rfl)) R f2 g_55 (om_X2_hasEnded (Nat.le_trans (by decide) hd) R g_55 f2 f4 hc_56) (fun _ S_61 q_64 => ?_) (fun _ _ qq => kr_x qq)
  refine kr_z (by decide) q_64 fun v_59 f_60 R_62 E_63 => ?_
  refine go_if (c := .eq) (o := 6) (t := 53) (P := x_57 = 0) (by decide +kernel) (by decide +kernel) f_60 (Iff.rfl) (fun hp_65 => ?_) (fun hp_65 => ?_)
  · have h := it_t hp_65 h
    refine go_iload (n := 5) (by decide +kernel) l5 f5 ?_
    refine go_bipush (n := 8) (z := 8) (by decide +kernel) (by decide) fun v_66 f_67 => ?_
    refine go_icmp (c := .ne) (o := 25) (t := 82) (P := ¬ (y5 = 8)) (by decide +kernel) (by decide +kernel) f5 f_67 (Iff.rfl) (fun hp_68 => ?_) (fun hp_68 => ?_)
    · have h := it_f hp_68 h
      refine go_aload_n (n := 1) (by decide +kernel) l1 f1 ?_
      refine go_iload (n := 4) (by decide +kernel) l4 f4 ?_
      refine go_aload_n (n := 2) (by decide +kernel) l2 f2 ?_
      refine go_iload (n := 4) (by decide +kernel) l4 f4 ?_
      obtain ⟨x_70, hc_69, h⟩ := bp_s h
      refine go_callV (x := 629) (mi := 12) (n := 1) (ci := 3) (as := [v4]) (rest := [v4, v1]) (by decide +kernel) (by decide +kernel) rfl rfl (q_sum8 _ (Nat.le_of_ble_eq_true rfl)) R_62 f2 g_55 (om_X2_timeOfCommand (Nat.le_trans (by decide) hd) R_62 g_55 f2 f4 hc_69) (fun _ S_74 q_77 => ?_) (fun _ _ qq => kr_x qq)
      refine kr_z (by decide) q_77 fun v_72 f_73 R_75 E_76 => ?_
      refine go_aload_n (n := 2) (by decide +kernel) l2 f2 ?_
      refine go_iload (n := 4) (by decide +kernel) l4 f4 ?_
      obtain ⟨x_79, hc_78, h⟩ := bp_s h
      refine go_callV (x := 264) (mi := 10) (n := 1) (ci := 3) (as := [v4]) (rest := [v_72, v4, v1]) (by decide +kernel) (by decide +kernel) rfl rfl (q_sum8 _ (Nat.le_of_ble_eq_true rfl)) R_75 f2 g_55 (om_X2_x (Nat.le_trans (by decide) hd) R_75 g_55 f2 f4 hc_78) (fun _ S_83 q_86 => ?_) (fun _ _ qq => kr_x qq)
      refine kr_z (by decide) q_86 fun v_81 f_82 R_84 E_85 => ?_
      refine go_iadd (by decide +kernel) f_73 f_82 fun v_87 f_88 => ?_
      refine go_aload_n (n := 0) (by decide +kernel) l0 f0 ?_
      obtain ⟨x_92, e_93, h⟩ := lx_s h
      refine go_getf (x := 71) (ci := 12) (kf := 14) (fin := 0) (t := 0) (by decide +kernel) (by decide +kernel) (by decide +kernel) R_84 f0 (fx_k (c := 12) R_84 (by decide +kernel)) fun v_89 f_90 => ?_
      have f_91 := q_is_eq f_90 e_93
      refine go_iconst (n := 1) (z := 1) (by decide +kernel) (by decide) fun v_94 f_95 => ?_
      refine go_iadd (by decide +kernel) f_91 f_95 fun v_96 f_97 => ?_
      obtain ⟨x_99, hc_98, h⟩ := bp_s h
      refine go_callS (x := 632) (mi := 319) (n := 2) (b := 0) (as := [v_87, v_96]) (rest := [v4, v1]) (by decide +kernel) (by decide +kernel) rfl rfl (q_sum8 _ (Nat.le_of_ble_eq_true rfl)) (om_J9_max_7cf53 (Nat.le_trans (by decide) hd) R_84 f_88 f_97 hc_98) (fun _ S_103 q_106 => ?_) (fun _ _ qq => kr_x qq)
      refine kr_z (by decide) q_106 fun v_101 f_102 R_104 E_105 => ?_
      obtain ⟨g_107, h⟩ := gd_s h
      obtain ⟨x_109, m_110, hc_108, h⟩ := bd_s h
      refine go_callV (x := 591) (mi := 71) (n := 2) (ci := 7) (as := [v4, v_101]) (rest := []) (by decide +kernel) (by decide +kernel) rfl rfl (q_sum8 _ (Nat.le_of_ble_eq_true rfl)) R_104 f1 g_107 (om_X6_addTimer (Nat.le_trans (by decide) hd) R_104 g_107 f1 f4 f_102 hc_108) (fun _ S_113 q_116 => ?_) (fun _ _ qq => kr_x qq)
      refine kr_v q_116 fun R_114 E_115 => ?_
      have E_119 := E_115
      refine go_iinc (n := 4) (c := 1) (c' := 1) (by decide +kernel) (by decide +kernel) l4 f4 (by decide) fun L_120 v_121 f_122 l_123 kp_124 => ?_
      obtain ⟨x_125, e_126, h⟩ := lx_s h
      have f_127 := q_is_eq f_122 e_126
      have l_128 := kp_124 0 _ l0 (by decide) (Or.inl (by decide))
      have l_129 := kp_124 1 _ l1 (by decide) (Or.inl (by decide))
      have l_130 := kp_124 2 _ l2 (by decide) (Or.inl (by decide))
      have l_131 := kp_124 3 _ l3 (by decide) (Or.inr (q_is_cat f3 (Or.inl rfl)))
      refine go_goto (o := (-100)) (t := 13) (by decide +kernel) (by decide +kernel) ?_
      exact hc m_110 E_119 h R_114 l_128 f0 l_129 f1 l_130 f2 l_131 f3 l_123 f_127
    · have h := it_n hp_68 h
      refine go_aload_n (n := 0) (by decide +kernel) l0 f0 ?_
      refine go_aload_n (n := 1) (by decide +kernel) l1 f1 ?_
      refine go_iload (n := 4) (by decide +kernel) l4 f4 ?_
      refine go_aload_n (n := 2) (by decide +kernel) l2 f2 ?_
      refine go_iload (n := 4) (by decide +kernel) l4 f4 ?_
      obtain ⟨x_133, hc_132, h⟩ := bp_s h
      refine go_callV (x := 264) (mi := 10) (n := 1) (ci := 3) (as := [v4]) (rest := [v4, v1, v0]) (by decide +kernel) (by decide +kernel) rfl rfl (q_sum8 _ (Nat.le_of_ble_eq_true rfl)) R_62 f2 g_55 (om_X2_x (Nat.le_trans (by decide) hd) R_62 g_55 f2 f4 hc_132) (fun _ S_137 q_140 => ?_) (fun _ _ qq => kr_x qq)
      refine kr_z (by decide) q_140 fun v_135 f_136 R_138 E_139 => ?_
      refine go_aload_n (n := 2) (by decide +kernel) l2 f2 ?_
      refine go_iload (n := 4) (by decide +kernel) l4 f4 ?_
      obtain ⟨x_142, hc_141, h⟩ := bp_s h
      refine go_callV (x := 267) (mi := 11) (n := 1) (ci := 3) (as := [v4]) (rest := [v_135, v4, v1, v0]) (by decide +kernel) (by decide +kernel) rfl rfl (q_sum8 _ (Nat.le_of_ble_eq_true rfl)) R_138 f2 g_55 (om_X2_y (Nat.le_trans (by decide) hd) R_138 g_55 f2 f4 hc_141) (fun _ S_146 q_149 => ?_) (fun _ _ qq => kr_x qq)
      refine kr_z (by decide) q_149 fun v_144 f_145 R_147 E_148 => ?_
      obtain ⟨x_151, m_152, hc_150, h⟩ := bd_s h
      refine go_callV (x := 588) (mi := 168) (n := 4) (ci := 12) (as := [v1, v4, v_135, v_144]) (rest := []) (by decide +kernel) (by decide +kernel) rfl rfl (q_sum8 _ (Nat.le_of_ble_eq_true rfl)) R_147 f0 (fx_k (c := 12) R_147 (by decide +kernel)) (om_X11_makeActivity (Nat.le_trans (by decide) hd) R_147 f0 f1 f4 f_136 f_145 hc_150) (fun _ S_155 q_158 => ?_) (fun _ _ qq => kr_x qq)
      refine kr_v q_158 fun R_156 E_157 => ?_
      have E_161 := E_157
      refine go_goto (o := 31) (t := 110) (by decide +kernel) (by decide +kernel) ?_
      refine go_iinc (n := 4) (c := 1) (c' := 1) (by decide +kernel) (by decide +kernel) l4 f4 (by decide) fun L_162 v_163 f_164 l_165 kp_166 => ?_
      obtain ⟨x_167, e_168, h⟩ := lx_s h
      have f_169 := q_is_eq f_164 e_168
      have l_170 := kp_166 0 _ l0 (by decide) (Or.inl (by decide))
      have l_171 := kp_166 1 _ l1 (by decide) (Or.inl (by decide))
      have l_172 := kp_166 2 _ l2 (by decide) (Or.inl (by decide))
      have l_173 := kp_166 3 _ l3 (by decide) (Or.inr (q_is_cat f3 (Or.inl rfl)))
      refine go_goto (o := (-100)) (t := 13) (by decide +kernel) (by decide +kernel) ?_
      exact hc m_152 E_161 h R_156 l_170 f0 l_171 f1 l_172 f2 l_173 f3 l_165 f_169
  · have h := it_f hp_65 h
    refine go_goto (o := 60) (t := 110) (by decide +kernel) (by decide +kernel) ?_
    refine go_iinc (n := 4) (c := 1) (c' := 1) (by decide +kernel) (by decide +kernel) l4 f4 (by decide) fun L_174 v_175 f_176 l_177 kp_178 => ?_
    obtain ⟨x_179, e_180, h⟩ := lx_s h
    have f_181 := q_is_eq f_176 e_180
    have l_182 := kp_178 0 _ l0 (by decide) (Or.inl (by decide))
    have l_183 := kp_178 1 _ l1 (by decide) (Or.inl (by decide))
    have l_184 := kp_178 2 _ l2 (by decide) (Or.inl (by decide))
    have l_185 := kp_178 3 _ l3 (by decide) (Or.inr (q_is_cat f3 (Or.inl rfl)))
    refine go_goto (o := (-100)) (t := 13) (by decide +kernel) (by decide +kernel) ?_
    exact hc m (Ext.rf _) h R_62 l_182 f0 l_183 f1 l_184 f2 l_185 f3 l_177 f_181
noncomputable def fl_X11_restoreWork_13 (y1 y2 y3 : Int) : Nat → Int → MM → Option (Int × MM)
  | 0, _, _ => none
  | n + 1, y4, m => if y4 < y3 then
gd (okc m y2 3) <| bp (fm_X2_kind y2 y4 m) fun x_36 =>
if x_36 = 8 then
fj_X11_restoreWork_41 (fl_X11_restoreWork_13 y1 y2 y3 n) y1 y2 y3 y4 x_36 m
else
if x_36 = 9 then
fj_X11_restoreWork_41 (fl_X11_restoreWork_13 y1 y2 y3 n) y1 y2 y3 y4 x_36 m
else
lx (w32 (y4 + 1)) fun x_194 =>
fl_X11_restoreWork_13 y1 y2 y3 n x_194 m
else
some (0, m)
set_option maxHeartbeats 4000000 in
theorem ol_X11_restoreWork_13 {xs : List Int32} {d : Nat} {Q : QO → QS → Prop} {mb : MM} {y1 y2 y3 : Int} {rz : Int} {rm : MM}
  (hd : 9 ≤ d)
  (hQ : Ext mb rm → ∀ o S1, Rp S1 rm → q_out 9 o rz → Q o S1) :
  ∀ (n : Nat) {m : MM} {S : QS} {L : QL} {y4 : Int} {v0 : Value} {v1 : Value} {v2 : Value} {v3 : Value} {v4 : Value} , Ext mb m → fl_X11_restoreWork_13 y1 y2 y3 n y4 m = some (rz, rm) → Rp S m → q_lo L 0 = some v0 → q_is 2 v0 4 → q_lo L 1 = some v1 → q_is 2 v1 y1 → q_lo L 2 = some v2 → q_is 2 v2 y2 → q_lo L 3 = some v3 → q_is 0 v3 y3 → q_lo L 4 = some v4 → q_is 0 v4 y4 → Go xs d qM_X11_restoreWork 13 L [] S Q := by
  intro n
  induction n with
  | zero => intro m S L y4 v0 v1 v2 v3 v4; intro E h R l0 f0 l1 f1 l2 f2 l3 f3 l4 f4; cases h
  | succ n ih0 =>
    intro m S L y4 v0 v1 v2 v3 v4; intro E h R l0 f0 l1 f1 l2 f2 l3 f3 l4 f4
    have ih : ∀ mq : MM, Ext mb mq → ∀ {z4 : Int} {Sq : QS} {Lq : QL} {u0 : Value} {u1 : Value} {u2 : Value} {u3 : Value} {u4 : Value}, fl_X11_restoreWork_13 y1 y2 y3 n z4 mq = some (rz, rm) → Rp Sq mq → q_lo Lq 0 = some u0 → q_is 2 u0 4 → q_lo Lq 1 = some u1 → q_is 2 u1 y1 → q_lo Lq 2 = some u2 → q_is 2 u2 y2 → q_lo Lq 3 = some u3 → q_is 0 u3 y3 → q_lo Lq 4 = some u4 → q_is 0 u4 z4 → Go xs d qM_X11_restoreWork 13 Lq [] Sq Q := fun mq b => by intros; exact ih0 b ‹_› ‹_› ‹_› ‹_› ‹_› ‹_› ‹_› ‹_› ‹_› ‹_› ‹_› ‹_›
    unfold fl_X11_restoreWork_13 at h
    refine go_iload (n := 4) (by decide +kernel) l4 f4 ?_
    refine go_iload_n (n := 3) (by decide +kernel) l3 f3 ?_
    refine go_icmp (c := .ge) (o := 100) (t := 116) (P := ¬ (y4 < y3)) (by decide +kernel) (by decide +kernel) f4 f3 (Int.not_lt.symm) (fun hp_33 => ?_) (fun hp_33 => ?_)
    · have h := it_f hp_33 h
      cases h
      exact go_vret (by decide +kernel) rfl (hQ E _ _ R q_out_n)
    · have h := it_n hp_33 h
      refine go_aload_n (n := 2) (by decide +kernel) l2 f2 ?_
      refine go_iload (n := 4) (by decide +kernel) l4 f4 ?_
      obtain ⟨g_34, h⟩ := gd_s h
      obtain ⟨x_36, hc_35, h⟩ := bp_s h
      refine go_callV (x := 261) (mi := 9) (n := 1) (ci := 3) (as := [v4]) (rest := []) (by decide +kernel) (by decide +kernel) rfl rfl (q_sum8 _ (Nat.le_of_ble_eq_true rfl)) R f2 g_34 (om_X2_kind (Nat.le_trans (by decide) hd) R g_34 f2 f4 hc_35) (fun _ S_40 q_43 => ?_) (fun _ _ qq => kr_x qq)
      refine kr_z (by decide) q_43 fun v_38 f_39 R_41 E_42 => ?_
      refine go_istore (n := 5) (by decide +kernel) (by decide +kernel) f_39 fun L_44 l_45 kp_46 => ?_
      have l_47 := kp_46 0 _ l0 (by decide) (Or.inl (by decide))
      have l_48 := kp_46 1 _ l1 (by decide) (Or.inl (by decide))
      have l_49 := kp_46 2 _ l2 (by decide) (Or.inl (by decide))
      have l_50 := kp_46 3 _ l3 (by decide) (Or.inl (by decide))
      have l_51 := kp_46 4 _ l4 (by decide) (Or.inr (q_is_cat f4 (Or.inl rfl)))
      refine go_iload (n := 5) (by decide +kernel) l_45 f_39 ?_
      refine go_bipush (n := 8) (z := 8) (by decide +kernel) (by decide) fun v_52 f_53 => ?_
      refine go_icmp (c := .eq) (o := 10) (t := 41) (P := x_36 = 8) (by decide +kernel) (by decide +kernel) f_39 f_53 (Iff.rfl) (fun hp_54 => ?_) (fun hp_54 => ?_)
      · have h := it_t hp_54 h
        exact oj_X11_restoreWork_41 hd R_41 l_47 f0 l_48 f1 l_49 f2 l_50 f3 l_51 f4 l_45 f_39 (fun mq b => ih mq (Ext.tr E b)) (fun b => hQ (Ext.tr E b)) h
      · have h := it_f hp_54 h
        refine go_iload (n := 5) (by decide +kernel) l_45 f_39 ?_
        refine go_bipush (n := 9) (z := 9) (by decide +kernel) (by decide) fun v_186 f_187 => ?_
        refine go_icmp (c := .ne) (o := 72) (t := 110) (P := ¬ (x_36 = 9)) (by decide +kernel) (by decide +kernel) f_39 f_187 (Iff.rfl) (fun hp_188 => ?_) (fun hp_188 => ?_)
        · have h := it_f hp_188 h
          refine go_iinc (n := 4) (c := 1) (c' := 1) (by decide +kernel) (by decide +kernel) l_51 f4 (by decide) fun L_189 v_190 f_191 l_192 kp_193 => ?_
          obtain ⟨x_194, e_195, h⟩ := lx_s h
          have f_196 := q_is_eq f_191 e_195
          have l_197 := kp_193 0 _ l_47 (by decide) (Or.inl (by decide))
          have l_198 := kp_193 1 _ l_48 (by decide) (Or.inl (by decide))
          have l_199 := kp_193 2 _ l_49 (by decide) (Or.inl (by decide))
          have l_200 := kp_193 3 _ l_50 (by decide) (Or.inr (q_is_cat f3 (Or.inl rfl)))
          refine go_goto (o := (-100)) (t := 13) (by decide +kernel) (by decide +kernel) ?_
          exact ih m E h R_41 l_197 f0 l_198 f1 l_199 f2 l_200 f3 l_192 f_196
        · have h := it_n hp_188 h
          exact oj_X11_restoreWork_41 hd R_41 l_47 f0 l_48 f1 l_49 f2 l_50 f3 l_51 f4 l_45 f_39 (fun mq b => ih mq (Ext.tr E b)) (fun b => hQ (Ext.tr E b)) h
noncomputable def fm_X11_restoreWork (p1 : Int) (m0 : MM) : Option (Int × MM) := gd (okc m0 p1 7) <| lx (m0 p1 16) fun x_5 =>
gd (okc m0 x_5 3) <| lx (m0 x_5 1) fun x_16 =>
fl_X11_restoreWork_13 p1 x_5 x_16  BIG 0 m0
set_option maxHeartbeats 4000000 in
theorem om_X11_restoreWork {xs : List Int32} {d : Nat} {S : QS} {m0 : MM} {p1 : Int} {v0 : Value} {v1 : Value} {rz : Int} {rm : MM}
  (hd : 10 ≤ d) (R : Rp S m0) (f0 : q_is 2 v0 4) (f1 : q_is 2 v1 p1)
  (h : fm_X11_restoreWork p1 m0 = some (rz, rm)) : Mt xs d 174 [v0, v1] S (Cr 9 m0 rm rz) := by
  obtain ⟨d, rfl⟩ : ∃ e, d = e + 1 := ⟨d - 1, by omega⟩
  have hd : 9 ≤ d := Nat.le_of_succ_le_succ hd
  refine Mt.of (M := qM_X11_restoreWork) rfl (by rw [sl_1 (q_is_cat f0 (Or.inr rfl)), sl_1 (q_is_cat f1 (Or.inr rfl)), sl_0]; decide) ?_
  rw [la_1 (q_is_cat f0 (Or.inr rfl)), la_1 (q_is_cat f1 (Or.inr rfl)), la_0]
  obtain ⟨L, hL⟩ : ∃ L : QL, L = [(0, v0), (0 + 1, v1)] := ⟨_, rfl⟩
  rw [← hL]
  have l0 : q_lo L 0 = some v0 := by rw [hL]; rfl
  have l1 : q_lo L 1 = some v1 := by rw [hL]; rfl
  have hQ : Ext m0 rm → ∀ o S1, Rp S1 rm → q_out 9 o rz → (Cr 9 m0 rm rz) o S1 := fun a o S1 b e => ⟨b, a, e⟩
  unfold fm_X11_restoreWork at h
  refine go_aload_n (n := 1) (by decide +kernel) l1 f1 ?_
  obtain ⟨g_3, h⟩ := gd_s h
  obtain ⟨x_5, e_6, h⟩ := lx_s h
  refine go_getf (x := 195) (ci := 7) (kf := 16) (fin := 2) (t := 2) (by decide +kernel) (by decide +kernel) (by decide +kernel) R f1 g_3 fun v_1 f_2 => ?_
  have f_4 := q_is_eq f_2 e_6
  refine go_astore_n (n := 2) (by decide +kernel) (by decide +kernel) f_4 fun L_7 l_8 kp_9 => ?_
  have l_10 := kp_9 0 _ l0 (by decide) (Or.inl (by decide))
  have l_11 := kp_9 1 _ l1 (by decide) (Or.inr (q_is_cat f1 (Or.inr rfl)))
  refine go_aload_n (n := 2) (by decide +kernel) l_8 f_4 ?_
  obtain ⟨g_14, h⟩ := gd_s h
  obtain ⟨x_16, e_17, h⟩ := lx_s h
  refine go_getf (x := 199) (ci := 3) (kf := 1) (fin := 0) (t := 0) (by decide +kernel) (by decide +kernel) (by decide +kernel) R f_4 g_14 fun v_12 f_13 => ?_
  have f_15 := q_is_eq f_13 e_17
  refine go_istore_n (n := 3) (by decide +kernel) (by decide +kernel) f_15 fun L_18 l_19 kp_20 => ?_
  have l_21 := kp_20 0 _ l_10 (by decide) (Or.inl (by decide))
  have l_22 := kp_20 1 _ l_11 (by decide) (Or.inl (by decide))
  have l_23 := kp_20 2 _ l_8 (by decide) (Or.inr (q_is_cat f_4 (Or.inr rfl)))
  refine go_iconst (n := 0) (z := 0) (by decide +kernel) (by decide) fun v_24 f_25 => ?_
  refine go_istore (n := 4) (by decide +kernel) (by decide +kernel) f_25 fun L_26 l_27 kp_28 => ?_
  have l_29 := kp_28 0 _ l_21 (by decide) (Or.inl (by decide))
  have l_30 := kp_28 1 _ l_22 (by decide) (Or.inl (by decide))
  have l_31 := kp_28 2 _ l_23 (by decide) (Or.inl (by decide))
  have l_32 := kp_28 3 _ l_19 (by decide) (Or.inr (q_is_cat f_15 (Or.inl rfl)))
  refine ol_X11_restoreWork_13 hd   hQ BIG (Ext.rf _) h R l_29 f0 l_30 f1 l_31 f_4 l_32 f_15 l_27 f_25
noncomputable def fm_X11_setBack (p1 p2 : Int) (m0 : MM) : Option ((Int ⊕ Nat) × MM) := bx (fm_X11_runAt p1 m0) (fun q_10 m_3 => some (.inr q_10, m_3)) fun x_2 m_3 =>
gd (okc m_3 x_2 7) <| lx (m_3 x_2 16) fun x_26 =>
gd (okc m_3 x_26 3) <| bp (fm_X2_taskAt x_26 p2 m_3) fun x_30 =>
if x_30 < 0 then
some (.inr 0, mthr m_3)
else
bp (fm_X6_isAlive x_2 m_3) fun x_45 =>
if x_45 = 0 then
some (.inr 2, mthr m_3)
else
bp (fm_Jx4a65c_size_8abf5 7 m_3) fun x_58 =>
if x_58 < 30 then
lx (m_3 x_2 1) fun x_72 =>
lx (m_3 x_2 2) fun x_77 =>
lx (m_3 x_2 3) fun x_82 =>
lx (m_3 x_2 4) fun x_87 =>
lx (m_3 x_2 5) fun x_92 =>
bd (fm_X11_addRun x_72 x_77 x_82 x_87 x_92 m_3) fun x_95 m_96 =>
up m_96 x_2 6 5 fun m_115 =>
gd (okc m_115 x_95 7) <| lx (m_115 x_95 16) fun x_126 =>
lx (m_115 x_2 16) fun x_132 =>
gd (okc m_115 x_126 3) <| bd (fm_X2_becomeFirst x_126 x_132 (w32 (x_30 + 1)) m_115) fun x_140 m_141 =>
bd (fm_X11_endWork x_2 m_141) fun x_152 m_153 =>
lx (m_153 x_2 0) fun x_167 =>
bd (fm_X11_partFromChildren x_167 0 m_153) fun x_172 m_173 =>
bd (fm_X11_restoreWork x_95 m_173) fun x_184 m_185 =>
lx (m_185 x_2 16) fun x_199 =>
bd (fm_X11_sendSignals x_95 x_199 (w32 (x_30 + 1)) m_185) fun x_206 m_207 =>
lx (m_207 x_95 0) fun x_221 =>
some (.inl x_221, m_207)
else
some (.inr 2, mthr m_3)
set_option maxHeartbeats 4000000 in
theorem om_X11_setBack {xs : List Int32} {d : Nat} {S : QS} {m0 : MM} {p1 p2 : Int} {v0 : Value} {v1 : Value} {v2 : Value} {rr : Int ⊕ Nat} {rm : MM}
  (hd : 11 ≤ d) (R : Rp S m0) (f0 : q_is 2 v0 4) (f1 : q_is 0 v1 p1) (f2 : q_is 0 v2 p2)
  (h : fm_X11_setBack p1 p2 m0 = some (rr, rm)) : Mt xs d 127 [v0, v1, v2] S (Cx 0 m0 rm rr) := by
  obtain ⟨d, rfl⟩ : ∃ e, d = e + 1 := ⟨d - 1, by omega⟩
  have hd : 10 ≤ d := Nat.le_of_succ_le_succ hd
  refine Mt.of (M := qM_X11_setBack) rfl (by rw [sl_1 (q_is_cat f0 (Or.inr rfl)), sl_1 (q_is_cat f1 (Or.inl rfl)), sl_1 (q_is_cat f2 (Or.inl rfl)), sl_0]; decide) ?_
  rw [la_1 (q_is_cat f0 (Or.inr rfl)), la_1 (q_is_cat f1 (Or.inl rfl)), la_1 (q_is_cat f2 (Or.inl rfl)), la_0]
  obtain ⟨L, hL⟩ : ∃ L : QL, L = [(0, v0), (0 + 1, v1), (0 + 1 + 1, v2)] := ⟨_, rfl⟩
  rw [← hL]
  have l0 : q_lo L 0 = some v0 := by rw [hL]; rfl
  have l1 : q_lo L 1 = some v1 := by rw [hL]; rfl
  have l2 : q_lo L 2 = some v2 := by rw [hL]; rfl
  have hQ : Ext m0 rm → ∀ o S1, Rp S1 rm → q_oux 0 o rr → (Cx 0 m0 rm rr) o S1 := fun a o S1 b e => ⟨b, a, e⟩
  unfold fm_X11_setBack at h
  refine go_aload_n (n := 0) (by decide +kernel) l0 f0 ?_
  refine go_iload_n (n := 1) (by decide +kernel) l1 f1 ?_
  obtain ⟨rr5, m_3, hc_1, h⟩ := bx_s h
  rcases h with ⟨q_10, rfl, h⟩ | ⟨x_2, rfl, h⟩
  · cases h
    exact go_callV (x := 185) (mi := 139) (n := 1) (ci := 12) (as := [v1]) (rest := []) (by decide +kernel) (by decide +kernel) rfl rfl (q_sum8 _ (Nat.le_of_ble_eq_true rfl)) R f0 (fx_k (c := 12) R (by decide +kernel)) (om_X11_runAt (Nat.le_trans (by decide) hd) R f0 f1 hc_1) (fun _ _ qq => kx_lx qq) (fun _ _ qq => by
      obtain ⟨rfl, Rq, Eq⟩ := kx_e qq
      exact Or.inl ⟨rfl, hQ Eq _ _ Rq rfl⟩)
  refine go_callV (x := 185) (mi := 139) (n := 1) (ci := 12) (as := [v1]) (rest := []) (by decide +kernel) (by decide +kernel) rfl rfl (q_sum8 _ (Nat.le_of_ble_eq_true rfl)) R f0 (fx_k (c := 12) R (by decide +kernel)) (om_X11_runAt (Nat.le_trans (by decide) hd) R f0 f1 hc_1) (fun _ S_6 q_9 => ?_) (fun _ _ qq => kr_x (kx_l qq))
  have q_9 := kx_l q_9
  refine kr_z (by decide) q_9 fun v_4 f_5 R_7 E_8 => ?_
  have E_16 := E_8
  refine go_astore_n (n := 3) (by decide +kernel) (by decide +kernel) f_5 fun L_17 l_18 kp_19 => ?_
  have l_20 := kp_19 0 _ l0 (by decide) (Or.inl (by decide))
  have l_21 := kp_19 2 _ l2 (by decide) (Or.inr (q_is_cat f2 (Or.inl rfl)))
  refine go_aload_n (n := 3) (by decide +kernel) l_18 f_5 ?_
  obtain ⟨g_24, h⟩ := gd_s h
  obtain ⟨x_26, e_27, h⟩ := lx_s h
  refine go_getf (x := 195) (ci := 7) (kf := 16) (fin := 2) (t := 2) (by decide +kernel) (by decide +kernel) (by decide +kernel) R_7 f_5 g_24 fun v_22 f_23 => ?_
  have f_25 := q_is_eq f_23 e_27
  refine go_iload_n (n := 2) (by decide +kernel) l_21 f2 ?_
  obtain ⟨g_28, h⟩ := gd_s h
  obtain ⟨x_30, hc_29, h⟩ := bp_s h
  refine go_callV (x := 407) (mi := 24) (n := 1) (ci := 3) (as := [v2]) (rest := []) (by decide +kernel) (by decide +kernel) rfl rfl (q_sum8 _ (Nat.le_of_ble_eq_true rfl)) R_7 f_25 g_28 (om_X2_taskAt (Nat.le_trans (by decide) hd) R_7 g_28 f_25 f2 hc_29) (fun _ S_34 q_37 => ?_) (fun _ _ qq => kr_x qq)
  refine kr_z (by decide) q_37 fun v_32 f_33 R_35 E_36 => ?_
  refine go_istore (n := 4) (by decide +kernel) (by decide +kernel) f_33 fun L_38 l_39 kp_40 => ?_
  have l_41 := kp_40 0 _ l_20 (by decide) (Or.inl (by decide))
  have l_42 := kp_40 3 _ l_18 (by decide) (Or.inr (q_is_cat f_5 (Or.inr rfl)))
  refine go_iload (n := 4) (by decide +kernel) l_39 f_33 ?_
  refine go_if (c := .ge) (o := 14) (t := 32) (P := ¬ (x_30 < 0)) (by decide +kernel) (by decide +kernel) f_33 (Int.not_lt.symm) (fun hp_43 => ?_) (fun hp_43 => ?_)
  · have h := it_f hp_43 h
    refine go_aload_n (n := 3) (by decide +kernel) l_42 f_5 ?_
    obtain ⟨x_45, hc_44, h⟩ := bp_s h
    refine go_callV (x := 192) (mi := 66) (n := 0) (ci := 7) (as := []) (rest := []) (by decide +kernel) (by decide +kernel) rfl rfl (q_sum8 _ (Nat.le_of_ble_eq_true rfl)) R_35 f_5 g_24 (om_X6_isAlive (Nat.le_trans (by decide) hd) R_35 g_24 f_5 hc_44) (fun _ S_49 q_52 => ?_) (fun _ _ qq => kr_x qq)
    refine kr_z (by decide) q_52 fun v_47 f_48 R_50 E_51 => ?_
    refine go_if (c := .eq) (o := 15) (t := 51) (P := x_45 = 0) (by decide +kernel) (by decide +kernel) f_48 (Iff.rfl) (fun hp_53 => ?_) (fun hp_53 => ?_)
    · have h := it_t hp_53 h
      cases h
      exact go_thr (x := 111) (e := 2) (ic := 115) (b := 0) (by decide +kernel) (by decide +kernel) (by decide +kernel) R_50 rfl fun Sq Rq Eq => hQ (Ext.tr E_16 Eq) _ _ Rq rfl
    · have h := it_f hp_53 h
      refine go_aload_n (n := 0) (by decide +kernel) l_41 f0 ?_
      refine go_getf (x := 24) (ci := 12) (kf := 2) (fin := 1) (t := 2) (by decide +kernel) (by decide +kernel) (by decide +kernel) R_50 f0 (fx_k (c := 12) R_50 (by decide +kernel)) fun v_54 f_55 => ?_
      have f_56 := q_is_eq (b := 7) f_55 (fx_v R_50 (by decide +kernel)).symm
      obtain ⟨x_58, hc_57, h⟩ := bp_s h
      refine go_callV (x := 127) (mi := 326) (n := 0) (ci := 0) (as := []) (rest := []) (by decide +kernel) (by decide +kernel) rfl rfl (q_sum8 _ (Nat.le_of_ble_eq_true rfl)) R_50 f_56 (fx_k (c := 0) R_50 (by decide +kernel)) (om_Jx4a65c_size_8abf5 (Nat.le_trans (by decide) hd) R_50 (fx_k (c := 0) R_50 (by decide +kernel)) f_56 hc_57) (fun _ S_62 q_65 => ?_) (fun _ _ qq => kr_x qq)
      refine kr_z (by decide) q_65 fun v_60 f_61 R_63 E_64 => ?_
      refine go_bipush (n := 30) (z := 30) (by decide +kernel) (by decide) fun v_66 f_67 => ?_
      refine go_icmp (c := .lt) (o := 14) (t := 62) (P := x_58 < 30) (by decide +kernel) (by decide +kernel) f_61 f_67 (Iff.rfl) (fun hp_68 => ?_) (fun hp_68 => ?_)
      · have h := it_t hp_68 h
        refine go_aload_n (n := 0) (by decide +kernel) l_41 f0 ?_
        refine go_aload_n (n := 3) (by decide +kernel) l_42 f_5 ?_
        obtain ⟨x_72, e_73, h⟩ := lx_s h
        refine go_getf (x := 404) (ci := 7) (kf := 1) (fin := 2) (t := 0) (by decide +kernel) (by decide +kernel) (by decide +kernel) R_63 f_5 g_24 fun v_69 f_70 => ?_
        have f_71 := q_is_eq f_70 e_73
        refine go_aload_n (n := 3) (by decide +kernel) l_42 f_5 ?_
        obtain ⟨x_77, e_78, h⟩ := lx_s h
        refine go_getf (x := 283) (ci := 7) (kf := 2) (fin := 2) (t := 0) (by decide +kernel) (by decide +kernel) (by decide +kernel) R_63 f_5 g_24 fun v_74 f_75 => ?_
        have f_76 := q_is_eq f_75 e_78
        refine go_aload_n (n := 3) (by decide +kernel) l_42 f_5 ?_
        obtain ⟨x_82, e_83, h⟩ := lx_s h
        refine go_getf (x := 213) (ci := 7) (kf := 3) (fin := 0) (t := 0) (by decide +kernel) (by decide +kernel) (by decide +kernel) R_63 f_5 g_24 fun v_79 f_80 => ?_
        have f_81 := q_is_eq f_80 e_83
        refine go_aload_n (n := 3) (by decide +kernel) l_42 f_5 ?_
        obtain ⟨x_87, e_88, h⟩ := lx_s h
        refine go_getf (x := 414) (ci := 7) (kf := 4) (fin := 0) (t := 0) (by decide +kernel) (by decide +kernel) (by decide +kernel) R_63 f_5 g_24 fun v_84 f_85 => ?_
        have f_86 := q_is_eq f_85 e_88
        refine go_aload_n (n := 3) (by decide +kernel) l_42 f_5 ?_
        obtain ⟨x_92, e_93, h⟩ := lx_s h
        refine go_getf (x := 417) (ci := 7) (kf := 5) (fin := 2) (t := 0) (by decide +kernel) (by decide +kernel) (by decide +kernel) R_63 f_5 g_24 fun v_89 f_90 => ?_
        have f_91 := q_is_eq f_90 e_93
        obtain ⟨x_95, m_96, hc_94, h⟩ := bd_s h
        refine go_callV (x := 420) (mi := 150) (n := 5) (ci := 12) (as := [v_69, v_74, v_79, v_84, v_89]) (rest := []) (by decide +kernel) (by decide +kernel) rfl rfl (q_sum8 _ (Nat.le_of_ble_eq_true rfl)) R_63 f0 (fx_k (c := 12) R_63 (by decide +kernel)) (om_X11_addRun (Nat.le_trans (by decide) hd) R_63 f0 f_71 f_76 f_81 f_86 f_91 hc_94) (fun _ S_99 q_102 => ?_) (fun _ _ qq => kr_x qq)
        refine kr_z (by decide) q_102 fun v_97 f_98 R_100 E_101 => ?_
        have E_105 := Ext.tr E_16 E_101
        refine go_astore (n := 5) (by decide +kernel) (by decide +kernel) f_98 fun L_106 l_107 kp_108 => ?_
        have l_109 := kp_108 0 _ l_41 (by decide) (Or.inl (by decide))
        have l_110 := kp_108 3 _ l_42 (by decide) (Or.inl (by decide))
        have l_111 := kp_108 4 _ l_39 (by decide) (Or.inr (q_is_cat f_33 (Or.inl rfl)))
        refine go_aload_n (n := 3) (by decide +kernel) l_110 f_5 ?_
        refine go_iconst (n := 5) (z := 5) (by decide +kernel) (by decide) fun v_112 f_113 => ?_
        have g_114 := Ext.ok E_101 g_24
        obtain ⟨m_115, e_116, h⟩ := up_s h
        refine go_putf (x := 208) (ci := 7) (kf := 6) (fin := 0) (zt := 0) (by decide +kernel) (by decide +kernel) (by decide) (by decide +kernel) (by decide) (Or.inl rfl) R_100 f_5 f_113 (fun hq => absurd hq (by decide)) g_114 e_116 (fx_f (j := 6) R_100.2 g_114 (by decide +kernel)) fun S_117 R_118 E_119 => ?_
        have E_121 := Ext.tr E_105 E_119
        refine go_aload (n := 5) (by decide +kernel) l_107 f_98 ?_
        obtain ⟨g_124, h⟩ := gd_s h
        obtain ⟨x_126, e_127, h⟩ := lx_s h
        refine go_getf (x := 195) (ci := 7) (kf := 16) (fin := 2) (t := 2) (by decide +kernel) (by decide +kernel) (by decide +kernel) R_118 f_98 g_124 fun v_122 f_123 => ?_
        have f_125 := q_is_eq f_123 e_127
        refine go_aload_n (n := 3) (by decide +kernel) l_110 f_5 ?_
        have g_130 := Ext.ok E_119 g_114
        obtain ⟨x_132, e_133, h⟩ := lx_s h
        refine go_getf (x := 195) (ci := 7) (kf := 16) (fin := 2) (t := 2) (by decide +kernel) (by decide +kernel) (by decide +kernel) R_118 f_5 g_130 fun v_128 f_129 => ?_
        have f_131 := q_is_eq f_129 e_133
        refine go_iload (n := 4) (by decide +kernel) l_111 f_33 ?_
        refine go_iconst (n := 1) (z := 1) (by decide +kernel) (by decide) fun v_134 f_135 => ?_
        refine go_iadd (by decide +kernel) f_33 f_135 fun v_136 f_137 => ?_
        obtain ⟨g_138, h⟩ := gd_s h
        obtain ⟨x_140, m_141, hc_139, h⟩ := bd_s h
        refine go_callV (x := 423) (mi := 17) (n := 2) (ci := 3) (as := [v_128, v_136]) (rest := []) (by decide +kernel) (by decide +kernel) rfl rfl (q_sum8 _ (Nat.le_of_ble_eq_true rfl)) R_118 f_125 g_138 (om_X2_becomeFirst (Nat.le_trans (by decide) hd) R_118 g_138 f_125 f_131 f_137 hc_139) (fun _ S_144 q_147 => ?_) (fun _ _ qq => kr_x qq)
        refine kr_v q_147 fun R_145 E_146 => ?_
        have E_150 := Ext.tr E_121 E_146
        refine go_aload_n (n := 0) (by decide +kernel) l_109 f0 ?_
        refine go_aload_n (n := 3) (by decide +kernel) l_110 f_5 ?_
        obtain ⟨x_152, m_153, hc_151, h⟩ := bd_s h
        refine go_callV (x := 427) (mi := 157) (n := 1) (ci := 12) (as := [v_4]) (rest := []) (by decide +kernel) (by decide +kernel) rfl rfl (q_sum8 _ (Nat.le_of_ble_eq_true rfl)) R_145 f0 (fx_k (c := 12) R_145 (by decide +kernel)) (om_X11_endWork (Nat.le_trans (by decide) hd) R_145 f0 f_5 hc_151) (fun _ S_156 q_159 => ?_) (fun _ _ qq => kr_x qq)
        refine kr_v q_159 fun R_157 E_158 => ?_
        have E_162 := Ext.tr E_150 E_158
        refine go_aload_n (n := 0) (by decide +kernel) l_109 f0 ?_
        refine go_aload_n (n := 3) (by decide +kernel) l_110 f_5 ?_
        have g_165 := Ext.ok (Ext.tr E_146 E_158) g_130
        obtain ⟨x_167, e_168, h⟩ := lx_s h
        refine go_getf (x := 180) (ci := 7) (kf := 0) (fin := 2) (t := 0) (by decide +kernel) (by decide +kernel) (by decide +kernel) R_157 f_5 g_165 fun v_163 f_164 => ?_
        have f_166 := q_is_eq f_164 e_168
        refine go_iconst (n := 0) (z := 0) (by decide +kernel) (by decide) fun v_169 f_170 => ?_
        obtain ⟨x_172, m_173, hc_171, h⟩ := bd_s h
        refine go_callV (x := 430) (mi := 158) (n := 2) (ci := 12) (as := [v_163, v_169]) (rest := []) (by decide +kernel) (by decide +kernel) rfl rfl (q_sum8 _ (Nat.le_of_ble_eq_true rfl)) R_157 f0 (fx_k (c := 12) R_157 (by decide +kernel)) (om_X11_partFromChildren (Nat.le_trans (by decide) hd) R_157 f0 f_166 f_170 hc_171) (fun _ S_176 q_179 => ?_) (fun _ _ qq => kr_x qq)
        refine kr_v q_179 fun R_177 E_178 => ?_
        have E_182 := Ext.tr E_162 E_178
        refine go_aload_n (n := 0) (by decide +kernel) l_109 f0 ?_
        refine go_aload (n := 5) (by decide +kernel) l_107 f_98 ?_
        obtain ⟨x_184, m_185, hc_183, h⟩ := bd_s h
        refine go_callV (x := 434) (mi := 174) (n := 1) (ci := 12) (as := [v_97]) (rest := []) (by decide +kernel) (by decide +kernel) rfl rfl (q_sum8 _ (Nat.le_of_ble_eq_true rfl)) R_177 f0 (fx_k (c := 12) R_177 (by decide +kernel)) (om_X11_restoreWork (Nat.le_trans (by decide) hd) R_177 f0 f_98 hc_183) (fun _ S_188 q_191 => ?_) (fun _ _ qq => kr_x qq)
        refine kr_v q_191 fun R_189 E_190 => ?_
        have E_194 := Ext.tr E_182 E_190
        refine go_aload_n (n := 0) (by decide +kernel) l_109 f0 ?_
        refine go_aload (n := 5) (by decide +kernel) l_107 f_98 ?_
        refine go_aload_n (n := 3) (by decide +kernel) l_110 f_5 ?_
        have g_197 := Ext.ok (Ext.tr E_178 E_190) g_165
        obtain ⟨x_199, e_200, h⟩ := lx_s h
        refine go_getf (x := 195) (ci := 7) (kf := 16) (fin := 2) (t := 2) (by decide +kernel) (by decide +kernel) (by decide +kernel) R_189 f_5 g_197 fun v_195 f_196 => ?_
        have f_198 := q_is_eq f_196 e_200
        refine go_iload (n := 4) (by decide +kernel) l_111 f_33 ?_
        refine go_iconst (n := 1) (z := 1) (by decide +kernel) (by decide) fun v_201 f_202 => ?_
        refine go_iadd (by decide +kernel) f_33 f_202 fun v_203 f_204 => ?_
        obtain ⟨x_206, m_207, hc_205, h⟩ := bd_s h
        refine go_callV (x := 437) (mi := 172) (n := 3) (ci := 12) (as := [v_97, v_195, v_203]) (rest := []) (by decide +kernel) (by decide +kernel) rfl rfl (q_sum8 _ (Nat.le_of_ble_eq_true rfl)) R_189 f0 (fx_k (c := 12) R_189 (by decide +kernel)) (om_X11_sendSignals (Nat.le_trans (by decide) hd) R_189 f0 f_98 f_198 f_204 hc_205) (fun _ S_210 q_213 => ?_) (fun _ _ qq => kr_x qq)
        refine kr_v q_213 fun R_211 E_212 => ?_
        have E_216 := Ext.tr E_194 E_212
        refine go_aload (n := 5) (by decide +kernel) l_107 f_98 ?_
        have g_219 := Ext.ok (Ext.tr (Ext.tr (Ext.tr (Ext.tr E_146 E_158) E_178) E_190) E_212) g_124
        obtain ⟨x_221, e_222, h⟩ := lx_s h
        refine go_getf (x := 180) (ci := 7) (kf := 0) (fin := 2) (t := 0) (by decide +kernel) (by decide +kernel) (by decide +kernel) R_211 f_98 g_219 fun v_217 f_218 => ?_
        have f_220 := q_is_eq f_218 e_222
        cases h
        exact go_iret (by decide +kernel) rfl (Or.inl rfl) f_220 (hQ E_216 _ _ R_211 (q_out_v (by decide) f_220))
      · have h := it_f hp_68 h
        cases h
        exact go_thr (x := 111) (e := 2) (ic := 115) (b := 0) (by decide +kernel) (by decide +kernel) (by decide +kernel) R_63 rfl fun Sq Rq Eq => hQ (Ext.tr E_16 Eq) _ _ Rq rfl
  · have h := it_n hp_43 h
    cases h
    exact go_thr (x := 255) (e := 0) (ic := 259) (b := 0) (by decide +kernel) (by decide +kernel) (by decide +kernel) R_35 rfl fun Sq Rq Eq => hQ (Ext.tr E_16 Eq) _ _ Rq rfl
end DF21
