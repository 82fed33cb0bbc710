/-! Methods as functions (written by wip/whole/dec.py), 21: X11_checkVersion, X11_un_safe, X11_move, X11_partFromChildren, X11_restoreWork, X11_setBack. -/
section DF21
noncomputable def fm_X11_checkVersion (p1 p2 : Int) (m0 : MM) : Option ((Int ⊕ Nat) × MM) := if p2 < 0 then
some (.inr 0, mthr m0)
else
gd (okc m0 p1 11) <| lx (m0 p1 0) fun x_6 =>
gd (okc m0 x_6 0) <| bp (fm_Jx4a65c_size_8abf5 x_6 m0) fun x_10 =>
if p2 < x_10 then
some (.inl 0, m0)
else
some (.inr 0, mthr m0)
set_option maxHeartbeats 4000000 in
theorem om_X11_checkVersion {xs : List Int32} {d : Nat} {S : QS} {m0 : MM} {p1 p2 : Int} {v0 : Value} {v1 : Value} {v2 : Value} {rr : Int ⊕ Nat} {rm : MM}
  (hd : 2 ≤ d) (R : Rp S m0) (f0 : q_is 2 v0 4) (f1 : q_is 2 v1 p1) (f2 : q_is 0 v2 p2)
  (h : fm_X11_checkVersion p1 p2 m0 = some (rr, rm)) : Mt xs d 142 [v0, v1, v2] S (Cx 9 m0 rm rr) := by
  obtain ⟨d, rfl⟩ : ∃ e, d = e + 1 := ⟨d - 1, by omega⟩
  have hd : 1 ≤ d := Nat.le_of_succ_le_succ hd
  refine Mt.of (M := qM_X11_checkVersion) rfl (by rw [sl_1 (q_is_cat f0 (Or.inr rfl)), sl_1 (q_is_cat f1 (Or.inr rfl)), sl_1 (q_is_cat f2 (Or.inl rfl)), sl_0]; decide) ?_
  rw [la_1 (q_is_cat f0 (Or.inr rfl)), la_1 (q_is_cat f1 (Or.inr rfl)), la_1 (q_is_cat f2 (Or.inl rfl)), la_0]
  obtain ⟨L, hL⟩ : ∃ L : QL, L = [(0, v0), (0 + 1, v1), (0 + 1 + 1, v2)] := ⟨_, rfl⟩
  rw [← hL]
  have l0 : q_lo L 0 = some v0 := by rw [hL]; rfl
  have l1 : q_lo L 1 = some v1 := by rw [hL]; rfl
  have l2 : q_lo L 2 = some v2 := by rw [hL]; rfl
  have hQ : Ext m0 rm → ∀ o S1, Rp S1 rm → q_oux 9 o rr → (Cx 9 m0 rm rr) o S1 := fun a o S1 b e => ⟨b, a, e⟩
  unfold fm_X11_checkVersion at h
  refine go_iload_n (n := 2) (by decide +kernel) l2 f2 ?_
  refine go_if (c := .lt) (o := 14) (t := 15) (P := p2 < 0) (by decide +kernel) (by decide +kernel) f2 (Iff.rfl) (fun hp_1 => ?_) (fun hp_1 => ?_)
  · have h := it_t hp_1 h
    cases h
    exact go_thr (x := 255) (e := 0) (ic := 259) (b := 0) (by decide +kernel) (by decide +kernel) (by decide +kernel) R rfl fun Sq Rq Eq => hQ Eq _ _ Rq rfl
  · have h := it_f hp_1 h
    refine go_iload_n (n := 2) (by decide +kernel) l2 f2 ?_
    refine go_aload_n (n := 1) (by decide +kernel) l1 f1 ?_
    obtain ⟨g_4, h⟩ := gd_s h
    obtain ⟨x_6, e_7, h⟩ := lx_s h
    refine go_getf (x := 124) (ci := 11) (kf := 0) (fin := 2) (t := 2) (by decide +kernel) (by decide +kernel) (by decide +kernel) R f1 g_4 fun v_2 f_3 => ?_
    have f_5 := q_is_eq f_3 e_7
    obtain ⟨g_8, h⟩ := gd_s h
    obtain ⟨x_10, hc_9, h⟩ := bp_s h
    refine go_callV (x := 127) (mi := 326) (n := 0) (ci := 0) (as := []) (rest := [v2]) (by decide +kernel) (by decide +kernel) rfl rfl (q_sum8 _ (Nat.le_of_ble_eq_true rfl)) R f_5 g_8 (om_Jx4a65c_size_8abf5 (Nat.le_trans (by decide) hd) R g_8 f_5 hc_9) (fun _ S_14 q_17 => ?_) (fun _ _ qq => kr_x qq)
    refine kr_z (by decide) q_17 fun v_12 f_13 R_15 E_16 => ?_
    refine go_icmp (c := .lt) (o := 14) (t := 26) (P := p2 < x_10) (by decide +kernel) (by decide +kernel) f2 f_13 (Iff.rfl) (fun hp_18 => ?_) (fun hp_18 => ?_)
    · have h := it_t hp_18 h
      cases h
      exact go_vret (by decide +kernel) rfl (hQ (Ext.rf _) _ _ R_15 q_out_n)
    · have h := it_f hp_18 h
      cases h
      exact go_thr (x := 255) (e := 0) (ic := 259) (b := 0) (by decide +kernel) (by decide +kernel) (by decide +kernel) R_15 rfl fun Sq Rq Eq => hQ Eq _ _ Rq rfl
noncomputable def fl_X11_unsafe_15 (y1 y2 : Int) : Nat → Int → Int → MM → Option ((Int ⊕ Nat) × MM)
  | 0, _, _, _ => none
  | n + 1, y3, y4, m => bp (fm_Jx4a65c_size_8abf5 7 m) fun x_46 =>
if y4 < x_46 then
bp (fm_Jx4a65c_get_915e3 7 y4 m) fun x_59 =>
gd (okc m x_59 7) <| lx (m x_59 1) fun x_79 =>
if x_79 = y1 then
lx (m x_59 6) fun x_97 =>
if x_97 = 0 then
bp (fm_X11_codeOf x_59 y2 m) fun x_116 =>
lx (m x_59 16) fun x_127 =>
gd (okc m x_127 3) <| lx (m x_127 4) fun x_133 =>
bd (fm_X4_follow x_59 x_116 x_133 0 m) fun x_138 m_139 =>
if x_138 = 0 then
lx (w32 (y3 + 1)) fun x_165 =>
lx (w32 (y4 + 1)) fun x_177 =>
fl_X11_unsafe_15 y1 y2 n x_165 x_177 m_139
else
lx (w32 (y4 + 1)) fun x_153 =>
fl_X11_unsafe_15 y1 y2 n y3 x_153 m_139
else
lx (w32 (y4 + 1)) fun x_105 =>
fl_X11_unsafe_15 y1 y2 n y3 x_105 m
else
lx (w32 (y4 + 1)) fun x_87 =>
fl_X11_unsafe_15 y1 y2 n y3 x_87 m
else
some (.inl y3, m)
set_option maxHeartbeats 4000000 in
theorem ol_X11_unsafe_15 {xs : List Int32} {d : Nat} {Q : QO → QS → Prop} {mb : MM} {y1 y2 : Int} {rr : Int ⊕ Nat} {rm : MM}
  (hd : 7 ≤ d)
  (hQ : Ext mb rm → ∀ o S1, Rp S1 rm → q_oux 0 o rr → Q o S1) :
  ∀ (n : Nat) {m : MM} {S : QS} {L : QL} {y3 y4 : Int} {v0 : Value} {v1 : Value} {v2 : Value} {v3 : Value} {v4 : Value} , Ext mb m → fl_X11_unsafe_15 y1 y2 n y3 y4 m = some (rr, rm) → Rp S m → q_lo L 0 = some v0 → q_is 2 v0 4 → q_lo L 1 = some v1 → q_is 0 v1 y1 → q_lo L 2 = some v2 → q_is 0 v2 y2 → q_lo L 3 = some v3 → q_is 0 v3 y3 → q_lo L 4 = some v4 → q_is 0 v4 y4 → Go xs d qM_X11_unsafe 15 L [] S Q := by
  intro n
  induction n with
  | zero => intro m S L y3 y4 v0 v1 v2 v3 v4; intro E h R l0 f0 l1 f1 l2 f2 l3 f3 l4 f4; cases h
  | succ n ih0 =>
    intro m S L y3 y4 v0 v1 v2 v3 v4; intro E h R l0 f0 l1 f1 l2 f2 l3 f3 l4 f4
    have ih : ∀ mq : MM, Ext mb mq → ∀ {z3 : Int} {z4 : Int} {Sq : QS} {Lq : QL} {u0 : Value} {u1 : Value} {u2 : Value} {u3 : Value} {u4 : Value}, fl_X11_unsafe_15 y1 y2 n z3 z4 mq = some (rr, rm) → Rp Sq mq → q_lo Lq 0 = some u0 → q_is 2 u0 4 → q_lo Lq 1 = some u1 → q_is 0 u1 y1 → q_lo Lq 2 = some u2 → q_is 0 u2 y2 → q_lo Lq 3 = some u3 → q_is 0 u3 z3 → q_lo Lq 4 = some u4 → q_is 0 u4 z4 → Go xs d qM_X11_unsafe 15 Lq [] Sq Q := fun mq b => by intros; exact ih0 b ‹_› ‹_› ‹_› ‹_› ‹_› ‹_› ‹_› ‹_› ‹_› ‹_› ‹_› ‹_›
    unfold fl_X11_unsafe_15 at h
    refine go_iload (n := 4) (by decide +kernel) l4 f4 ?_
    refine go_aload_n (n := 0) (by decide +kernel) l0 f0 ?_
    refine go_getf (x := 24) (ci := 12) (kf := 2) (fin := 1) (t := 2) (by decide +kernel) (by decide +kernel) (by decide +kernel) R f0 (fx_k (c := 12) R (by decide +kernel)) fun v_42 f_43 => ?_
    have f_44 := q_is_eq (b := 7) f_43 (fx_v R (by decide +kernel)).symm
    obtain ⟨x_46, hc_45, h⟩ := bp_s h
    refine go_callV (x := 127) (mi := 326) (n := 0) (ci := 0) (as := []) (rest := [v4]) (by decide +kernel) (by decide +kernel) rfl rfl (q_sum8 _ (Nat.le_of_ble_eq_true rfl)) R f_44 (fx_k (c := 0) R (by decide +kernel)) (om_Jx4a65c_size_8abf5 (Nat.le_trans (by decide) hd) R (fx_k (c := 0) R (by decide +kernel)) f_44 hc_45) (fun _ S_50 q_53 => ?_) (fun _ _ qq => kr_x qq)
    refine kr_z (by decide) q_53 fun v_48 f_49 R_51 E_52 => ?_
    refine go_icmp (c := .ge) (o := 71) (t := 95) (P := ¬ (y4 < x_46)) (by decide +kernel) (by decide +kernel) f4 f_49 (Int.not_lt.symm) (fun hp_54 => ?_) (fun hp_54 => ?_)
    · have h := it_f hp_54 h
      refine go_iload_n (n := 3) (by decide +kernel) l3 f3 ?_
      cases h
      exact go_iret (by decide +kernel) rfl (Or.inl rfl) f3 (hQ E _ _ R_51 (q_out_v (by decide) f3))
    · have h := it_n hp_54 h
      refine go_aload_n (n := 0) (by decide +kernel) l0 f0 ?_
      refine go_getf (x := 24) (ci := 12) (kf := 2) (fin := 1) (t := 2) (by decide +kernel) (by decide +kernel) (by decide +kernel) R_51 f0 (fx_k (c := 12) R_51 (by decide +kernel)) fun v_55 f_56 => ?_
      have f_57 := q_is_eq (b := 7) f_56 (fx_v R_51 (by decide +kernel)).symm
      refine go_iload (n := 4) (by decide +kernel) l4 f4 ?_
      obtain ⟨x_59, hc_58, h⟩ := bp_s h
      refine go_callV (x := 305) (mi := 329) (n := 1) (ci := 0) (as := [v4]) (rest := []) (by decide +kernel) (by decide +kernel) rfl rfl (q_sum8 _ (Nat.le_of_ble_eq_true rfl)) R_51 f_57 (fx_k (c := 0) R_51 (by decide +kernel)) (om_Jx4a65c_get_915e3 (Nat.le_trans (by decide) hd) R_51 (fx_k (c := 0) R_51 (by decide +kernel)) f_57 f4 hc_58) (fun _ S_63 q_66 => ?_) (fun _ _ qq => kr_x qq)
      refine kr_z (by decide) q_66 fun v_61 f_62 R_64 E_65 => ?_
      obtain ⟨g_67, h⟩ := gd_s h
      refine go_cast (x := 181) (kd := 7) (a := 0) (b := 0) (by decide +kernel) (by decide +kernel) R_64 f_62 g_67 ?_
      refine go_astore (n := 5) (by decide +kernel) (by decide +kernel) f_62 fun L_68 l_69 kp_70 => ?_
      have l_71 := kp_70 0 _ l0 (by decide) (Or.inl (by decide))
      have l_72 := kp_70 1 _ l1 (by decide) (Or.inl (by decide))
      have l_73 := kp_70 2 _ l2 (by decide) (Or.inl (by decide))
      have l_74 := kp_70 3 _ l3 (by decide) (Or.inl (by decide))
      have l_75 := kp_70 4 _ l4 (by decide) (Or.inr (q_is_cat f4 (Or.inl rfl)))
      refine go_aload (n := 5) (by decide +kernel) l_69 f_62 ?_
      obtain ⟨x_79, e_80, h⟩ := lx_s h
      refine go_getf (x := 404) (ci := 7) (kf := 1) (fin := 2) (t := 0) (by decide +kernel) (by decide +kernel) (by decide +kernel) R_64 f_62 g_67 fun v_76 f_77 => ?_
      have f_78 := q_is_eq f_77 e_80
      refine go_iload_n (n := 1) (by decide +kernel) l_72 f1 ?_
      refine go_icmp (c := .ne) (o := 42) (t := 89) (P := ¬ (x_79 = y1)) (by decide +kernel) (by decide +kernel) f_78 f1 (Iff.rfl) (fun hp_81 => ?_) (fun hp_81 => ?_)
      · have h := it_f hp_81 h
        refine go_iinc (n := 4) (c := 1) (c' := 1) (by decide +kernel) (by decide +kernel) l_75 f4 (by decide) fun L_82 v_83 f_84 l_85 kp_86 => ?_
        obtain ⟨x_87, e_88, h⟩ := lx_s h
        have f_89 := q_is_eq f_84 e_88
        have l_90 := kp_86 0 _ l_71 (by decide) (Or.inl (by decide))
        have l_91 := kp_86 1 _ l_72 (by decide) (Or.inl (by decide))
        have l_92 := kp_86 2 _ l_73 (by decide) (Or.inl (by decide))
        have l_93 := kp_86 3 _ l_74 (by decide) (Or.inr (q_is_cat f3 (Or.inl rfl)))
        refine go_goto (o := (-77)) (t := 15) (by decide +kernel) (by decide +kernel) ?_
        exact ih m E h R_64 l_90 f0 l_91 f1 l_92 f2 l_93 f3 l_85 f_89
      · have h := it_n hp_81 h
        refine go_aload (n := 5) (by decide +kernel) l_69 f_62 ?_
        obtain ⟨x_97, e_98, h⟩ := lx_s h
        refine go_getf (x := 208) (ci := 7) (kf := 6) (fin := 0) (t := 0) (by decide +kernel) (by decide +kernel) (by decide +kernel) R_64 f_62 g_67 fun v_94 f_95 => ?_
        have f_96 := q_is_eq f_95 e_98
        refine go_if (c := .ne) (o := 34) (t := 89) (P := ¬ (x_97 = 0)) (by decide +kernel) (by decide +kernel) f_96 (Iff.rfl) (fun hp_99 => ?_) (fun hp_99 => ?_)
        · have h := it_f hp_99 h
          refine go_iinc (n := 4) (c := 1) (c' := 1) (by decide +kernel) (by decide +kernel) l_75 f4 (by decide) fun L_100 v_101 f_102 l_103 kp_104 => ?_
          obtain ⟨x_105, e_106, h⟩ := lx_s h
          have f_107 := q_is_eq f_102 e_106
          have l_108 := kp_104 0 _ l_71 (by decide) (Or.inl (by decide))
          have l_109 := kp_104 1 _ l_72 (by decide) (Or.inl (by decide))
          have l_110 := kp_104 2 _ l_73 (by decide) (Or.inl (by decide))
          have l_111 := kp_104 3 _ l_74 (by decide) (Or.inr (q_is_cat f3 (Or.inl rfl)))
          refine go_goto (o := (-77)) (t := 15) (by decide +kernel) (by decide +kernel) ?_
          exact ih m E h R_64 l_108 f0 l_109 f1 l_110 f2 l_111 f3 l_103 f_107
        · have h := it_n hp_99 h
          refine go_aload_n (n := 0) (by decide +kernel) l_71 f0 ?_
          refine go_getf (x := 57) (ci := 12) (kf := 10) (fin := 1) (t := 2) (by decide +kernel) (by decide +kernel) (by decide +kernel) R_64 f0 (fx_k (c := 12) R_64 (by decide +kernel)) fun v_112 f_113 => ?_
          have f_114 := q_is_eq (b := 16) f_113 (fx_v R_64 (by decide +kernel)).symm
          refine go_aload (n := 5) (by decide +kernel) l_69 f_62 ?_
          refine go_aload_n (n := 0) (by decide +kernel) l_71 f0 ?_
          refine go_aload (n := 5) (by decide +kernel) l_69 f_62 ?_
          refine go_iload_n (n := 2) (by decide +kernel) l_73 f2 ?_
          obtain ⟨x_116, hc_115, h⟩ := bp_s h
          refine go_callV (x := 216) (mi := 149) (n := 2) (ci := 12) (as := [v_61, v2]) (rest := [v_61, v_112]) (by decide +kernel) (by decide +kernel) rfl rfl (q_sum8 _ (Nat.le_of_ble_eq_true rfl)) R_64 f0 (fx_k (c := 12) R_64 (by decide +kernel)) (om_X11_codeOf (Nat.le_trans (by decide) hd) R_64 f0 f_62 f2 hc_115) (fun _ S_120 q_123 => ?_) (fun _ _ qq => kr_x qq)
          refine kr_z (by decide) q_123 fun v_118 f_119 R_121 E_122 => ?_
          refine go_aload (n := 5) (by decide +kernel) l_69 f_62 ?_
          obtain ⟨x_127, e_128, h⟩ := lx_s h
          refine go_getf (x := 195) (ci := 7) (kf := 16) (fin := 2) (t := 2) (by decide +kernel) (by decide +kernel) (by decide +kernel) R_121 f_62 g_67 fun v_124 f_125 => ?_
          have f_126 := q_is_eq f_125 e_128
          obtain ⟨g_131, h⟩ := gd_s h
          obtain ⟨x_133, e_134, h⟩ := lx_s h
          refine go_getf (x := 220) (ci := 3) (kf := 4) (fin := 0) (t := 0) (by decide +kernel) (by decide +kernel) (by decide +kernel) R_121 f_126 g_131 fun v_129 f_130 => ?_
          have f_132 := q_is_eq f_130 e_134
          refine go_iconst (n := 0) (z := 0) (by decide +kernel) (by decide) fun v_135 f_136 => ?_
          obtain ⟨x_138, m_139, hc_137, h⟩ := bd_s h
          refine go_callV (x := 223) (mi := 30) (n := 4) (ci := 5) (as := [v_61, v_118, v_129, v_135]) (rest := []) (by decide +kernel) (by decide +kernel) rfl rfl (q_sum8 _ (Nat.le_of_ble_eq_true rfl)) R_121 f_114 (fx_k (c := 5) R_121 (by decide +kernel)) (om_X4_follow (Nat.le_trans (by decide) hd) R_121 f_114 f_62 f_119 f_132 f_136 hc_137) (fun _ S_142 q_145 => ?_) (fun _ _ qq => kr_x qq)
          refine kr_z (by decide) q_145 fun v_140 f_141 R_143 E_144 => ?_
          have E_146 := Ext.tr E E_144
          refine go_if (c := .ne) (o := 6) (t := 89) (P := ¬ (x_138 = 0)) (by decide +kernel) (by decide +kernel) f_141 (Iff.rfl) (fun hp_147 => ?_) (fun hp_147 => ?_)
          · have h := it_f hp_147 h
            refine go_iinc (n := 4) (c := 1) (c' := 1) (by decide +kernel) (by decide +kernel) l_75 f4 (by decide) fun L_148 v_149 f_150 l_151 kp_152 => ?_
            obtain ⟨x_153, e_154, h⟩ := lx_s h
            have f_155 := q_is_eq f_150 e_154
            have l_156 := kp_152 0 _ l_71 (by decide) (Or.inl (by decide))
            have l_157 := kp_152 1 _ l_72 (by decide) (Or.inl (by decide))
            have l_158 := kp_152 2 _ l_73 (by decide) (Or.inl (by decide))
            have l_159 := kp_152 3 _ l_74 (by decide) (Or.inr (q_is_cat f3 (Or.inl rfl)))
            refine go_goto (o := (-77)) (t := 15) (by decide +kernel) (by decide +kernel) ?_
            exact ih m_139 E_146 h R_143 l_156 f0 l_157 f1 l_158 f2 l_159 f3 l_151 f_155
          · have h := it_n hp_147 h
            refine go_iinc (n := 3) (c := 1) (c' := 1) (by decide +kernel) (by decide +kernel) l_74 f3 (by decide) fun L_160 v_161 f_162 l_163 kp_164 => ?_
            obtain ⟨x_165, e_166, h⟩ := lx_s h
            have f_167 := q_is_eq f_162 e_166
            have l_168 := kp_164 0 _ l_71 (by decide) (Or.inl (by decide))
            have l_169 := kp_164 1 _ l_72 (by decide) (Or.inl (by decide))
            have l_170 := kp_164 2 _ l_73 (by decide) (Or.inr (q_is_cat f2 (Or.inl rfl)))
            have l_171 := kp_164 4 _ l_75 (by decide) (Or.inl (by decide))
            refine go_iinc (n := 4) (c := 1) (c' := 1) (by decide +kernel) (by decide +kernel) l_171 f4 (by decide) fun L_172 v_173 f_174 l_175 kp_176 => ?_
            obtain ⟨x_177, e_178, h⟩ := lx_s h
            have f_179 := q_is_eq f_174 e_178
            have l_180 := kp_176 0 _ l_168 (by decide) (Or.inl (by decide))
            have l_181 := kp_176 1 _ l_169 (by decide) (Or.inl (by decide))
            have l_182 := kp_176 2 _ l_170 (by decide) (Or.inl (by decide))
            have l_183 := kp_176 3 _ l_163 (by decide) (Or.inr (q_is_cat f_167 (Or.inl rfl)))
            refine go_goto (o := (-77)) (t := 15) (by decide +kernel) (by decide +kernel) ?_
            exact ih m_139 E_146 h R_143 l_180 f0 l_181 f1 l_182 f2 l_183 f_167 l_175 f_179
noncomputable def fm_X11_unsafe (p1 p2 : Int) (m0 : MM) : Option ((Int ⊕ Nat) × MM) := bx (fm_X11_typeAt p1 m0) (fun q_10 m_3 => some (.inr q_10, m_3)) fun x_2 m_3 =>
bx (fm_X11_checkVersion x_2 p2 m_3) (fun q_22 m_15 => some (.inr q_22, m_15)) fun x_14 m_15 =>
fl_X11_unsafe_15 p1 p2  BIG 0 0 m_15
set_option maxHeartbeats 4000000 in
theorem om_X11_unsafe {xs : List Int32} {d : Nat} {S : QS} {m0 : MM} {p1 p2 : Int} {v0 : Value} {v1 : Value} {v2 : Value} {rr : Int ⊕ Nat} {rm : MM}
  (hd : 8 ≤ d) (R : Rp S m0) (f0 : q_is 2 v0 4) (f1 : q_is 0 v1 p1) (f2 : q_is 0 v2 p2)
  (h : fm_X11_unsafe p1 p2 m0 = some (rr, rm)) : Mt xs d 125 [v0, v1, v2] S (Cx 0 m0 rm rr) := by
  obtain ⟨d, rfl⟩ : ∃ e, d = e + 1 := ⟨d - 1, by omega⟩
  have hd : 7 ≤ d := Nat.le_of_succ_le_succ hd
  refine Mt.of (M := qM_X11_unsafe) rfl (by rw [sl_1 (q_is_cat f0 (Or.inr rfl)), sl_1 (q_is_cat f1 (Or.inl rfl)), sl_1 (q_is_cat f2 (Or.inl rfl)), sl_0]; decide) ?_
  rw [la_1 (q_is_cat f0 (Or.inr rfl)), la_1 (q_is_cat f1 (Or.inl rfl)), la_1 (q_is_cat f2 (Or.inl rfl)), la_0]
  obtain ⟨L, hL⟩ : ∃ L : QL, L = [(0, v0), (0 + 1, v1), (0 + 1 + 1, v2)] := ⟨_, rfl⟩
  rw [← hL]
  have l0 : q_lo L 0 = some v0 := by rw [hL]; rfl
  have l1 : q_lo L 1 = some v1 := by rw [hL]; rfl
  have l2 : q_lo L 2 = some v2 := by rw [hL]; rfl
  have hQ : Ext m0 rm → ∀ o S1, Rp S1 rm → q_oux 0 o rr → (Cx 0 m0 rm rr) o S1 := fun a o S1 b e => ⟨b, a, e⟩
  unfold fm_X11_unsafe at h
  refine go_aload_n (n := 0) (by decide +kernel) l0 f0 ?_
  refine go_aload_n (n := 0) (by decide +kernel) l0 f0 ?_
  refine go_iload_n (n := 1) (by decide +kernel) l1 f1 ?_
  obtain ⟨rr5, m_3, hc_1, h⟩ := bx_s h
  rcases h with ⟨q_10, rfl, h⟩ | ⟨x_2, rfl, h⟩
  · cases h
    exact go_callV (x := 86) (mi := 137) (n := 1) (ci := 12) (as := [v1]) (rest := [v0]) (by decide +kernel) (by decide +kernel) rfl rfl (q_sum8 _ (Nat.le_of_ble_eq_true rfl)) R f0 (fx_k (c := 12) R (by decide +kernel)) (om_X11_typeAt (Nat.le_trans (by decide) hd) R f0 f1 hc_1) (fun _ _ qq => kx_lx qq) (fun _ _ qq => by
      obtain ⟨rfl, Rq, Eq⟩ := kx_e qq
      exact Or.inl ⟨rfl, hQ Eq _ _ Rq rfl⟩)
  refine go_callV (x := 86) (mi := 137) (n := 1) (ci := 12) (as := [v1]) (rest := [v0]) (by decide +kernel) (by decide +kernel) rfl rfl (q_sum8 _ (Nat.le_of_ble_eq_true rfl)) R f0 (fx_k (c := 12) R (by decide +kernel)) (om_X11_typeAt (Nat.le_trans (by decide) hd) R f0 f1 hc_1) (fun _ S_6 q_9 => ?_) (fun _ _ qq => kr_x (kx_l qq))
  have q_9 := kx_l q_9
  refine kr_z (by decide) q_9 fun v_4 f_5 R_7 E_8 => ?_
  have E_12 := E_8
  refine go_iload_n (n := 2) (by decide +kernel) l2 f2 ?_
  obtain ⟨rr5, m_15, hc_13, h⟩ := bx_s h
  rcases h with ⟨q_22, rfl, h⟩ | ⟨x_14, rfl, h⟩
  · cases h
    exact go_callV (x := 400) (mi := 142) (n := 2) (ci := 12) (as := [v_4, v2]) (rest := []) (by decide +kernel) (by decide +kernel) rfl rfl (q_sum8 _ (Nat.le_of_ble_eq_true rfl)) R_7 f0 (fx_k (c := 12) R_7 (by decide +kernel)) (om_X11_checkVersion (Nat.le_trans (by decide) hd) R_7 f0 f_5 f2 hc_13) (fun _ _ qq => kx_lx qq) (fun _ _ qq => by
      obtain ⟨rfl, Rq, Eq⟩ := kx_e qq
      exact Or.inl ⟨rfl, hQ (Ext.tr E_12 Eq) _ _ Rq rfl⟩)
  refine go_callV (x := 400) (mi := 142) (n := 2) (ci := 12) (as := [v_4, v2]) (rest := []) (by decide +kernel) (by decide +kernel) rfl rfl (q_sum8 _ (Nat.le_of_ble_eq_true rfl)) R_7 f0 (fx_k (c := 12) R_7 (by decide +kernel)) (om_X11_checkVersion (Nat.le_trans (by decide) hd) R_7 f0 f_5 f2 hc_13) (fun _ S_18 q_21 => ?_) (fun _ _ qq => kr_x (kx_l qq))
  have q_21 := kx_l q_21
  refine kr_v q_21 fun R_19 E_20 => ?_
  have E_24 := Ext.tr E_12 E_20
  refine go_iconst (n := 0) (z := 0) (by decide +kernel) (by decide) fun v_25 f_26 => ?_
  refine go_istore_n (n := 3) (by decide +kernel) (by decide +kernel) f_26 fun L_27 l_28 kp_29 => ?_
  have l_30 := kp_29 0 _ l0 (by decide) (Or.inl (by decide))
  have l_31 := kp_29 1 _ l1 (by decide) (Or.inl (by decide))
  have l_32 := kp_29 2 _ l2 (by decide) (Or.inr (q_is_cat f2 (Or.inl rfl)))
  refine go_iconst (n := 0) (z := 0) (by decide +kernel) (by decide) fun v_33 f_34 => ?_
  refine go_istore (n := 4) (by decide +kernel) (by decide +kernel) f_34 fun L_35 l_36 kp_37 => ?_
  have l_38 := kp_37 0 _ l_30 (by decide) (Or.inl (by decide))
  have l_39 := kp_37 1 _ l_31 (by decide) (Or.inl (by decide))
  have l_40 := kp_37 2 _ l_32 (by decide) (Or.inl (by decide))
  have l_41 := kp_37 3 _ l_28 (by decide) (Or.inr (q_is_cat f_26 (Or.inl rfl)))
  refine ol_X11_unsafe_15 hd   (fun b => hQ (Ext.tr E_24 b)) BIG (Ext.rf _) h R_19 l_38 f0 l_39 f1 l_40 f2 l_41 f_26 l_36 f_34
noncomputable def fm_X11_move (p1 p2 : Int) (m0 : MM) : Option ((Int ⊕ Nat) × MM) := bx (fm_X11_runAt p1 m0) (fun q_10 m_3 => some (.inr q_10, m_3)) fun x_2 m_3 =>
gd (okc m_3 x_2 7) <| lx (m_3 x_2 1) fun x_22 =>
bx (fm_X11_typeAt x_22 m_3) (fun q_33 m_26 => some (.inr q_33, m_26)) fun x_25 m_26 =>
bx (fm_X11_checkVersion x_25 p2 m_26) (fun q_45 m_38 => some (.inr q_45, m_38)) fun x_37 m_38 =>
bp (fm_X6_isAlive x_2 m_38) fun x_50 =>
if x_50 = 0 then
some (.inr 2, mthr m_38)
else
up m_38 x_2 3 p2 fun m_59 =>
up m_59 x_2 6 0 fun m_68 =>
bp (fm_X11_codeOf x_2 p2 m_68) fun x_78 =>
lx (m_68 x_2 16) fun x_90 =>
gd (okc m_68 x_90 3) <| lx (m_68 x_90 4) fun x_96 =>
bd (fm_X4_follow x_2 x_78 x_96 0 m_68) fun x_101 m_102 =>
gd (x_101 = 0 ∨ x_101 = 1) <| some (.inl x_101, m_102)
set_option maxHeartbeats 4000000 in
theorem om_X11_move {xs : List Int32} {d : Nat} {S : QS} {m0 : MM} {p1 p2 : Int} {v0 : Value} {v1 : Value} {v2 : Value} {rr : Int ⊕ Nat} {rm : MM}
  (hd : 8 ≤ d) (R : Rp S m0) (f0 : q_is 2 v0 4) (f1 : q_is 0 v1 p1) (f2 : q_is 0 v2 p2)
  (h : fm_X11_move p1 p2 m0 = some (rr, rm)) : Mt xs d 126 [v0, v1, v2] S (Cx 0 m0 rm rr) := by
  obtain ⟨d, rfl⟩ : ∃ e, d = e + 1 := ⟨d - 1, by omega⟩
  have hd : 7 ≤ d := Nat.le_of_succ_le_succ hd
  refine Mt.of (M := qM_X11_move) rfl (by rw [sl_1 (q_is_cat f0 (Or.inr rfl)), sl_1 (q_is_cat f1 (Or.inl rfl)), sl_1 (q_is_cat f2 (Or.inl rfl)), sl_0]; decide) ?_
  rw [la_1 (q_is_cat f0 (Or.inr rfl)), la_1 (q_is_cat f1 (Or.inl rfl)), la_1 (q_is_cat f2 (Or.inl rfl)), la_0]
  obtain ⟨L, hL⟩ : ∃ L : QL, L = [(0, v0), (0 + 1, v1), (0 + 1 + 1, v2)] := ⟨_, rfl⟩
  rw [← hL]
  have l0 : q_lo L 0 = some v0 := by rw [hL]; rfl
  have l1 : q_lo L 1 = some v1 := by rw [hL]; rfl
  have l2 : q_lo L 2 = some v2 := by rw [hL]; rfl
  have hQ : Ext m0 rm → ∀ o S1, Rp S1 rm → q_oux 0 o rr → (Cx 0 m0 rm rr) o S1 := fun a o S1 b e => ⟨b, a, e⟩
  unfold fm_X11_move at h
  refine go_aload_n (n := 0) (by decide +kernel) l0 f0 ?_
  refine go_iload_n (n := 1) (by decide +kernel) l1 f1 ?_
  obtain ⟨rr5, m_3, hc_1, h⟩ := bx_s h
  rcases h with ⟨q_10, rfl, h⟩ | ⟨x_2, rfl, h⟩
  · cases h
    exact go_callV (x := 185) (mi := 139) (n := 1) (ci := 12) (as := [v1]) (rest := []) (by decide +kernel) (by decide +kernel) rfl rfl (q_sum8 _ (Nat.le_of_ble_eq_true rfl)) R f0 (fx_k (c := 12) R (by decide +kernel)) (om_X11_runAt (Nat.le_trans (by decide) hd) R f0 f1 hc_1) (fun _ _ qq => kx_lx qq) (fun _ _ qq => by
      obtain ⟨rfl, Rq, Eq⟩ := kx_e qq
      exact Or.inl ⟨rfl, hQ Eq _ _ Rq rfl⟩)
  refine go_callV (x := 185) (mi := 139) (n := 1) (ci := 12) (as := [v1]) (rest := []) (by decide +kernel) (by decide +kernel) rfl rfl (q_sum8 _ (Nat.le_of_ble_eq_true rfl)) R f0 (fx_k (c := 12) R (by decide +kernel)) (om_X11_runAt (Nat.le_trans (by decide) hd) R f0 f1 hc_1) (fun _ S_6 q_9 => ?_) (fun _ _ qq => kr_x (kx_l qq))
  have q_9 := kx_l q_9
  refine kr_z (by decide) q_9 fun v_4 f_5 R_7 E_8 => ?_
  have E_12 := E_8
  refine go_astore_n (n := 3) (by decide +kernel) (by decide +kernel) f_5 fun L_13 l_14 kp_15 => ?_
  have l_16 := kp_15 0 _ l0 (by decide) (Or.inl (by decide))
  have l_17 := kp_15 2 _ l2 (by decide) (Or.inr (q_is_cat f2 (Or.inl rfl)))
  refine go_aload_n (n := 0) (by decide +kernel) l_16 f0 ?_
  refine go_aload_n (n := 0) (by decide +kernel) l_16 f0 ?_
  refine go_aload_n (n := 3) (by decide +kernel) l_14 f_5 ?_
  obtain ⟨g_20, h⟩ := gd_s h
  obtain ⟨x_22, e_23, h⟩ := lx_s h
  refine go_getf (x := 404) (ci := 7) (kf := 1) (fin := 2) (t := 0) (by decide +kernel) (by decide +kernel) (by decide +kernel) R_7 f_5 g_20 fun v_18 f_19 => ?_
  have f_21 := q_is_eq f_19 e_23
  obtain ⟨rr5, m_26, hc_24, h⟩ := bx_s h
  rcases h with ⟨q_33, rfl, h⟩ | ⟨x_25, rfl, h⟩
  · cases h
    exact go_callV (x := 86) (mi := 137) (n := 1) (ci := 12) (as := [v_18]) (rest := [v0]) (by decide +kernel) (by decide +kernel) rfl rfl (q_sum8 _ (Nat.le_of_ble_eq_true rfl)) R_7 f0 (fx_k (c := 12) R_7 (by decide +kernel)) (om_X11_typeAt (Nat.le_trans (by decide) hd) R_7 f0 f_21 hc_24) (fun _ _ qq => kx_lx qq) (fun _ _ qq => by
      obtain ⟨rfl, Rq, Eq⟩ := kx_e qq
      exact Or.inl ⟨rfl, hQ (Ext.tr E_12 Eq) _ _ Rq rfl⟩)
  refine go_callV (x := 86) (mi := 137) (n := 1) (ci := 12) (as := [v_18]) (rest := [v0]) (by decide +kernel) (by decide +kernel) rfl rfl (q_sum8 _ (Nat.le_of_ble_eq_true rfl)) R_7 f0 (fx_k (c := 12) R_7 (by decide +kernel)) (om_X11_typeAt (Nat.le_trans (by decide) hd) R_7 f0 f_21 hc_24) (fun _ S_29 q_32 => ?_) (fun _ _ qq => kr_x (kx_l qq))
  have q_32 := kx_l q_32
  refine kr_z (by decide) q_32 fun v_27 f_28 R_30 E_31 => ?_
  have E_35 := Ext.tr E_12 E_31
  refine go_iload_n (n := 2) (by decide +kernel) l_17 f2 ?_
  obtain ⟨rr5, m_38, hc_36, h⟩ := bx_s h
  rcases h with ⟨q_45, rfl, h⟩ | ⟨x_37, rfl, h⟩
  · cases h
    exact go_callV (x := 400) (mi := 142) (n := 2) (ci := 12) (as := [v_27, v2]) (rest := []) (by decide +kernel) (by decide +kernel) rfl rfl (q_sum8 _ (Nat.le_of_ble_eq_true rfl)) R_30 f0 (fx_k (c := 12) R_30 (by decide +kernel)) (om_X11_checkVersion (Nat.le_trans (by decide) hd) R_30 f0 f_28 f2 hc_36) (fun _ _ qq => kx_lx qq) (fun _ _ qq => by
      obtain ⟨rfl, Rq, Eq⟩ := kx_e qq
      exact Or.inl ⟨rfl, hQ (Ext.tr E_35 Eq) _ _ Rq rfl⟩)
  refine go_callV (x := 400) (mi := 142) (n := 2) (ci := 12) (as := [v_27, v2]) (rest := []) (by decide +kernel) (by decide +kernel) rfl rfl (q_sum8 _ (Nat.le_of_ble_eq_true rfl)) R_30 f0 (fx_k (c := 12) R_30 (by decide +kernel)) (om_X11_checkVersion (Nat.le_trans (by decide) hd) R_30 f0 f_28 f2 hc_36) (fun _ S_41 q_44 => ?_) (fun _ _ qq => kr_x (kx_l qq))
  have q_44 := kx_l q_44
  refine kr_v q_44 fun R_42 E_43 => ?_
  have E_47 := Ext.tr E_35 E_43
  refine go_aload_n (n := 3) (by decide +kernel) l_14 f_5 ?_
  have g_48 := Ext.ok (Ext.tr E_31 E_43) g_20
  obtain ⟨x_50, hc_49, h⟩ := bp_s h
  refine go_callV (x := 192) (mi := 66) (n := 0) (ci := 7) (as := []) (rest := []) (by decide +kernel) (by decide +kernel) rfl rfl (q_sum8 _ (Nat.le_of_ble_eq_true rfl)) R_42 f_5 g_48 (om_X6_isAlive (Nat.le_trans (by decide) hd) R_42 g_48 f_5 hc_49) (fun _ S_54 q_57 => ?_) (fun _ _ qq => kr_x qq)
  refine kr_z (by decide) q_57 fun v_52 f_53 R_55 E_56 => ?_
  refine go_if (c := .ne) (o := 13) (t := 36) (P := ¬ (x_50 = 0)) (by decide +kernel) (by decide +kernel) f_53 (Iff.rfl) (fun hp_58 => ?_) (fun hp_58 => ?_)
  · have h := it_f hp_58 h
    refine go_aload_n (n := 3) (by decide +kernel) l_14 f_5 ?_
    refine go_iload_n (n := 2) (by decide +kernel) l_17 f2 ?_
    obtain ⟨m_59, e_60, h⟩ := up_s h
    refine go_putf (x := 213) (ci := 7) (kf := 3) (fin := 0) (zt := 0) (by decide +kernel) (by decide +kernel) (by decide) (by decide +kernel) (by decide) (Or.inl rfl) R_55 f_5 f2 (fun hq => absurd hq (by decide)) g_48 e_60 (fx_f (j := 3) R_55.2 g_48 (by decide +kernel)) fun S_61 R_62 E_63 => ?_
    have E_64 := Ext.tr E_47 E_63
    refine go_aload_n (n := 3) (by decide +kernel) l_14 f_5 ?_
    refine go_iconst (n := 0) (z := 0) (by decide +kernel) (by decide) fun v_65 f_66 => ?_
    have g_67 := Ext.ok E_63 g_48
    obtain ⟨m_68, e_69, h⟩ := up_s h
    refine go_putf (x := 208) (ci := 7) (kf := 6) (fin := 0) (zt := 0) (by decide +kernel) (by decide +kernel) (by decide) (by decide +kernel) (by decide) (Or.inl rfl) R_62 f_5 f_66 (fun hq => absurd hq (by decide)) g_67 e_69 (fx_f (j := 6) R_62.2 g_67 (by decide +kernel)) fun S_70 R_71 E_72 => ?_
    have E_73 := Ext.tr E_64 E_72
    refine go_aload_n (n := 0) (by decide +kernel) l_16 f0 ?_
    refine go_getf (x := 57) (ci := 12) (kf := 10) (fin := 1) (t := 2) (by decide +kernel) (by decide +kernel) (by decide +kernel) R_71 f0 (fx_k (c := 12) R_71 (by decide +kernel)) fun v_74 f_75 => ?_
    have f_76 := q_is_eq (b := 16) f_75 (fx_v R_71 (by decide +kernel)).symm
    refine go_aload_n (n := 3) (by decide +kernel) l_14 f_5 ?_
    refine go_aload_n (n := 0) (by decide +kernel) l_16 f0 ?_
    refine go_aload_n (n := 3) (by decide +kernel) l_14 f_5 ?_
    refine go_iload_n (n := 2) (by decide +kernel) l_17 f2 ?_
    obtain ⟨x_78, hc_77, h⟩ := bp_s h
    refine go_callV (x := 216) (mi := 149) (n := 2) (ci := 12) (as := [v_4, v2]) (rest := [v_4, v_74]) (by decide +kernel) (by decide +kernel) rfl rfl (q_sum8 _ (Nat.le_of_ble_eq_true rfl)) R_71 f0 (fx_k (c := 12) R_71 (by decide +kernel)) (om_X11_codeOf (Nat.le_trans (by decide) hd) R_71 f0 f_5 f2 hc_77) (fun _ S_82 q_85 => ?_) (fun _ _ qq => kr_x qq)
    refine kr_z (by decide) q_85 fun v_80 f_81 R_83 E_84 => ?_
    refine go_aload_n (n := 3) (by decide +kernel) l_14 f_5 ?_
    have g_88 := Ext.ok E_72 g_67
    obtain ⟨x_90, e_91, h⟩ := lx_s h
    refine go_getf (x := 195) (ci := 7) (kf := 16) (fin := 2) (t := 2) (by decide +kernel) (by decide +kernel) (by decide +kernel) R_83 f_5 g_88 fun v_86 f_87 => ?_
    have f_89 := q_is_eq f_87 e_91
    obtain ⟨g_94, h⟩ := gd_s h
    obtain ⟨x_96, e_97, h⟩ := lx_s h
    refine go_getf (x := 220) (ci := 3) (kf := 4) (fin := 0) (t := 0) (by decide +kernel) (by decide +kernel) (by decide +kernel) R_83 f_89 g_94 fun v_92 f_93 => ?_
    have f_95 := q_is_eq f_93 e_97
    refine go_iconst (n := 0) (z := 0) (by decide +kernel) (by decide) fun v_98 f_99 => ?_
    obtain ⟨x_101, m_102, hc_100, h⟩ := bd_s h
    refine go_callV (x := 223) (mi := 30) (n := 4) (ci := 5) (as := [v_4, v_80, v_92, v_98]) (rest := []) (by decide +kernel) (by decide +kernel) rfl rfl (q_sum8 _ (Nat.le_of_ble_eq_true rfl)) R_83 f_76 (fx_k (c := 5) R_83 (by decide +kernel)) (om_X4_follow (Nat.le_trans (by decide) hd) R_83 f_76 f_5 f_81 f_95 f_99 hc_100) (fun _ S_105 q_108 => ?_) (fun _ _ qq => kr_x qq)
    refine kr_z (by decide) q_108 fun v_103 f_104 R_106 E_107 => ?_
    have E_109 := Ext.tr E_73 E_107
    obtain ⟨g_110, h⟩ := gd_s h
    cases h
    exact go_iret (by decide +kernel) rfl (Or.inr ⟨rfl, g_110⟩) f_104 (hQ E_109 _ _ R_106 (q_out_v (by decide) f_104))
  · have h := it_n hp_58 h
    cases h
    exact go_thr (x := 111) (e := 2) (ic := 115) (b := 0) (by decide +kernel) (by decide +kernel) (by decide +kernel) R_55 rfl fun Sq Rq Eq => hQ (Ext.tr E_47 Eq) _ _ Rq rfl
noncomputable def fl_X11_partFromChildren_2 (y1 y2 : Int) : Nat → Int → MM → Option (Int × MM)
  | 0, _, _ => none
  | n + 1, y3, m => bp (fm_Jx4a65c_size_8abf5 7 m) fun x_13 =>
if y3 < x_13 then
bp (fm_Jx4a65c_get_915e3 7 y3 m) fun x_26 =>
gd (okc m x_26 7) <| lx (m x_26 4) fun x_45 =>
if x_45 = y1 then
lx (m x_26 5) fun x_62 =>
if x_62 < y2 then
lx (w32 (y3 + 1)) fun x_70 =>
fl_X11_partFromChildren_2 y1 y2 n x_70 m
else
up m x_26 4 (-1) fun m_78 =>
lx (w32 (y3 + 1)) fun x_89 =>
fl_X11_partFromChildren_2 y1 y2 n x_89 m_78
else
lx (w32 (y3 + 1)) fun x_53 =>
fl_X11_partFromChildren_2 y1 y2 n x_53 m
else
some (0, m)
set_option maxHeartbeats 4000000 in
theorem ol_X11_partFromChildren_2 {xs : List Int32} {d : Nat} {Q : QO → QS → Prop} {mb : MM} {y1 y2 : Int} {rz : Int} {rm : MM}
  (hd : 3 ≤ d)
  (hQ : Ext mb rm → ∀ o S1, Rp S1 rm → q_out 9 o rz → Q o S1) :
  ∀ (n : Nat) {m : MM} {S : QS} {L : QL} {y3 : Int} {v0 : Value} {v1 : Value} {v2 : Value} {v3 : Value} , Ext mb m → fl_X11_partFromChildren_2 y1 y2 n y3 m = some (rz, rm) → Rp S m → q_lo L 0 = some v0 → q_is 2 v0 4 → q_lo L 1 = some v1 → q_is 0 v1 y1 → q_lo L 2 = some v2 → q_is 0 v2 y2 → q_lo L 3 = some v3 → q_is 0 v3 y3 → Go xs d qM_X11_partFromChildren 2 L [] S Q := by
  intro n
  induction n with
  | zero => intro m S L y3 v0 v1 v2 v3; intro E h R l0 f0 l1 f1 l2 f2 l3 f3; cases h
  | succ n ih0 =>
    intro m S L y3 v0 v1 v2 v3; intro E h R l0 f0 l1 f1 l2 f2 l3 f3
    have ih : ∀ mq : MM, Ext mb mq → ∀ {z3 : Int} {Sq : QS} {Lq : QL} {u0 : Value} {u1 : Value} {u2 : Value} {u3 : Value}, fl_X11_partFromChildren_2 y1 y2 n z3 mq = some (rz, rm) → Rp Sq mq → q_lo Lq 0 = some u0 → q_is 2 u0 4 → q_lo Lq 1 = some u1 → q_is 0 u1 y1 → q_lo Lq 2 = some u2 → q_is 0 u2 y2 → q_lo Lq 3 = some u3 → q_is 0 u3 z3 → Go xs d qM_X11_partFromChildren 2 Lq [] Sq Q := fun mq b => by intros; exact ih0 b ‹_› ‹_› ‹_› ‹_› ‹_› ‹_› ‹_› ‹_› ‹_› ‹_›
    unfold fl_X11_partFromChildren_2 at h
    refine go_iload_n (n := 3) (by decide +kernel) l3 f3 ?_
    refine go_aload_n (n := 0) (by decide +kernel) l0 f0 ?_
    refine go_getf (x := 24) (ci := 12) (kf := 2) (fin := 1) (t := 2) (by decide +kernel) (by decide +kernel) (by decide +kernel) R f0 (fx_k (c := 12) R (by decide +kernel)) fun v_9 f_10 => ?_
    have f_11 := q_is_eq (b := 7) f_10 (fx_v R (by decide +kernel)).symm
    obtain ⟨x_13, hc_12, h⟩ := bp_s h
    refine go_callV (x := 127) (mi := 326) (n := 0) (ci := 0) (as := []) (rest := [v3]) (by decide +kernel) (by decide +kernel) rfl rfl (q_sum8 _ (Nat.le_of_ble_eq_true rfl)) R f_11 (fx_k (c := 0) R (by decide +kernel)) (om_Jx4a65c_size_8abf5 (Nat.le_trans (by decide) hd) R (fx_k (c := 0) R (by decide +kernel)) f_11 hc_12) (fun _ S_17 q_20 => ?_) (fun _ _ qq => kr_x qq)
    refine kr_z (by decide) q_20 fun v_15 f_16 R_18 E_19 => ?_
    refine go_icmp (c := .ge) (o := 46) (t := 56) (P := ¬ (y3 < x_13)) (by decide +kernel) (by decide +kernel) f3 f_16 (Int.not_lt.symm) (fun hp_21 => ?_) (fun hp_21 => ?_)
    · have h := it_f hp_21 h
      cases h
      exact go_vret (by decide +kernel) rfl (hQ E _ _ R_18 q_out_n)
    · have h := it_n hp_21 h
      refine go_aload_n (n := 0) (by decide +kernel) l0 f0 ?_
      refine go_getf (x := 24) (ci := 12) (kf := 2) (fin := 1) (t := 2) (by decide +kernel) (by decide +kernel) (by decide +kernel) R_18 f0 (fx_k (c := 12) R_18 (by decide +kernel)) fun v_22 f_23 => ?_
      have f_24 := q_is_eq (b := 7) f_23 (fx_v R_18 (by decide +kernel)).symm
      refine go_iload_n (n := 3) (by decide +kernel) l3 f3 ?_
      obtain ⟨x_26, hc_25, h⟩ := bp_s h
      refine go_callV (x := 305) (mi := 329) (n := 1) (ci := 0) (as := [v3]) (rest := []) (by decide +kernel) (by decide +kernel) rfl rfl (q_sum8 _ (Nat.le_of_ble_eq_true rfl)) R_18 f_24 (fx_k (c := 0) R_18 (by decide +kernel)) (om_Jx4a65c_get_915e3 (Nat.le_trans (by decide) hd) R_18 (fx_k (c := 0) R_18 (by decide +kernel)) f_24 f3 hc_25) (fun _ S_30 q_33 => ?_) (fun _ _ qq => kr_x qq)
      refine kr_z (by decide) q_33 fun v_28 f_29 R_31 E_32 => ?_
      obtain ⟨g_34, h⟩ := gd_s h
      refine go_cast (x := 181) (kd := 7) (a := 0) (b := 0) (by decide +kernel) (by decide +kernel) R_31 f_29 g_34 ?_
      refine go_astore (n := 4) (by decide +kernel) (by decide +kernel) f_29 fun L_35 l_36 kp_37 => ?_
      have l_38 := kp_37 0 _ l0 (by decide) (Or.inl (by decide))
      have l_39 := kp_37 1 _ l1 (by decide) (Or.inl (by decide))
      have l_40 := kp_37 2 _ l2 (by decide) (Or.inl (by decide))
      have l_41 := kp_37 3 _ l3 (by decide) (Or.inr (q_is_cat f3 (Or.inl rfl)))
      refine go_aload (n := 4) (by decide +kernel) l_36 f_29 ?_
      obtain ⟨x_45, e_46, h⟩ := lx_s h
      refine go_getf (x := 414) (ci := 7) (kf := 4) (fin := 0) (t := 0) (by decide +kernel) (by decide +kernel) (by decide +kernel) R_31 f_29 g_34 fun v_42 f_43 => ?_
      have f_44 := q_is_eq f_43 e_46
      refine go_iload_n (n := 1) (by decide +kernel) l_39 f1 ?_
      refine go_icmp (c := .ne) (o := 18) (t := 50) (P := ¬ (x_45 = y1)) (by decide +kernel) (by decide +kernel) f_44 f1 (Iff.rfl) (fun hp_47 => ?_) (fun hp_47 => ?_)
      · have h := it_f hp_47 h
        refine go_iinc (n := 3) (c := 1) (c' := 1) (by decide +kernel) (by decide +kernel) l_41 f3 (by decide) fun L_48 v_49 f_50 l_51 kp_52 => ?_
        obtain ⟨x_53, e_54, h⟩ := lx_s h
        have f_55 := q_is_eq f_50 e_54
        have l_56 := kp_52 0 _ l_38 (by decide) (Or.inl (by decide))
        have l_57 := kp_52 1 _ l_39 (by decide) (Or.inl (by decide))
        have l_58 := kp_52 2 _ l_40 (by decide) (Or.inr (q_is_cat f2 (Or.inl rfl)))
        refine go_goto (o := (-51)) (t := 2) (by decide +kernel) (by decide +kernel) ?_
        exact ih m E h R_31 l_56 f0 l_57 f1 l_58 f2 l_51 f_55
      · have h := it_n hp_47 h
        refine go_aload (n := 4) (by decide +kernel) l_36 f_29 ?_
        obtain ⟨x_62, e_63, h⟩ := lx_s h
        refine go_getf (x := 417) (ci := 7) (kf := 5) (fin := 2) (t := 0) (by decide +kernel) (by decide +kernel) (by decide +kernel) R_31 f_29 g_34 fun v_59 f_60 => ?_
        have f_61 := q_is_eq f_60 e_63
        refine go_iload_n (n := 2) (by decide +kernel) l_40 f2 ?_
        refine go_icmp (c := .lt) (o := 9) (t := 50) (P := x_62 < y2) (by decide +kernel) (by decide +kernel) f_61 f2 (Iff.rfl) (fun hp_64 => ?_) (fun hp_64 => ?_)
        · have h := it_t hp_64 h
          refine go_iinc (n := 3) (c := 1) (c' := 1) (by decide +kernel) (by decide +kernel) l_41 f3 (by decide) fun L_65 v_66 f_67 l_68 kp_69 => ?_
          obtain ⟨x_70, e_71, h⟩ := lx_s h
          have f_72 := q_is_eq f_67 e_71
          have l_73 := kp_69 0 _ l_38 (by decide) (Or.inl (by decide))
          have l_74 := kp_69 1 _ l_39 (by decide) (Or.inl (by decide))
          have l_75 := kp_69 2 _ l_40 (by decide) (Or.inr (q_is_cat f2 (Or.inl rfl)))
          refine go_goto (o := (-51)) (t := 2) (by decide +kernel) (by decide +kernel) ?_
          exact ih m E h R_31 l_73 f0 l_74 f1 l_75 f2 l_68 f_72
        · have h := it_f hp_64 h
          refine go_aload (n := 4) (by decide +kernel) l_36 f_29 ?_
          refine go_iconst (n := (-1)) (z := (-1)) (by decide +kernel) (by decide) fun v_76 f_77 => ?_
          obtain ⟨m_78, e_79, h⟩ := up_s h
          refine go_putf (x := 414) (ci := 7) (kf := 4) (fin := 0) (zt := 0) (by decide +kernel) (by decide +kernel) (by decide) (by decide +kernel) (by decide) (Or.inl rfl) R_31 f_29 f_77 (fun hq => absurd hq (by decide)) g_34 e_79 (fx_f (j := 4) R_31.2 g_34 (by decide +kernel)) fun S_80 R_81 E_82 => ?_
          have E_83 := Ext.tr E E_82
          refine go_iinc (n := 3) (c := 1) (c' := 1) (by decide +kernel) (by decide +kernel) l_41 f3 (by decide) fun L_84 v_85 f_86 l_87 kp_88 => ?_
          obtain ⟨x_89, e_90, h⟩ := lx_s h
          have f_91 := q_is_eq f_86 e_90
          have l_92 := kp_88 0 _ l_38 (by decide) (Or.inl (by decide))
          have l_93 := kp_88 1 _ l_39 (by decide) (Or.inl (by decide))
          have l_94 := kp_88 2 _ l_40 (by decide) (Or.inr (q_is_cat f2 (Or.inl rfl)))
          refine go_goto (o := (-51)) (t := 2) (by decide +kernel) (by decide +kernel) ?_
          exact ih m_78 E_83 h R_81 l_92 f0 l_93 f1 l_94 f2 l_87 f_91
noncomputable def fm_X11_partFromChildren (p1 p2 : Int) (m0 : MM) : Option (Int × MM) := fl_X11_partFromChildren_2 p1 p2  BIG 0 m0
set_option maxHeartbeats 4000000 in
theorem om_X11_partFromChildren {xs : List Int32} {d : Nat} {S : QS} {m0 : MM} {p1 p2 : Int} {v0 : Value} {v1 : Value} {v2 : Value} {rz : Int} {rm : MM}
  (hd : 4 ≤ d) (R : Rp S m0) (f0 : q_is 2 v0 4) (f1 : q_is 0 v1 p1) (f2 : q_is 0 v2 p2)
  (h : fm_X11_partFromChildren p1 p2 m0 = some (rz, rm)) : Mt xs d 158 [v0, v1, v2] S (Cr 9 m0 rm rz) := by
  obtain ⟨d, rfl⟩ : ∃ e, d = e + 1 := ⟨d - 1, by omega⟩
  have hd : 3 ≤ d := Nat.le_of_succ_le_succ hd
  refine Mt.of (M := qM_X11_partFromChildren) rfl (by rw [sl_1 (q_is_cat f0 (Or.inr rfl)), sl_1 (q_is_cat f1 (Or.inl rfl)), sl_1 (q_is_cat f2 (Or.inl rfl)), sl_0]; decide) ?_
  rw [la_1 (q_is_cat f0 (Or.inr rfl)), la_1 (q_is_cat f1 (Or.inl rfl)), la_1 (q_is_cat f2 (Or.inl rfl)), la_0]
  obtain ⟨L, hL⟩ : ∃ L : QL, L = [(0, v0), (0 + 1, v1), (0 + 1 + 1, v2)] := ⟨_, rfl⟩
  rw [← hL]
  have l0 : q_lo L 0 = some v0 := by rw [hL]; rfl
  have l1 : q_lo L 1 = some v1 := by rw [hL]; rfl
  have l2 : q_lo L 2 = some v2 := by rw [hL]; rfl
  have hQ : Ext m0 rm → ∀ o S1, Rp S1 rm → q_out 9 o rz → (Cr 9 m0 rm rz) o S1 := fun a o S1 b e => ⟨b, a, e⟩
  unfold fm_X11_partFromChildren at h
  refine go_iconst (n := 0) (z := 0) (by decide +kernel) (by decide) fun v_1 f_2 => ?_
  refine go_istore_n (n := 3) (by decide +kernel) (by decide +kernel) f_2 fun L_3 l_4 kp_5 => ?_
  have l_6 := kp_5 0 _ l0 (by decide) (Or.inl (by decide))
  have l_7 := kp_5 1 _ l1 (by decide) (Or.inl (by decide))
  have l_8 := kp_5 2 _ l2 (by decide) (Or.inr (q_is_cat f2 (Or.inl rfl)))
  refine ol_X11_partFromChildren_2 hd   hQ BIG (Ext.rf _) h R l_6 f0 l_7 f1 l_8 f2 l_4 f_2
noncomputable def fj_X11_restoreWork_41 (c : Int → MM → Option (Int × MM)) (y1 y2 y3 y4 y5 : Int) (m : MM) : Option (Int × MM) := gd (okc m y2 3) <| bp (fm_X2_hasEnded y2 y4 m) fun x_57 =>
if x_57 = 0 then
if y5 = 8 then
bp (fm_X2_x y2 y4 m) fun x_131 =>
bp (fm_X2_y y2 y4 m) fun x_140 =>
bd (fm_X11_makeActivity y1 y4 x_131 x_140 m) fun x_149 m_150 =>
lx (w32 (y4 + 1)) fun x_163 =>
c x_163 m_150
else
bp (fm_X2_timeOfCommand y2 y4 m) fun x_70 =>
bp (fm_X2_x y2 y4 m) fun x_79 =>
lx (m 4 14) fun x_92 =>
bp (fm_J9_max_7cf53 (w32 (x_70 + x_79)) (w32 (x_92 + 1)) m) fun x_99 =>
gd (okc m y1 7) <| bd (fm_X6_addTimer y1 y4 x_99 m) fun x_109 m_110 =>
lx (w32 (y4 + 1)) fun x_123 =>
c x_123 m_110
else
lx (w32 (y4 + 1)) fun x_175 =>
c x_175 m
set_option maxHeartbeats 4000000 in
theorem oj_X11_restoreWork_41 {xs : List Int32} {d : Nat} {S : QS} {L : QL} {Q : QO → QS → Prop} {m : MM} {y1 y2 y3 y4 y5 : Int} {v0 : Value} {v1 : Value} {v2 : Value} {v3 : Value} {v4 : Value} {v5 : Value}  {rz : Int} {rm : MM} {c : Int → MM → Option (Int × MM)} 
  (hd : 9 ≤ d) (R : Rp S m) (l0 : q_lo L 0 = some v0) (f0 : q_is 2 v0 4) (l1 : q_lo L 1 = some v1) (f1 : q_is 2 v1 y1) (l2 : q_lo L 2 = some v2) (f2 : q_is 2 v2 y2) (l3 : q_lo L 3 = some v3) (f3 : q_is 0 v3 y3) (l4 : q_lo L 4 = some v4) (f4 : q_is 0 v4 y4) (l5 : q_lo L 5 = some v5) (f5 : q_is 0 v5 y5)
  (hc : ∀ mq : MM, Ext m mq → ∀ {z4 : Int} {Sq : QS} {Lq : QL} {u0 : Value} {u1 : Value} {u2 : Value} {u3 : Value} {u4 : Value}, c z4 mq = some (rz, rm) → Rp Sq mq → q_lo Lq 0 = some u0 → q_is 2 u0 4 → q_lo Lq 1 = some u1 → q_is 2 u1 y1 → q_lo Lq 2 = some u2 → q_is 2 u2 y2 → q_lo Lq 3 = some u3 → q_is 0 u3 y3 → q_lo Lq 4 = some u4 → q_is 0 u4 z4 → Go xs d qM_X11_restoreWork 13 Lq [] Sq Q)
  (hQ : Ext m rm → ∀ o S1, Rp S1 rm → q_out 9 o rz → Q o S1)
  (h : fj_X11_restoreWork_41 c y1 y2 y3 y4 y5 m = some (rz, rm)) : Go xs d qM_X11_restoreWork 41 L [] S Q := by
  unfold fj_X11_restoreWork_41 at h
  refine go_aload_n (n := 2) (by decide +kernel) l2 f2 ?_
  refine go_iload (n := 4) (by decide +kernel) l4 f4 ?_
  obtain ⟨g_55, h⟩ := gd_s h
  obtain ⟨x_57, hc_56, h⟩ := bp_s h
  refine go_callV (x := 626) (mi := 27) (n := 1) (ci := 3) (as := [v4]) (rest := []) (by decide +kernel) (by decide +kernel) rfl rfl (q_sum8 _ (Nat.le_of_ble_eq_true rfl)) R f2 g_55 (om_X2_hasEnded (Nat.le_trans (by decide) hd) R g_55 f2 f4 hc_56) (fun _ S_61 q_64 => ?_) (fun _ _ qq => kr_x qq)
  refine kr_z (by decide) q_64 fun v_59 f_60 R_62 E_63 => ?_
  refine go_if (c := .eq) (o := 6) (t := 53) (P := x_57 = 0) (by decide +kernel) (by decide +kernel) f_60 (Iff.rfl) (fun hp_65 => ?_) (fun hp_65 => ?_)
  · have h := it_t hp_65 h
    refine go_iload (n := 5) (by decide +kernel) l5 f5 ?_
    refine go_bipush (n := 8) (z := 8) (by decide +kernel) (by decide) fun v_66 f_67 => ?_
    refine go_icmp (c := .ne) (o := 25) (t := 82) (P := ¬ (y5 = 8)) (by decide +kernel) (by decide +kernel) f5 f_67 (Iff.rfl) (fun hp_68 => ?_) (fun hp_68 => ?_)
    · have h := it_f hp_68 h
      refine go_aload_n (n := 1) (by decide +kernel) l1 f1 ?_
      refine go_iload (n := 4) (by decide +kernel) l4 f4 ?_
      refine go_aload_n (n := 2) (by decide +kernel) l2 f2 ?_
      refine go_iload (n := 4) (by decide +kernel) l4 f4 ?_
      obtain ⟨x_70, hc_69, h⟩ := bp_s h
      refine go_callV (x := 629) (mi := 12) (n := 1) (ci := 3) (as := [v4]) (rest := [v4, v1]) (by decide +kernel) (by decide +kernel) rfl rfl (q_sum8 _ (Nat.le_of_ble_eq_true rfl)) R_62 f2 g_55 (om_X2_timeOfCommand (Nat.le_trans (by decide) hd) R_62 g_55 f2 f4 hc_69) (fun _ S_74 q_77 => ?_) (fun _ _ qq => kr_x qq)
      refine kr_z (by decide) q_77 fun v_72 f_73 R_75 E_76 => ?_
      refine go_aload_n (n := 2) (by decide +kernel) l2 f2 ?_
      refine go_iload (n := 4) (by decide +kernel) l4 f4 ?_
      obtain ⟨x_79, hc_78, h⟩ := bp_s h
      refine go_callV (x := 264) (mi := 10) (n := 1) (ci := 3) (as := [v4]) (rest := [v_72, v4, v1]) (by decide +kernel) (by decide +kernel) rfl rfl (q_sum8 _ (Nat.le_of_ble_eq_true rfl)) R_75 f2 g_55 (om_X2_x (Nat.le_trans (by decide) hd) R_75 g_55 f2 f4 hc_78) (fun _ S_83 q_86 => ?_) (fun _ _ qq => kr_x qq)
      refine kr_z (by decide) q_86 fun v_81 f_82 R_84 E_85 => ?_
      refine go_iadd (by decide +kernel) f_73 f_82 fun v_87 f_88 => ?_
      refine go_aload_n (n := 0) (by decide +kernel) l0 f0 ?_
      obtain ⟨x_92, e_93, h⟩ := lx_s h
      refine go_getf (x := 71) (ci := 12) (kf := 14) (fin := 0) (t := 0) (by decide +kernel) (by decide +kernel) (by decide +kernel) R_84 f0 (fx_k (c := 12) R_84 (by decide +kernel)) fun v_89 f_90 => ?_
      have f_91 := q_is_eq f_90 e_93
      refine go_iconst (n := 1) (z := 1) (by decide +kernel) (by decide) fun v_94 f_95 => ?_
      refine go_iadd (by decide +kernel) f_91 f_95 fun v_96 f_97 => ?_
      obtain ⟨x_99, hc_98, h⟩ := bp_s h
      refine go_callS (x := 632) (mi := 319) (n := 2) (b := 0) (as := [v_87, v_96]) (rest := [v4, v1]) (by decide +kernel) (by decide +kernel) rfl rfl (q_sum8 _ (Nat.le_of_ble_eq_true rfl)) (om_J9_max_7cf53 (Nat.le_trans (by decide) hd) R_84 f_88 f_97 hc_98) (fun _ S_103 q_106 => ?_) (fun _ _ qq => kr_x qq)
      refine kr_z (by decide) q_106 fun v_101 f_102 R_104 E_105 => ?_
      obtain ⟨g_107, h⟩ := gd_s h
      obtain ⟨x_109, m_110, hc_108, h⟩ := bd_s h
      refine go_callV (x := 591) (mi := 71) (n := 2) (ci := 7) (as := [v4, v_101]) (rest := []) (by decide +kernel) (by decide +kernel) rfl rfl (q_sum8 _ (Nat.le_of_ble_eq_true rfl)) R_104 f1 g_107 (om_X6_addTimer (Nat.le_trans (by decide) hd) R_104 g_107 f1 f4 f_102 hc_108) (fun _ S_113 q_116 => ?_) (fun _ _ qq => kr_x qq)
      refine kr_v q_116 fun R_114 E_115 => ?_
      have E_117 := E_115
      refine go_iinc (n := 4) (c := 1) (c' := 1) (by decide +kernel) (by decide +kernel) l4 f4 (by decide) fun L_118 v_119 f_120 l_121 kp_122 => ?_
      obtain ⟨x_123, e_124, h⟩ := lx_s h
      have f_125 := q_is_eq f_120 e_124
      have l_126 := kp_122 0 _ l0 (by decide) (Or.inl (by decide))
      have l_127 := kp_122 1 _ l1 (by decide) (Or.inl (by decide))
      have l_128 := kp_122 2 _ l2 (by decide) (Or.inl (by decide))
      have l_129 := kp_122 3 _ l3 (by decide) (Or.inr (q_is_cat f3 (Or.inl rfl)))
      refine go_goto (o := (-100)) (t := 13) (by decide +kernel) (by decide +kernel) ?_
      exact hc m_110 E_117 h R_114 l_126 f0 l_127 f1 l_128 f2 l_129 f3 l_121 f_125
    · have h := it_n hp_68 h
      refine go_aload_n (n := 0) (by decide +kernel) l0 f0 ?_
      refine go_aload_n (n := 1) (by decide +kernel) l1 f1 ?_
      refine go_iload (n := 4) (by decide +kernel) l4 f4 ?_
      refine go_aload_n (n := 2) (by decide +kernel) l2 f2 ?_
      refine go_iload (n := 4) (by decide +kernel) l4 f4 ?_
      obtain ⟨x_131, hc_130, h⟩ := bp_s h
      refine go_callV (x := 264) (mi := 10) (n := 1) (ci := 3) (as := [v4]) (rest := [v4, v1, v0]) (by decide +kernel) (by decide +kernel) rfl rfl (q_sum8 _ (Nat.le_of_ble_eq_true rfl)) R_62 f2 g_55 (om_X2_x (Nat.le_trans (by decide) hd) R_62 g_55 f2 f4 hc_130) (fun _ S_135 q_138 => ?_) (fun _ _ qq => kr_x qq)
      refine kr_z (by decide) q_138 fun v_133 f_134 R_136 E_137 => ?_
      refine go_aload_n (n := 2) (by decide +kernel) l2 f2 ?_
      refine go_iload (n := 4) (by decide +kernel) l4 f4 ?_
      obtain ⟨x_140, hc_139, h⟩ := bp_s h
      refine go_callV (x := 267) (mi := 11) (n := 1) (ci := 3) (as := [v4]) (rest := [v_133, v4, v1, v0]) (by decide +kernel) (by decide +kernel) rfl rfl (q_sum8 _ (Nat.le_of_ble_eq_true rfl)) R_136 f2 g_55 (om_X2_y (Nat.le_trans (by decide) hd) R_136 g_55 f2 f4 hc_139) (fun _ S_144 q_147 => ?_) (fun _ _ qq => kr_x qq)
      refine kr_z (by decide) q_147 fun v_142 f_143 R_145 E_146 => ?_
      obtain ⟨x_149, m_150, hc_148, h⟩ := bd_s h
      refine go_callV (x := 588) (mi := 168) (n := 4) (ci := 12) (as := [v1, v4, v_133, v_142]) (rest := []) (by decide +kernel) (by decide +kernel) rfl rfl (q_sum8 _ (Nat.le_of_ble_eq_true rfl)) R_145 f0 (fx_k (c := 12) R_145 (by decide +kernel)) (om_X11_makeActivity (Nat.le_trans (by decide) hd) R_145 f0 f1 f4 f_134 f_143 hc_148) (fun _ S_153 q_156 => ?_) (fun _ _ qq => kr_x qq)
      refine kr_v q_156 fun R_154 E_155 => ?_
      have E_157 := E_155
      refine go_goto (o := 31) (t := 110) (by decide +kernel) (by decide +kernel) ?_
      refine go_iinc (n := 4) (c := 1) (c' := 1) (by decide +kernel) (by decide +kernel) l4 f4 (by decide) fun L_158 v_159 f_160 l_161 kp_162 => ?_
      obtain ⟨x_163, e_164, h⟩ := lx_s h
      have f_165 := q_is_eq f_160 e_164
      have l_166 := kp_162 0 _ l0 (by decide) (Or.inl (by decide))
      have l_167 := kp_162 1 _ l1 (by decide) (Or.inl (by decide))
      have l_168 := kp_162 2 _ l2 (by decide) (Or.inl (by decide))
      have l_169 := kp_162 3 _ l3 (by decide) (Or.inr (q_is_cat f3 (Or.inl rfl)))
      refine go_goto (o := (-100)) (t := 13) (by decide +kernel) (by decide +kernel) ?_
      exact hc m_150 E_157 h R_154 l_166 f0 l_167 f1 l_168 f2 l_169 f3 l_161 f_165
  · have h := it_f hp_65 h
    refine go_goto (o := 60) (t := 110) (by decide +kernel) (by decide +kernel) ?_
    refine go_iinc (n := 4) (c := 1) (c' := 1) (by decide +kernel) (by decide +kernel) l4 f4 (by decide) fun L_170 v_171 f_172 l_173 kp_174 => ?_
    obtain ⟨x_175, e_176, h⟩ := lx_s h
    have f_177 := q_is_eq f_172 e_176
    have l_178 := kp_174 0 _ l0 (by decide) (Or.inl (by decide))
    have l_179 := kp_174 1 _ l1 (by decide) (Or.inl (by decide))
    have l_180 := kp_174 2 _ l2 (by decide) (Or.inl (by decide))
    have l_181 := kp_174 3 _ l3 (by decide) (Or.inr (q_is_cat f3 (Or.inl rfl)))
    refine go_goto (o := (-100)) (t := 13) (by decide +kernel) (by decide +kernel) ?_
    exact hc m (Ext.rf _) h R_62 l_178 f0 l_179 f1 l_180 f2 l_181 f3 l_173 f_177
noncomputable def fl_X11_restoreWork_13 (y1 y2 y3 : Int) : Nat → Int → MM → Option (Int × MM)
  | 0, _, _ => none
  | n + 1, y4, m => if y4 < y3 then
gd (okc m y2 3) <| bp (fm_X2_kind y2 y4 m) fun x_36 =>
if x_36 = 8 then
fj_X11_restoreWork_41 (fl_X11_restoreWork_13 y1 y2 y3 n) y1 y2 y3 y4 x_36 m
else
if x_36 = 9 then
fj_X11_restoreWork_41 (fl_X11_restoreWork_13 y1 y2 y3 n) y1 y2 y3 y4 x_36 m
else
lx (w32 (y4 + 1)) fun x_190 =>
fl_X11_restoreWork_13 y1 y2 y3 n x_190 m
else
some (0, m)
set_option maxHeartbeats 4000000 in
theorem ol_X11_restoreWork_13 {xs : List Int32} {d : Nat} {Q : QO → QS → Prop} {mb : MM} {y1 y2 y3 : Int} {rz : Int} {rm : MM}
  (hd : 9 ≤ d)
  (hQ : Ext mb rm → ∀ o S1, Rp S1 rm → q_out 9 o rz → Q o S1) :
  ∀ (n : Nat) {m : MM} {S : QS} {L : QL} {y4 : Int} {v0 : Value} {v1 : Value} {v2 : Value} {v3 : Value} {v4 : Value} , Ext mb m → fl_X11_restoreWork_13 y1 y2 y3 n y4 m = some (rz, rm) → Rp S m → q_lo L 0 = some v0 → q_is 2 v0 4 → q_lo L 1 = some v1 → q_is 2 v1 y1 → q_lo L 2 = some v2 → q_is 2 v2 y2 → q_lo L 3 = some v3 → q_is 0 v3 y3 → q_lo L 4 = some v4 → q_is 0 v4 y4 → Go xs d qM_X11_restoreWork 13 L [] S Q := by
  intro n
  induction n with
  | zero => intro m S L y4 v0 v1 v2 v3 v4; intro E h R l0 f0 l1 f1 l2 f2 l3 f3 l4 f4; cases h
  | succ n ih0 =>
    intro m S L y4 v0 v1 v2 v3 v4; intro E h R l0 f0 l1 f1 l2 f2 l3 f3 l4 f4
    have ih : ∀ mq : MM, Ext mb mq → ∀ {z4 : Int} {Sq : QS} {Lq : QL} {u0 : Value} {u1 : Value} {u2 : Value} {u3 : Value} {u4 : Value}, fl_X11_restoreWork_13 y1 y2 y3 n z4 mq = some (rz, rm) → Rp Sq mq → q_lo Lq 0 = some u0 → q_is 2 u0 4 → q_lo Lq 1 = some u1 → q_is 2 u1 y1 → q_lo Lq 2 = some u2 → q_is 2 u2 y2 → q_lo Lq 3 = some u3 → q_is 0 u3 y3 → q_lo Lq 4 = some u4 → q_is 0 u4 z4 → Go xs d qM_X11_restoreWork 13 Lq [] Sq Q := fun mq b => by intros; exact ih0 b ‹_› ‹_› ‹_› ‹_› ‹_› ‹_› ‹_› ‹_› ‹_› ‹_› ‹_› ‹_›
    unfold fl_X11_restoreWork_13 at h
    refine go_iload (n := 4) (by decide +kernel) l4 f4 ?_
    refine go_iload_n (n := 3) (by decide +kernel) l3 f3 ?_
    refine go_icmp (c := .ge) (o := 100) (t := 116) (P := ¬ (y4 < y3)) (by decide +kernel) (by decide +kernel) f4 f3 (Int.not_lt.symm) (fun hp_33 => ?_) (fun hp_33 => ?_)
    · have h := it_f hp_33 h
      cases h
      exact go_vret (by decide +kernel) rfl (hQ E _ _ R q_out_n)
    · have h := it_n hp_33 h
      refine go_aload_n (n := 2) (by decide +kernel) l2 f2 ?_
      refine go_iload (n := 4) (by decide +kernel) l4 f4 ?_
      obtain ⟨g_34, h⟩ := gd_s h
      obtain ⟨x_36, hc_35, h⟩ := bp_s h
      refine go_callV (x := 261) (mi := 9) (n := 1) (ci := 3) (as := [v4]) (rest := []) (by decide +kernel) (by decide +kernel) rfl rfl (q_sum8 _ (Nat.le_of_ble_eq_true rfl)) R f2 g_34 (om_X2_kind (Nat.le_trans (by decide) hd) R g_34 f2 f4 hc_35) (fun _ S_40 q_43 => ?_) (fun _ _ qq => kr_x qq)
      refine kr_z (by decide) q_43 fun v_38 f_39 R_41 E_42 => ?_
      refine go_istore (n := 5) (by decide +kernel) (by decide +kernel) f_39 fun L_44 l_45 kp_46 => ?_
      have l_47 := kp_46 0 _ l0 (by decide) (Or.inl (by decide))
      have l_48 := kp_46 1 _ l1 (by decide) (Or.inl (by decide))
      have l_49 := kp_46 2 _ l2 (by decide) (Or.inl (by decide))
      have l_50 := kp_46 3 _ l3 (by decide) (Or.inl (by decide))
      have l_51 := kp_46 4 _ l4 (by decide) (Or.inr (q_is_cat f4 (Or.inl rfl)))
      refine go_iload (n := 5) (by decide +kernel) l_45 f_39 ?_
      refine go_bipush (n := 8) (z := 8) (by decide +kernel) (by decide) fun v_52 f_53 => ?_
      refine go_icmp (c := .eq) (o := 10) (t := 41) (P := x_36 = 8) (by decide +kernel) (by decide +kernel) f_39 f_53 (Iff.rfl) (fun hp_54 => ?_) (fun hp_54 => ?_)
      · have h := it_t hp_54 h
        exact oj_X11_restoreWork_41 hd R_41 l_47 f0 l_48 f1 l_49 f2 l_50 f3 l_51 f4 l_45 f_39 (fun mq b => ih mq (Ext.tr E b)) (fun b => hQ (Ext.tr E b)) h
      · have h := it_f hp_54 h
        refine go_iload (n := 5) (by decide +kernel) l_45 f_39 ?_
        refine go_bipush (n := 9) (z := 9) (by decide +kernel) (by decide) fun v_182 f_183 => ?_
        refine go_icmp (c := .ne) (o := 72) (t := 110) (P := ¬ (x_36 = 9)) (by decide +kernel) (by decide +kernel) f_39 f_183 (Iff.rfl) (fun hp_184 => ?_) (fun hp_184 => ?_)
        · have h := it_f hp_184 h
          refine go_iinc (n := 4) (c := 1) (c' := 1) (by decide +kernel) (by decide +kernel) l_51 f4 (by decide) fun L_185 v_186 f_187 l_188 kp_189 => ?_
          obtain ⟨x_190, e_191, h⟩ := lx_s h
          have f_192 := q_is_eq f_187 e_191
          have l_193 := kp_189 0 _ l_47 (by decide) (Or.inl (by decide))
          have l_194 := kp_189 1 _ l_48 (by decide) (Or.inl (by decide))
          have l_195 := kp_189 2 _ l_49 (by decide) (Or.inl (by decide))
          have l_196 := kp_189 3 _ l_50 (by decide) (Or.inr (q_is_cat f3 (Or.inl rfl)))
          refine go_goto (o := (-100)) (t := 13) (by decide +kernel) (by decide +kernel) ?_
          exact ih m E h R_41 l_193 f0 l_194 f1 l_195 f2 l_196 f3 l_188 f_192
        · have h := it_n hp_184 h
          exact oj_X11_restoreWork_41 hd R_41 l_47 f0 l_48 f1 l_49 f2 l_50 f3 l_51 f4 l_45 f_39 (fun mq b => ih mq (Ext.tr E b)) (fun b => hQ (Ext.tr E b)) h
noncomputable def fm_X11_restoreWork (p1 : Int) (m0 : MM) : Option (Int × MM) := gd (okc m0 p1 7) <| lx (m0 p1 16) fun x_5 =>
gd (okc m0 x_5 3) <| lx (m0 x_5 1) fun x_16 =>
fl_X11_restoreWork_13 p1 x_5 x_16  BIG 0 m0
set_option maxHeartbeats 4000000 in
theorem om_X11_restoreWork {xs : List Int32} {d : Nat} {S : QS} {m0 : MM} {p1 : Int} {v0 : Value} {v1 : Value} {rz : Int} {rm : MM}
  (hd : 10 ≤ d) (R : Rp S m0) (f0 : q_is 2 v0 4) (f1 : q_is 2 v1 p1)
  (h : fm_X11_restoreWork p1 m0 = some (rz, rm)) : Mt xs d 174 [v0, v1] S (Cr 9 m0 rm rz) := by
  obtain ⟨d, rfl⟩ : ∃ e, d = e + 1 := ⟨d - 1, by omega⟩
  have hd : 9 ≤ d := Nat.le_of_succ_le_succ hd
  refine Mt.of (M := qM_X11_restoreWork) rfl (by rw [sl_1 (q_is_cat f0 (Or.inr rfl)), sl_1 (q_is_cat f1 (Or.inr rfl)), sl_0]; decide) ?_
  rw [la_1 (q_is_cat f0 (Or.inr rfl)), la_1 (q_is_cat f1 (Or.inr rfl)), la_0]
  obtain ⟨L, hL⟩ : ∃ L : QL, L = [(0, v0), (0 + 1, v1)] := ⟨_, rfl⟩
  rw [← hL]
  have l0 : q_lo L 0 = some v0 := by rw [hL]; rfl
  have l1 : q_lo L 1 = some v1 := by rw [hL]; rfl
  have hQ : Ext m0 rm → ∀ o S1, Rp S1 rm → q_out 9 o rz → (Cr 9 m0 rm rz) o S1 := fun a o S1 b e => ⟨b, a, e⟩
  unfold fm_X11_restoreWork at h
  refine go_aload_n (n := 1) (by decide +kernel) l1 f1 ?_
  obtain ⟨g_3, h⟩ := gd_s h
  obtain ⟨x_5, e_6, h⟩ := lx_s h
  refine go_getf (x := 195) (ci := 7) (kf := 16) (fin := 2) (t := 2) (by decide +kernel) (by decide +kernel) (by decide +kernel) R f1 g_3 fun v_1 f_2 => ?_
  have f_4 := q_is_eq f_2 e_6
  refine go_astore_n (n := 2) (by decide +kernel) (by decide +kernel) f_4 fun L_7 l_8 kp_9 => ?_
  have l_10 := kp_9 0 _ l0 (by decide) (Or.inl (by decide))
  have l_11 := kp_9 1 _ l1 (by decide) (Or.inr (q_is_cat f1 (Or.inr rfl)))
  refine go_aload_n (n := 2) (by decide +kernel) l_8 f_4 ?_
  obtain ⟨g_14, h⟩ := gd_s h
  obtain ⟨x_16, e_17, h⟩ := lx_s h
  refine go_getf (x := 199) (ci := 3) (kf := 1) (fin := 0) (t := 0) (by decide +kernel) (by decide +kernel) (by decide +kernel) R f_4 g_14 fun v_12 f_13 => ?_
  have f_15 := q_is_eq f_13 e_17
  refine go_istore_n (n := 3) (by decide +kernel) (by decide +kernel) f_15 fun L_18 l_19 kp_20 => ?_
  have l_21 := kp_20 0 _ l_10 (by decide) (Or.inl (by decide))
  have l_22 := kp_20 1 _ l_11 (by decide) (Or.inl (by decide))
  have l_23 := kp_20 2 _ l_8 (by decide) (Or.inr (q_is_cat f_4 (Or.inr rfl)))
  refine go_iconst (n := 0) (z := 0) (by decide +kernel) (by decide) fun v_24 f_25 => ?_
  refine go_istore (n := 4) (by decide +kernel) (by decide +kernel) f_25 fun L_26 l_27 kp_28 => ?_
  have l_29 := kp_28 0 _ l_21 (by decide) (Or.inl (by decide))
  have l_30 := kp_28 1 _ l_22 (by decide) (Or.inl (by decide))
  have l_31 := kp_28 2 _ l_23 (by decide) (Or.inl (by decide))
  have l_32 := kp_28 3 _ l_19 (by decide) (Or.inr (q_is_cat f_15 (Or.inl rfl)))
  refine ol_X11_restoreWork_13 hd   hQ BIG (Ext.rf _) h R l_29 f0 l_30 f1 l_31 f_4 l_32 f_15 l_27 f_25
noncomputable def fm_X11_setBack (p1 p2 : Int) (m0 : MM) : Option ((Int ⊕ Nat) × MM) := bx (fm_X11_runAt p1 m0) (fun q_10 m_3 => some (.inr q_10, m_3)) fun x_2 m_3 =>
gd (okc m_3 x_2 7) <| lx (m_3 x_2 16) fun x_22 =>
gd (okc m_3 x_22 3) <| bp (fm_X2_taskAt x_22 p2 m_3) fun x_26 =>
if x_26 < 0 then
some (.inr 0, mthr m_3)
else
bp (fm_X6_isAlive x_2 m_3) fun x_41 =>
if x_41 = 0 then
some (.inr 2, mthr m_3)
else
bp (fm_Jx4a65c_size_8abf5 7 m_3) fun x_54 =>
if x_54 < 30 then
lx (m_3 x_2 1) fun x_68 =>
lx (m_3 x_2 2) fun x_73 =>
lx (m_3 x_2 3) fun x_78 =>
lx (m_3 x_2 4) fun x_83 =>
lx (m_3 x_2 5) fun x_88 =>
bd (fm_X11_addRun x_68 x_73 x_78 x_83 x_88 m_3) fun x_91 m_92 =>
up m_92 x_2 6 5 fun m_109 =>
gd (okc m_109 x_91 7) <| lx (m_109 x_91 16) fun x_119 =>
lx (m_109 x_2 16) fun x_125 =>
gd (okc m_109 x_119 3) <| bd (fm_X2_becomeFirst x_119 x_125 (w32 (x_26 + 1)) m_109) fun x_133 m_134 =>
bd (fm_X11_endWork x_2 m_134) fun x_143 m_144 =>
lx (m_144 x_2 0) fun x_156 =>
bd (fm_X11_partFromChildren x_156 0 m_144) fun x_161 m_162 =>
bd (fm_X11_restoreWork x_91 m_162) fun x_171 m_172 =>
lx (m_172 x_2 16) fun x_184 =>
bd (fm_X11_sendSignals x_91 x_184 (w32 (x_26 + 1)) m_172) fun x_191 m_192 =>
lx (m_192 x_91 0) fun x_204 =>
some (.inl x_204, m_192)
else
some (.inr 2, mthr m_3)
set_option maxHeartbeats 4000000 in
theorem om_X11_setBack {xs : List Int32} {d : Nat} {S : QS} {m0 : MM} {p1 p2 : Int} {v0 : Value} {v1 : Value} {v2 : Value} {rr : Int ⊕ Nat} {rm : MM}
  (hd : 11 ≤ d) (R : Rp S m0) (f0 : q_is 2 v0 4) (f1 : q_is 0 v1 p1) (f2 : q_is 0 v2 p2)
  (h : fm_X11_setBack p1 p2 m0 = some (rr, rm)) : Mt xs d 127 [v0, v1, v2] S (Cx 0 m0 rm rr) := by
  obtain ⟨d, rfl⟩ : ∃ e, d = e + 1 := ⟨d - 1, by omega⟩
  have hd : 10 ≤ d := Nat.le_of_succ_le_succ hd
  refine Mt.of (M := qM_X11_setBack) rfl (by rw [sl_1 (q_is_cat f0 (Or.inr rfl)), sl_1 (q_is_cat f1 (Or.inl rfl)), sl_1 (q_is_cat f2 (Or.inl rfl)), sl_0]; decide) ?_
  rw [la_1 (q_is_cat f0 (Or.inr rfl)), la_1 (q_is_cat f1 (Or.inl rfl)), la_1 (q_is_cat f2 (Or.inl rfl)), la_0]
  obtain ⟨L, hL⟩ : ∃ L : QL, L = [(0, v0), (0 + 1, v1), (0 + 1 + 1, v2)] := ⟨_, rfl⟩
  rw [← hL]
  have l0 : q_lo L 0 = some v0 := by rw [hL]; rfl
  have l1 : q_lo L 1 = some v1 := by rw [hL]; rfl
  have l2 : q_lo L 2 = some v2 := by rw [hL]; rfl
  have hQ : Ext m0 rm → ∀ o S1, Rp S1 rm → q_oux 0 o rr → (Cx 0 m0 rm rr) o S1 := fun a o S1 b e => ⟨b, a, e⟩
  unfold fm_X11_setBack at h
  refine go_aload_n (n := 0) (by decide +kernel) l0 f0 ?_
  refine go_iload_n (n := 1) (by decide +kernel) l1 f1 ?_
  obtain ⟨rr5, m_3, hc_1, h⟩ := bx_s h
  rcases h with ⟨q_10, rfl, h⟩ | ⟨x_2, rfl, h⟩
  · cases h
    exact go_callV (x := 185) (mi := 139) (n := 1) (ci := 12) (as := [v1]) (rest := []) (by decide +kernel) (by decide +kernel) rfl rfl (q_sum8 _ (Nat.le_of_ble_eq_true rfl)) R f0 (fx_k (c := 12) R (by decide +kernel)) (om_X11_runAt (Nat.le_trans (by decide) hd) R f0 f1 hc_1) (fun _ _ qq => kx_lx qq) (fun _ _ qq => by
      obtain ⟨rfl, Rq, Eq⟩ := kx_e qq
      exact Or.inl ⟨rfl, hQ Eq _ _ Rq rfl⟩)
  refine go_callV (x := 185) (mi := 139) (n := 1) (ci := 12) (as := [v1]) (rest := []) (by decide +kernel) (by decide +kernel) rfl rfl (q_sum8 _ (Nat.le_of_ble_eq_true rfl)) R f0 (fx_k (c := 12) R (by decide +kernel)) (om_X11_runAt (Nat.le_trans (by decide) hd) R f0 f1 hc_1) (fun _ S_6 q_9 => ?_) (fun _ _ qq => kr_x (kx_l qq))
  have q_9 := kx_l q_9
  refine kr_z (by decide) q_9 fun v_4 f_5 R_7 E_8 => ?_
  have E_12 := E_8
  refine go_astore_n (n := 3) (by decide +kernel) (by decide +kernel) f_5 fun L_13 l_14 kp_15 => ?_
  have l_16 := kp_15 0 _ l0 (by decide) (Or.inl (by decide))
  have l_17 := kp_15 2 _ l2 (by decide) (Or.inr (q_is_cat f2 (Or.inl rfl)))
  refine go_aload_n (n := 3) (by decide +kernel) l_14 f_5 ?_
  obtain ⟨g_20, h⟩ := gd_s h
  obtain ⟨x_22, e_23, h⟩ := lx_s h
  refine go_getf (x := 195) (ci := 7) (kf := 16) (fin := 2) (t := 2) (by decide +kernel) (by decide +kernel) (by decide +kernel) R_7 f_5 g_20 fun v_18 f_19 => ?_
  have f_21 := q_is_eq f_19 e_23
  refine go_iload_n (n := 2) (by decide +kernel) l_17 f2 ?_
  obtain ⟨g_24, h⟩ := gd_s h
  obtain ⟨x_26, hc_25, h⟩ := bp_s h
  refine go_callV (x := 407) (mi := 24) (n := 1) (ci := 3) (as := [v2]) (rest := []) (by decide +kernel) (by decide +kernel) rfl rfl (q_sum8 _ (Nat.le_of_ble_eq_true rfl)) R_7 f_21 g_24 (om_X2_taskAt (Nat.le_trans (by decide) hd) R_7 g_24 f_21 f2 hc_25) (fun _ S_30 q_33 => ?_) (fun _ _ qq => kr_x qq)
  refine kr_z (by decide) q_33 fun v_28 f_29 R_31 E_32 => ?_
  refine go_istore (n := 4) (by decide +kernel) (by decide +kernel) f_29 fun L_34 l_35 kp_36 => ?_
  have l_37 := kp_36 0 _ l_16 (by decide) (Or.inl (by decide))
  have l_38 := kp_36 3 _ l_14 (by decide) (Or.inr (q_is_cat f_5 (Or.inr rfl)))
  refine go_iload (n := 4) (by decide +kernel) l_35 f_29 ?_
  refine go_if (c := .ge) (o := 14) (t := 32) (P := ¬ (x_26 < 0)) (by decide +kernel) (by decide +kernel) f_29 (Int.not_lt.symm) (fun hp_39 => ?_) (fun hp_39 => ?_)
  · have h := it_f hp_39 h
    refine go_aload_n (n := 3) (by decide +kernel) l_38 f_5 ?_
    obtain ⟨x_41, hc_40, h⟩ := bp_s h
    refine go_callV (x := 192) (mi := 66) (n := 0) (ci := 7) (as := []) (rest := []) (by decide +kernel) (by decide +kernel) rfl rfl (q_sum8 _ (Nat.le_of_ble_eq_true rfl)) R_31 f_5 g_20 (om_X6_isAlive (Nat.le_trans (by decide) hd) R_31 g_20 f_5 hc_40) (fun _ S_45 q_48 => ?_) (fun _ _ qq => kr_x qq)
    refine kr_z (by decide) q_48 fun v_43 f_44 R_46 E_47 => ?_
    refine go_if (c := .eq) (o := 15) (t := 51) (P := x_41 = 0) (by decide +kernel) (by decide +kernel) f_44 (Iff.rfl) (fun hp_49 => ?_) (fun hp_49 => ?_)
    · have h := it_t hp_49 h
      cases h
      exact go_thr (x := 111) (e := 2) (ic := 115) (b := 0) (by decide +kernel) (by decide +kernel) (by decide +kernel) R_46 rfl fun Sq Rq Eq => hQ (Ext.tr E_12 Eq) _ _ Rq rfl
    · have h := it_f hp_49 h
      refine go_aload_n (n := 0) (by decide +kernel) l_37 f0 ?_
      refine go_getf (x := 24) (ci := 12) (kf := 2) (fin := 1) (t := 2) (by decide +kernel) (by decide +kernel) (by decide +kernel) R_46 f0 (fx_k (c := 12) R_46 (by decide +kernel)) fun v_50 f_51 => ?_
      have f_52 := q_is_eq (b := 7) f_51 (fx_v R_46 (by decide +kernel)).symm
      obtain ⟨x_54, hc_53, h⟩ := bp_s h
      refine go_callV (x := 127) (mi := 326) (n := 0) (ci := 0) (as := []) (rest := []) (by decide +kernel) (by decide +kernel) rfl rfl (q_sum8 _ (Nat.le_of_ble_eq_true rfl)) R_46 f_52 (fx_k (c := 0) R_46 (by decide +kernel)) (om_Jx4a65c_size_8abf5 (Nat.le_trans (by decide) hd) R_46 (fx_k (c := 0) R_46 (by decide +kernel)) f_52 hc_53) (fun _ S_58 q_61 => ?_) (fun _ _ qq => kr_x qq)
      refine kr_z (by decide) q_61 fun v_56 f_57 R_59 E_60 => ?_
      refine go_bipush (n := 30) (z := 30) (by decide +kernel) (by decide) fun v_62 f_63 => ?_
      refine go_icmp (c := .lt) (o := 14) (t := 62) (P := x_54 < 30) (by decide +kernel) (by decide +kernel) f_57 f_63 (Iff.rfl) (fun hp_64 => ?_) (fun hp_64 => ?_)
      · have h := it_t hp_64 h
        refine go_aload_n (n := 0) (by decide +kernel) l_37 f0 ?_
        refine go_aload_n (n := 3) (by decide +kernel) l_38 f_5 ?_
        obtain ⟨x_68, e_69, h⟩ := lx_s h
        refine go_getf (x := 404) (ci := 7) (kf := 1) (fin := 2) (t := 0) (by decide +kernel) (by decide +kernel) (by decide +kernel) R_59 f_5 g_20 fun v_65 f_66 => ?_
        have f_67 := q_is_eq f_66 e_69
        refine go_aload_n (n := 3) (by decide +kernel) l_38 f_5 ?_
        obtain ⟨x_73, e_74, h⟩ := lx_s h
        refine go_getf (x := 283) (ci := 7) (kf := 2) (fin := 2) (t := 0) (by decide +kernel) (by decide +kernel) (by decide +kernel) R_59 f_5 g_20 fun v_70 f_71 => ?_
        have f_72 := q_is_eq f_71 e_74
        refine go_aload_n (n := 3) (by decide +kernel) l_38 f_5 ?_
        obtain ⟨x_78, e_79, h⟩ := lx_s h
        refine go_getf (x := 213) (ci := 7) (kf := 3) (fin := 0) (t := 0) (by decide +kernel) (by decide +kernel) (by decide +kernel) R_59 f_5 g_20 fun v_75 f_76 => ?_
        have f_77 := q_is_eq f_76 e_79
        refine go_aload_n (n := 3) (by decide +kernel) l_38 f_5 ?_
        obtain ⟨x_83, e_84, h⟩ := lx_s h
        refine go_getf (x := 414) (ci := 7) (kf := 4) (fin := 0) (t := 0) (by decide +kernel) (by decide +kernel) (by decide +kernel) R_59 f_5 g_20 fun v_80 f_81 => ?_
        have f_82 := q_is_eq f_81 e_84
        refine go_aload_n (n := 3) (by decide +kernel) l_38 f_5 ?_
        obtain ⟨x_88, e_89, h⟩ := lx_s h
        refine go_getf (x := 417) (ci := 7) (kf := 5) (fin := 2) (t := 0) (by decide +kernel) (by decide +kernel) (by decide +kernel) R_59 f_5 g_20 fun v_85 f_86 => ?_
        have f_87 := q_is_eq f_86 e_89
        obtain ⟨x_91, m_92, hc_90, h⟩ := bd_s h
        refine go_callV (x := 420) (mi := 150) (n := 5) (ci := 12) (as := [v_65, v_70, v_75, v_80, v_85]) (rest := []) (by decide +kernel) (by decide +kernel) rfl rfl (q_sum8 _ (Nat.le_of_ble_eq_true rfl)) R_59 f0 (fx_k (c := 12) R_59 (by decide +kernel)) (om_X11_addRun (Nat.le_trans (by decide) hd) R_59 f0 f_67 f_72 f_77 f_82 f_87 hc_90) (fun _ S_95 q_98 => ?_) (fun _ _ qq => kr_x qq)
        refine kr_z (by decide) q_98 fun v_93 f_94 R_96 E_97 => ?_
        have E_99 := Ext.tr E_12 E_97
        refine go_astore (n := 5) (by decide +kernel) (by decide +kernel) f_94 fun L_100 l_101 kp_102 => ?_
        have l_103 := kp_102 0 _ l_37 (by decide) (Or.inl (by decide))
        have l_104 := kp_102 3 _ l_38 (by decide) (Or.inl (by decide))
        have l_105 := kp_102 4 _ l_35 (by decide) (Or.inr (q_is_cat f_29 (Or.inl rfl)))
        refine go_aload_n (n := 3) (by decide +kernel) l_104 f_5 ?_
        refine go_iconst (n := 5) (z := 5) (by decide +kernel) (by decide) fun v_106 f_107 => ?_
        have g_108 := Ext.ok E_97 g_20
        obtain ⟨m_109, e_110, h⟩ := up_s h
        refine go_putf (x := 208) (ci := 7) (kf := 6) (fin := 0) (zt := 0) (by decide +kernel) (by decide +kernel) (by decide) (by decide +kernel) (by decide) (Or.inl rfl) R_96 f_5 f_107 (fun hq => absurd hq (by decide)) g_108 e_110 (fx_f (j := 6) R_96.2 g_108 (by decide +kernel)) fun S_111 R_112 E_113 => ?_
        have E_114 := Ext.tr E_99 E_113
        refine go_aload (n := 5) (by decide +kernel) l_101 f_94 ?_
        obtain ⟨g_117, h⟩ := gd_s h
        obtain ⟨x_119, e_120, h⟩ := lx_s h
        refine go_getf (x := 195) (ci := 7) (kf := 16) (fin := 2) (t := 2) (by decide +kernel) (by decide +kernel) (by decide +kernel) R_112 f_94 g_117 fun v_115 f_116 => ?_
        have f_118 := q_is_eq f_116 e_120
        refine go_aload_n (n := 3) (by decide +kernel) l_104 f_5 ?_
        have g_123 := Ext.ok E_113 g_108
        obtain ⟨x_125, e_126, h⟩ := lx_s h
        refine go_getf (x := 195) (ci := 7) (kf := 16) (fin := 2) (t := 2) (by decide +kernel) (by decide +kernel) (by decide +kernel) R_112 f_5 g_123 fun v_121 f_122 => ?_
        have f_124 := q_is_eq f_122 e_126
        refine go_iload (n := 4) (by decide +kernel) l_105 f_29 ?_
        refine go_iconst (n := 1) (z := 1) (by decide +kernel) (by decide) fun v_127 f_128 => ?_
        refine go_iadd (by decide +kernel) f_29 f_128 fun v_129 f_130 => ?_
        obtain ⟨g_131, h⟩ := gd_s h
        obtain ⟨x_133, m_134, hc_132, h⟩ := bd_s h
        refine go_callV (x := 423) (mi := 17) (n := 2) (ci := 3) (as := [v_121, v_129]) (rest := []) (by decide +kernel) (by decide +kernel) rfl rfl (q_sum8 _ (Nat.le_of_ble_eq_true rfl)) R_112 f_118 g_131 (om_X2_becomeFirst (Nat.le_trans (by decide) hd) R_112 g_131 f_118 f_124 f_130 hc_132) (fun _ S_137 q_140 => ?_) (fun _ _ qq => kr_x qq)
        refine kr_v q_140 fun R_138 E_139 => ?_
        have E_141 := Ext.tr E_114 E_139
        refine go_aload_n (n := 0) (by decide +kernel) l_103 f0 ?_
        refine go_aload_n (n := 3) (by decide +kernel) l_104 f_5 ?_
        obtain ⟨x_143, m_144, hc_142, h⟩ := bd_s h
        refine go_callV (x := 427) (mi := 157) (n := 1) (ci := 12) (as := [v_4]) (rest := []) (by decide +kernel) (by decide +kernel) rfl rfl (q_sum8 _ (Nat.le_of_ble_eq_true rfl)) R_138 f0 (fx_k (c := 12) R_138 (by decide +kernel)) (om_X11_endWork (Nat.le_trans (by decide) hd) R_138 f0 f_5 hc_142) (fun _ S_147 q_150 => ?_) (fun _ _ qq => kr_x qq)
        refine kr_v q_150 fun R_148 E_149 => ?_
        have E_151 := Ext.tr E_141 E_149
        refine go_aload_n (n := 0) (by decide +kernel) l_103 f0 ?_
        refine go_aload_n (n := 3) (by decide +kernel) l_104 f_5 ?_
        have g_154 := Ext.ok (Ext.tr E_139 E_149) g_123
        obtain ⟨x_156, e_157, h⟩ := lx_s h
        refine go_getf (x := 180) (ci := 7) (kf := 0) (fin := 2) (t := 0) (by decide +kernel) (by decide +kernel) (by decide +kernel) R_148 f_5 g_154 fun v_152 f_153 => ?_
        have f_155 := q_is_eq f_153 e_157
        refine go_iconst (n := 0) (z := 0) (by decide +kernel) (by decide) fun v_158 f_159 => ?_
        obtain ⟨x_161, m_162, hc_160, h⟩ := bd_s h
        refine go_callV (x := 430) (mi := 158) (n := 2) (ci := 12) (as := [v_152, v_158]) (rest := []) (by decide +kernel) (by decide +kernel) rfl rfl (q_sum8 _ (Nat.le_of_ble_eq_true rfl)) R_148 f0 (fx_k (c := 12) R_148 (by decide +kernel)) (om_X11_partFromChildren (Nat.le_trans (by decide) hd) R_148 f0 f_155 f_159 hc_160) (fun _ S_165 q_168 => ?_) (fun _ _ qq => kr_x qq)
        refine kr_v q_168 fun R_166 E_167 => ?_
        have E_169 := Ext.tr E_151 E_167
        refine go_aload_n (n := 0) (by decide +kernel) l_103 f0 ?_
        refine go_aload (n := 5) (by decide +kernel) l_101 f_94 ?_
        obtain ⟨x_171, m_172, hc_170, h⟩ := bd_s h
        refine go_callV (x := 434) (mi := 174) (n := 1) (ci := 12) (as := [v_93]) (rest := []) (by decide +kernel) (by decide +kernel) rfl rfl (q_sum8 _ (Nat.le_of_ble_eq_true rfl)) R_166 f0 (fx_k (c := 12) R_166 (by decide +kernel)) (om_X11_restoreWork (Nat.le_trans (by decide) hd) R_166 f0 f_94 hc_170) (fun _ S_175 q_178 => ?_) (fun _ _ qq => kr_x qq)
        refine kr_v q_178 fun R_176 E_177 => ?_
        have E_179 := Ext.tr E_169 E_177
        refine go_aload_n (n := 0) (by decide +kernel) l_103 f0 ?_
        refine go_aload (n := 5) (by decide +kernel) l_101 f_94 ?_
        refine go_aload_n (n := 3) (by decide +kernel) l_104 f_5 ?_
        have g_182 := Ext.ok (Ext.tr E_167 E_177) g_154
        obtain ⟨x_184, e_185, h⟩ := lx_s h
        refine go_getf (x := 195) (ci := 7) (kf := 16) (fin := 2) (t := 2) (by decide +kernel) (by decide +kernel) (by decide +kernel) R_176 f_5 g_182 fun v_180 f_181 => ?_
        have f_183 := q_is_eq f_181 e_185
        refine go_iload (n := 4) (by decide +kernel) l_105 f_29 ?_
        refine go_iconst (n := 1) (z := 1) (by decide +kernel) (by decide) fun v_186 f_187 => ?_
        refine go_iadd (by decide +kernel) f_29 f_187 fun v_188 f_189 => ?_
        obtain ⟨x_191, m_192, hc_190, h⟩ := bd_s h
        refine go_callV (x := 437) (mi := 172) (n := 3) (ci := 12) (as := [v_93, v_180, v_188]) (rest := []) (by decide +kernel) (by decide +kernel) rfl rfl (q_sum8 _ (Nat.le_of_ble_eq_true rfl)) R_176 f0 (fx_k (c := 12) R_176 (by decide +kernel)) (om_X11_sendSignals (Nat.le_trans (by decide) hd) R_176 f0 f_94 f_183 f_189 hc_190) (fun _ S_195 q_198 => ?_) (fun _ _ qq => kr_x qq)
        refine kr_v q_198 fun R_196 E_197 => ?_
        have E_199 := Ext.tr E_179 E_197
        refine go_aload (n := 5) (by decide +kernel) l_101 f_94 ?_
        have g_202 := Ext.ok (Ext.tr (Ext.tr (Ext.tr (Ext.tr E_139 E_149) E_167) E_177) E_197) g_117
        obtain ⟨x_204, e_205, h⟩ := lx_s h
        refine go_getf (x := 180) (ci := 7) (kf := 0) (fin := 2) (t := 0) (by decide +kernel) (by decide +kernel) (by decide +kernel) R_196 f_94 g_202 fun v_200 f_201 => ?_
        have f_203 := q_is_eq f_201 e_205
        cases h
        exact go_iret (by decide +kernel) rfl (Or.inl rfl) f_203 (hQ E_199 _ _ R_196 (q_out_v (by decide) f_203))
      · have h := it_f hp_64 h
        cases h
        exact go_thr (x := 111) (e := 2) (ic := 115) (b := 0) (by decide +kernel) (by decide +kernel) (by decide +kernel) R_59 rfl fun Sq Rq Eq => hQ (Ext.tr E_12 Eq) _ _ Rq rfl
  · have h := it_n hp_39 h
    cases h
    exact go_thr (x := 255) (e := 0) (ic := 259) (b := 0) (by decide +kernel) (by decide +kernel) (by decide +kernel) R_31 rfl fun Sq Rq Eq => hQ (Ext.tr E_12 Eq) _ _ Rq rfl
end DF21
