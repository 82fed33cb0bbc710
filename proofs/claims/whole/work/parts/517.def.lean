/-! Methods as functions (written by wip/whole/dec.py), 17: X11_dealWithChildren, X11_sendSignals, X11_goOnAsNew, X11_carryOut. -/
section DF17
noncomputable def fl_X11_dealWithChildren_2 (rec : Int → Int → Int → Int → MM → Option (Int × MM)) (y1 y2 : Int) : Nat → Int → MM → Option (Int × MM)
  | 0, _, _ => none
  | n + 1, y3, m => bp (fm_Jx4a65c_size_8abf5 7 m) fun x_13 =>
if y3 < x_13 then
bp (fm_Jx4a65c_get_915e3 7 y3 m) fun x_26 =>
gd (okc m x_26 7) <| lx (m x_26 4) fun x_45 =>
gd (okc m y1 7) <| lx (m y1 0) fun x_51 =>
if x_45 = x_51 then
lx (m x_26 6) fun x_68 =>
if x_68 = 0 then
bp (fm_X11_typeOf x_26 m) fun x_72 =>
gd (okc m x_72 11) <| lx (m x_72 2) fun x_84 =>
if x_84 = 1 then
bd (fm_X11_cancelRun x_26 m) fun x_155 m_156 =>
lx (w32 (y3 + 1)) fun x_169 =>
fl_X11_dealWithChildren_2 rec y1 y2 n x_169 m_156
else
if x_84 = 2 then
if y2 < 40 then
bd (rec x_26 5 0 (w32 (y2 + 1)) m) fun x_134 m_135 =>
lx (w32 (y3 + 1)) fun x_148 =>
fl_X11_dealWithChildren_2 rec y1 y2 n x_148 m_135
else
lx (w32 (y3 + 1)) fun x_119 =>
fl_X11_dealWithChildren_2 rec y1 y2 n x_119 m
else
lx (w32 (y3 + 1)) fun x_105 =>
fl_X11_dealWithChildren_2 rec y1 y2 n x_105 m
else
lx (w32 (y3 + 1)) fun x_180 =>
fl_X11_dealWithChildren_2 rec y1 y2 n x_180 m
else
lx (w32 (y3 + 1)) fun x_59 =>
fl_X11_dealWithChildren_2 rec y1 y2 n x_59 m
else
some (0, m)
set_option maxHeartbeats 4000000 in
theorem ol_X11_dealWithChildren_2 {xs : List Int32} {d : Nat} {Q : QO → QS → Prop} {mb : MM} {y1 y2 : Int} {rec : Int → Int → Int → Int → MM → Option (Int × MM)} {rz : Int} {rm : MM}
  (hd : 4 ≤ d) (hrec : ∀ {S : QS} {m : MM} {b1 b2 b3 b4 : Int} {a0 : Value} {a1 : Value} {a2 : Value} {a3 : Value} {a4 : Value} {rz : Int} {rm : MM}, Rp S m → q_is 2 a0 4 → q_is 2 a1 b1 → q_is 0 a2 b2 → q_is 0 a3 b3 → q_is 0 a4 b4 → rec b1 b2 b3 b4 m = some (rz, rm) → Mt xs d 154 [a0, a1, a2, a3, a4] S (Cr 9 m rm rz))
  (hQ : Ext mb rm → ∀ o S1, Rp S1 rm → q_out 9 o rz → Q o S1) :
  ∀ (n : Nat) {m : MM} {S : QS} {L : QL} {y3 : Int} {v0 : Value} {v1 : Value} {v2 : Value} {v3 : Value} , Ext mb m → fl_X11_dealWithChildren_2 rec y1 y2 n y3 m = some (rz, rm) → Rp S m → q_lo L 0 = some v0 → q_is 2 v0 4 → q_lo L 1 = some v1 → q_is 2 v1 y1 → q_lo L 2 = some v2 → q_is 0 v2 y2 → q_lo L 3 = some v3 → q_is 0 v3 y3 → Go xs d qM_X11_dealWithChildren 2 L [] S Q := by
  intro n
  induction n with
  | zero => intro m S L y3 v0 v1 v2 v3; intro E h R l0 f0 l1 f1 l2 f2 l3 f3; cases h
  | succ n ih0 =>
    intro m S L y3 v0 v1 v2 v3; intro E h R l0 f0 l1 f1 l2 f2 l3 f3
    have ih : ∀ mq : MM, Ext mb mq → ∀ {z3 : Int} {Sq : QS} {Lq : QL} {u0 : Value} {u1 : Value} {u2 : Value} {u3 : Value}, fl_X11_dealWithChildren_2 rec y1 y2 n z3 mq = some (rz, rm) → Rp Sq mq → q_lo Lq 0 = some u0 → q_is 2 u0 4 → q_lo Lq 1 = some u1 → q_is 2 u1 y1 → q_lo Lq 2 = some u2 → q_is 0 u2 y2 → q_lo Lq 3 = some u3 → q_is 0 u3 z3 → Go xs d qM_X11_dealWithChildren 2 Lq [] Sq Q := fun mq b => by intros; exact ih0 b ‹_› ‹_› ‹_› ‹_› ‹_› ‹_› ‹_› ‹_› ‹_› ‹_›
    unfold fl_X11_dealWithChildren_2 at h
    refine go_iload_n (n := 3) (by decide +kernel) l3 f3 ?_
    refine go_aload_n (n := 0) (by decide +kernel) l0 f0 ?_
    refine go_getf (x := 24) (ci := 12) (kf := 2) (fin := 1) (t := 2) (by decide +kernel) (by decide +kernel) (by decide +kernel) R f0 (fx_k (c := 12) R (by decide +kernel)) fun v_9 f_10 => ?_
    have f_11 := q_is_eq (b := 7) f_10 (fx_v R (by decide +kernel)).symm
    obtain ⟨x_13, hc_12, h⟩ := bp_s h
    refine go_callV (x := 127) (mi := 326) (n := 0) (ci := 0) (as := []) (rest := [v3]) (by decide +kernel) (by decide +kernel) rfl rfl (q_sum8 _ (Nat.le_of_ble_eq_true rfl)) R f_11 (fx_k (c := 0) R (by decide +kernel)) (om_Jx4a65c_size_8abf5 (Nat.le_trans (by decide) hd) R (fx_k (c := 0) R (by decide +kernel)) f_11 hc_12) (fun _ S_17 q_20 => ?_) (fun _ _ qq => kr_x qq)
    refine kr_z (by decide) q_20 fun v_15 f_16 R_18 E_19 => ?_
    refine go_icmp (c := .ge) (o := 95) (t := 105) (P := ¬ (y3 < x_13)) (by decide +kernel) (by decide +kernel) f3 f_16 (Int.not_lt.symm) (fun hp_21 => ?_) (fun hp_21 => ?_)
    · have h := it_f hp_21 h
      cases h
      exact go_vret (by decide +kernel) rfl (hQ E _ _ R_18 q_out_n)
    · have h := it_n hp_21 h
      refine go_aload_n (n := 0) (by decide +kernel) l0 f0 ?_
      refine go_getf (x := 24) (ci := 12) (kf := 2) (fin := 1) (t := 2) (by decide +kernel) (by decide +kernel) (by decide +kernel) R_18 f0 (fx_k (c := 12) R_18 (by decide +kernel)) fun v_22 f_23 => ?_
      have f_24 := q_is_eq (b := 7) f_23 (fx_v R_18 (by decide +kernel)).symm
      refine go_iload_n (n := 3) (by decide +kernel) l3 f3 ?_
      obtain ⟨x_26, hc_25, h⟩ := bp_s h
      refine go_callV (x := 305) (mi := 329) (n := 1) (ci := 0) (as := [v3]) (rest := []) (by decide +kernel) (by decide +kernel) rfl rfl (q_sum8 _ (Nat.le_of_ble_eq_true rfl)) R_18 f_24 (fx_k (c := 0) R_18 (by decide +kernel)) (om_Jx4a65c_get_915e3 (Nat.le_trans (by decide) hd) R_18 (fx_k (c := 0) R_18 (by decide +kernel)) f_24 f3 hc_25) (fun _ S_30 q_33 => ?_) (fun _ _ qq => kr_x qq)
      refine kr_z (by decide) q_33 fun v_28 f_29 R_31 E_32 => ?_
      obtain ⟨g_34, h⟩ := gd_s h
      refine go_cast (x := 181) (kd := 7) (a := 0) (b := 0) (by decide +kernel) (by decide +kernel) R_31 f_29 g_34 ?_
      refine go_astore (n := 4) (by decide +kernel) (by decide +kernel) f_29 fun L_35 l_36 kp_37 => ?_
      have l_38 := kp_37 0 _ l0 (by decide) (Or.inl (by decide))
      have l_39 := kp_37 1 _ l1 (by decide) (Or.inl (by decide))
      have l_40 := kp_37 2 _ l2 (by decide) (Or.inl (by decide))
      have l_41 := kp_37 3 _ l3 (by decide) (Or.inr (q_is_cat f3 (Or.inl rfl)))
      refine go_aload (n := 4) (by decide +kernel) l_36 f_29 ?_
      obtain ⟨x_45, e_46, h⟩ := lx_s h
      refine go_getf (x := 414) (ci := 7) (kf := 4) (fin := 0) (t := 0) (by decide +kernel) (by decide +kernel) (by decide +kernel) R_31 f_29 g_34 fun v_42 f_43 => ?_
      have f_44 := q_is_eq f_43 e_46
      refine go_aload_n (n := 1) (by decide +kernel) l_39 f1 ?_
      obtain ⟨g_49, h⟩ := gd_s h
      obtain ⟨x_51, e_52, h⟩ := lx_s h
      refine go_getf (x := 180) (ci := 7) (kf := 0) (fin := 2) (t := 0) (by decide +kernel) (by decide +kernel) (by decide +kernel) R_31 f1 g_49 fun v_47 f_48 => ?_
      have f_50 := q_is_eq f_48 e_52
      refine go_icmp (c := .ne) (o := 64) (t := 99) (P := ¬ (x_45 = x_51)) (by decide +kernel) (by decide +kernel) f_44 f_50 (Iff.rfl) (fun hp_53 => ?_) (fun hp_53 => ?_)
      · have h := it_f hp_53 h
        refine go_iinc (n := 3) (c := 1) (c' := 1) (by decide +kernel) (by decide +kernel) l_41 f3 (by decide) fun L_54 v_55 f_56 l_57 kp_58 => ?_
        obtain ⟨x_59, e_60, h⟩ := lx_s h
        have f_61 := q_is_eq f_56 e_60
        have l_62 := kp_58 0 _ l_38 (by decide) (Or.inl (by decide))
        have l_63 := kp_58 1 _ l_39 (by decide) (Or.inl (by decide))
        have l_64 := kp_58 2 _ l_40 (by decide) (Or.inr (q_is_cat f2 (Or.inl rfl)))
        refine go_goto (o := (-100)) (t := 2) (by decide +kernel) (by decide +kernel) ?_
        exact ih m E h R_31 l_62 f0 l_63 f1 l_64 f2 l_57 f_61
      · have h := it_n hp_53 h
        refine go_aload (n := 4) (by decide +kernel) l_36 f_29 ?_
        obtain ⟨x_68, e_69, h⟩ := lx_s h
        refine go_getf (x := 208) (ci := 7) (kf := 6) (fin := 0) (t := 0) (by decide +kernel) (by decide +kernel) (by decide +kernel) R_31 f_29 g_34 fun v_65 f_66 => ?_
        have f_67 := q_is_eq f_66 e_69
        refine go_if (c := .eq) (o := 6) (t := 49) (P := x_68 = 0) (by decide +kernel) (by decide +kernel) f_67 (Iff.rfl) (fun hp_70 => ?_) (fun hp_70 => ?_)
        · have h := it_t hp_70 h
          refine go_aload_n (n := 0) (by decide +kernel) l_38 f0 ?_
          refine go_aload (n := 4) (by decide +kernel) l_36 f_29 ?_
          obtain ⟨x_72, hc_71, h⟩ := bp_s h
          refine go_callV (x := 526) (mi := 148) (n := 1) (ci := 12) (as := [v_28]) (rest := []) (by decide +kernel) (by decide +kernel) rfl rfl (q_sum8 _ (Nat.le_of_ble_eq_true rfl)) R_31 f0 (fx_k (c := 12) R_31 (by decide +kernel)) (om_X11_typeOf (Nat.le_trans (by decide) hd) R_31 f0 f_29 hc_71) (fun _ S_76 q_79 => ?_) (fun _ _ qq => kr_x qq)
          refine kr_z (by decide) q_79 fun v_74 f_75 R_77 E_78 => ?_
          obtain ⟨g_82, h⟩ := gd_s h
          obtain ⟨x_84, e_85, h⟩ := lx_s h
          refine go_getf (x := 160) (ci := 11) (kf := 2) (fin := 0) (t := 0) (by decide +kernel) (by decide +kernel) (by decide +kernel) R_77 f_75 g_82 fun v_80 f_81 => ?_
          have f_83 := q_is_eq f_81 e_85
          refine go_istore (n := 5) (by decide +kernel) (by decide +kernel) f_83 fun L_86 l_87 kp_88 => ?_
          have l_89 := kp_88 0 _ l_38 (by decide) (Or.inl (by decide))
          have l_90 := kp_88 1 _ l_39 (by decide) (Or.inl (by decide))
          have l_91 := kp_88 2 _ l_40 (by decide) (Or.inl (by decide))
          have l_92 := kp_88 3 _ l_41 (by decide) (Or.inl (by decide))
          have l_93 := kp_88 4 _ l_36 (by decide) (Or.inr (q_is_cat f_29 (Or.inr rfl)))
          refine go_iload (n := 5) (by decide +kernel) l_87 f_83 ?_
          refine go_iconst (n := 1) (z := 1) (by decide +kernel) (by decide) fun v_94 f_95 => ?_
          refine go_icmp (c := .ne) (o := 13) (t := 76) (P := ¬ (x_84 = 1)) (by decide +kernel) (by decide +kernel) f_83 f_95 (Iff.rfl) (fun hp_96 => ?_) (fun hp_96 => ?_)
          · have h := it_f hp_96 h
            refine go_iload (n := 5) (by decide +kernel) l_87 f_83 ?_
            refine go_iconst (n := 2) (z := 2) (by decide +kernel) (by decide) fun v_97 f_98 => ?_
            refine go_icmp (c := .ne) (o := 20) (t := 99) (P := ¬ (x_84 = 2)) (by decide +kernel) (by decide +kernel) f_83 f_98 (Iff.rfl) (fun hp_99 => ?_) (fun hp_99 => ?_)
            · have h := it_f hp_99 h
              refine go_iinc (n := 3) (c := 1) (c' := 1) (by decide +kernel) (by decide +kernel) l_92 f3 (by decide) fun L_100 v_101 f_102 l_103 kp_104 => ?_
              obtain ⟨x_105, e_106, h⟩ := lx_s h
              have f_107 := q_is_eq f_102 e_106
              have l_108 := kp_104 0 _ l_89 (by decide) (Or.inl (by decide))
              have l_109 := kp_104 1 _ l_90 (by decide) (Or.inl (by decide))
              have l_110 := kp_104 2 _ l_91 (by decide) (Or.inr (q_is_cat f2 (Or.inl rfl)))
              refine go_goto (o := (-100)) (t := 2) (by decide +kernel) (by decide +kernel) ?_
              exact ih m E h R_77 l_108 f0 l_109 f1 l_110 f2 l_103 f_107
            · have h := it_n hp_99 h
              refine go_iload_n (n := 2) (by decide +kernel) l_91 f2 ?_
              refine go_bipush (n := 40) (z := 40) (by decide +kernel) (by decide) fun v_111 f_112 => ?_
              refine go_icmp (c := .ge) (o := 14) (t := 99) (P := ¬ (y2 < 40)) (by decide +kernel) (by decide +kernel) f2 f_112 (Int.not_lt.symm) (fun hp_113 => ?_) (fun hp_113 => ?_)
              · have h := it_f hp_113 h
                refine go_iinc (n := 3) (c := 1) (c' := 1) (by decide +kernel) (by decide +kernel) l_92 f3 (by decide) fun L_114 v_115 f_116 l_117 kp_118 => ?_
                obtain ⟨x_119, e_120, h⟩ := lx_s h
                have f_121 := q_is_eq f_116 e_120
                have l_122 := kp_118 0 _ l_89 (by decide) (Or.inl (by decide))
                have l_123 := kp_118 1 _ l_90 (by decide) (Or.inl (by decide))
                have l_124 := kp_118 2 _ l_91 (by decide) (Or.inr (q_is_cat f2 (Or.inl rfl)))
                refine go_goto (o := (-100)) (t := 2) (by decide +kernel) (by decide +kernel) ?_
                exact ih m E h R_77 l_122 f0 l_123 f1 l_124 f2 l_117 f_121
              · have h := it_n hp_113 h
                refine go_aload_n (n := 0) (by decide +kernel) l_89 f0 ?_
                refine go_aload (n := 4) (by decide +kernel) l_93 f_29 ?_
                refine go_iconst (n := 5) (z := 5) (by decide +kernel) (by decide) fun v_125 f_126 => ?_
                refine go_iconst (n := 0) (z := 0) (by decide +kernel) (by decide) fun v_127 f_128 => ?_
                refine go_iload_n (n := 2) (by decide +kernel) l_91 f2 ?_
                refine go_iconst (n := 1) (z := 1) (by decide +kernel) (by decide) fun v_129 f_130 => ?_
                refine go_iadd (by decide +kernel) f2 f_130 fun v_131 f_132 => ?_
                obtain ⟨x_134, m_135, hc_133, h⟩ := bd_s h
                refine go_callV (x := 458) (mi := 154) (n := 4) (ci := 12) (as := [v_28, v_125, v_127, v_131]) (rest := []) (by decide +kernel) (by decide +kernel) rfl rfl (q_sum8 _ (Nat.le_of_ble_eq_true rfl)) R_77 f0 (fx_k (c := 12) R_77 (by decide +kernel)) (hrec R_77 f0 f_29 f_126 f_128 f_132 hc_133) (fun _ S_138 q_141 => ?_) (fun _ _ qq => kr_x qq)
                refine kr_v q_141 fun R_139 E_140 => ?_
                have E_142 := Ext.tr E E_140
                refine go_iinc (n := 3) (c := 1) (c' := 1) (by decide +kernel) (by decide +kernel) l_92 f3 (by decide) fun L_143 v_144 f_145 l_146 kp_147 => ?_
                obtain ⟨x_148, e_149, h⟩ := lx_s h
                have f_150 := q_is_eq f_145 e_149
                have l_151 := kp_147 0 _ l_89 (by decide) (Or.inl (by decide))
                have l_152 := kp_147 1 _ l_90 (by decide) (Or.inl (by decide))
                have l_153 := kp_147 2 _ l_91 (by decide) (Or.inr (q_is_cat f2 (Or.inl rfl)))
                refine go_goto (o := (-100)) (t := 2) (by decide +kernel) (by decide +kernel) ?_
                exact ih m_135 E_142 h R_139 l_151 f0 l_152 f1 l_153 f2 l_146 f_150
          · have h := it_n hp_96 h
            refine go_aload_n (n := 0) (by decide +kernel) l_89 f0 ?_
            refine go_aload (n := 4) (by decide +kernel) l_93 f_29 ?_
            obtain ⟨x_155, m_156, hc_154, h⟩ := bd_s h
            refine go_callV (x := 242) (mi := 153) (n := 1) (ci := 12) (as := [v_28]) (rest := []) (by decide +kernel) (by decide +kernel) rfl rfl (q_sum8 _ (Nat.le_of_ble_eq_true rfl)) R_77 f0 (fx_k (c := 12) R_77 (by decide +kernel)) (om_X11_cancelRun (Nat.le_trans (by decide) hd) R_77 f0 f_29 hc_154) (fun _ S_159 q_162 => ?_) (fun _ _ qq => kr_x qq)
            refine kr_z (by decide) q_162 fun v_157 f_158 R_160 E_161 => ?_
            have E_163 := Ext.tr E E_161
            refine go_pop (by decide +kernel) f_158 (Or.inl rfl) ?_
            refine go_goto (o := 26) (t := 99) (by decide +kernel) (by decide +kernel) ?_
            refine go_iinc (n := 3) (c := 1) (c' := 1) (by decide +kernel) (by decide +kernel) l_92 f3 (by decide) fun L_164 v_165 f_166 l_167 kp_168 => ?_
            obtain ⟨x_169, e_170, h⟩ := lx_s h
            have f_171 := q_is_eq f_166 e_170
            have l_172 := kp_168 0 _ l_89 (by decide) (Or.inl (by decide))
            have l_173 := kp_168 1 _ l_90 (by decide) (Or.inl (by decide))
            have l_174 := kp_168 2 _ l_91 (by decide) (Or.inr (q_is_cat f2 (Or.inl rfl)))
            refine go_goto (o := (-100)) (t := 2) (by decide +kernel) (by decide +kernel) ?_
            exact ih m_156 E_163 h R_160 l_172 f0 l_173 f1 l_174 f2 l_167 f_171
        · have h := it_f hp_70 h
          refine go_goto (o := 53) (t := 99) (by decide +kernel) (by decide +kernel) ?_
          refine go_iinc (n := 3) (c := 1) (c' := 1) (by decide +kernel) (by decide +kernel) l_41 f3 (by decide) fun L_175 v_176 f_177 l_178 kp_179 => ?_
          obtain ⟨x_180, e_181, h⟩ := lx_s h
          have f_182 := q_is_eq f_177 e_181
          have l_183 := kp_179 0 _ l_38 (by decide) (Or.inl (by decide))
          have l_184 := kp_179 1 _ l_39 (by decide) (Or.inl (by decide))
          have l_185 := kp_179 2 _ l_40 (by decide) (Or.inr (q_is_cat f2 (Or.inl rfl)))
          refine go_goto (o := (-100)) (t := 2) (by decide +kernel) (by decide +kernel) ?_
          exact ih m E h R_31 l_183 f0 l_184 f1 l_185 f2 l_178 f_182
noncomputable def fb_X11_dealWithChildren (rec : Int → Int → Int → Int → MM → Option (Int × MM)) (p1 p2 : Int) (m0 : MM) : Option (Int × MM) := fl_X11_dealWithChildren_2 rec p1 p2  BIG 0 m0
set_option maxHeartbeats 4000000 in
theorem ob_X11_dealWithChildren {xs : List Int32} {d : Nat} {S : QS} {m0 : MM} {p1 p2 : Int} {v0 : Value} {v1 : Value} {v2 : Value} {rec : Int → Int → Int → Int → MM → Option (Int × MM)} {rz : Int} {rm : MM}
  (hd : 5 ≤ d) (hrec : ∀ {S : QS} {m : MM} {b1 b2 b3 b4 : Int} {a0 : Value} {a1 : Value} {a2 : Value} {a3 : Value} {a4 : Value} {rz : Int} {rm : MM}, Rp S m → q_is 2 a0 4 → q_is 2 a1 b1 → q_is 0 a2 b2 → q_is 0 a3 b3 → q_is 0 a4 b4 → rec b1 b2 b3 b4 m = some (rz, rm) → Mt xs (d - 1) 154 [a0, a1, a2, a3, a4] S (Cr 9 m rm rz)) (R : Rp S m0) (f0 : q_is 2 v0 4) (f1 : q_is 2 v1 p1) (f2 : q_is 0 v2 p2)
  (h : fb_X11_dealWithChildren rec p1 p2 m0 = some (rz, rm)) : Mt xs d 156 [v0, v1, v2] S (Cr 9 m0 rm rz) := by
  obtain ⟨d, rfl⟩ : ∃ e, d = e + 1 := ⟨d - 1, by omega⟩
  have hd : 4 ≤ d := Nat.le_of_succ_le_succ hd
  rw [Nat.add_sub_cancel] at hrec
  refine Mt.of (M := qM_X11_dealWithChildren) rfl (by rw [sl_1 (q_is_cat f0 (Or.inr rfl)), sl_1 (q_is_cat f1 (Or.inr rfl)), sl_1 (q_is_cat f2 (Or.inl rfl)), sl_0]; decide) ?_
  rw [la_1 (q_is_cat f0 (Or.inr rfl)), la_1 (q_is_cat f1 (Or.inr rfl)), la_1 (q_is_cat f2 (Or.inl rfl)), la_0]
  obtain ⟨L, hL⟩ : ∃ L : QL, L = [(0, v0), (0 + 1, v1), (0 + 1 + 1, v2)] := ⟨_, rfl⟩
  rw [← hL]
  have l0 : q_lo L 0 = some v0 := by rw [hL]; rfl
  have l1 : q_lo L 1 = some v1 := by rw [hL]; rfl
  have l2 : q_lo L 2 = some v2 := by rw [hL]; rfl
  have hQ : Ext m0 rm → ∀ o S1, Rp S1 rm → q_out 9 o rz → (Cr 9 m0 rm rz) o S1 := fun a o S1 b e => ⟨b, a, e⟩
  unfold fb_X11_dealWithChildren at h
  refine go_iconst (n := 0) (z := 0) (by decide +kernel) (by decide) fun v_1 f_2 => ?_
  refine go_istore_n (n := 3) (by decide +kernel) (by decide +kernel) f_2 fun L_3 l_4 kp_5 => ?_
  have l_6 := kp_5 0 _ l0 (by decide) (Or.inl (by decide))
  have l_7 := kp_5 1 _ l1 (by decide) (Or.inl (by decide))
  have l_8 := kp_5 2 _ l2 (by decide) (Or.inr (q_is_cat f2 (Or.inl rfl)))
  refine ol_X11_dealWithChildren_2 hd hrec   hQ BIG (Ext.rf _) h R l_6 f0 l_7 f1 l_8 f2 l_4 f_2
/-- closeRun, n deep at most -/
noncomputable def fm_X11_closeRun : Nat → Int → Int → Int → Int → MM → Option (Int × MM)
  | 0, _, _, _, _, _ => none
  | n + 1, p1, p2, p3, p4, m0 => fb_X11_closeRun (fun b1 b2 m => fb_X11_dealWithChildren (fun c1 c2 c3 c4 m => fm_X11_closeRun n c1 c2 c3 c4 m) b1 b2 m) p1 p2 p3 p4 m0
theorem om_X11_closeRun_n {xs : List Int32} : ∀ (n : Nat) {d : Nat} {S : QS} {m0 : MM} {p1 p2 p3 p4 : Int} {v0 v1 v2 v3 v4 : Value} {rz : Int} {rm : MM}, 20 + 2 * n ≤ d → Rp S m0 → q_is 2 v0 4 → q_is 2 v1 p1 → q_is 0 v2 p2 → q_is 0 v3 p3 → q_is 0 v4 p4 → fm_X11_closeRun n p1 p2 p3 p4 m0 = some (rz, rm) → Mt xs d 154 [v0, v1, v2, v3, v4] S (Cr 9 m0 rm rz) := by
  intro n
  induction n with
  | zero => intro d S m0 p1 p2 p3 p4 v0 v1 v2 v3 v4 rz rm hd R f0 f1 f2 f3 f4 h; cases h
  | succ n ih =>
    intro d S m0 p1 p2 p3 p4 v0 v1 v2 v3 v4 rz rm hd R f0 f1 f2 f3 f4 h
    exact ob_X11_closeRun (by omega) (fun R1 g0 g1 g2 h1 => ob_X11_dealWithChildren (by omega) (fun R2 k0 k1 k2 k3 k4 h2 => ih (by omega) R2 k0 k1 k2 k3 k4 h2) R1 g0 g1 g2 h1) R f0 f1 f2 f3 f4 h
theorem om_X11_closeRun {xs : List Int32} {d : Nat} {S : QS} {m0 : MM} {p1 p2 p3 p4 : Int} {v0 v1 v2 v3 v4 : Value} {rz : Int} {rm : MM} (hd : 150 ≤ d) (R : Rp S m0) (f0 : q_is 2 v0 4) (f1 : q_is 2 v1 p1) (f2 : q_is 0 v2 p2) (f3 : q_is 0 v3 p3) (f4 : q_is 0 v4 p4) (h : fm_X11_closeRun BIGR p1 p2 p3 p4 m0 = some (rz, rm)) : Mt xs d 154 [v0, v1, v2, v3, v4] S (Cr 9 m0 rm rz) :=
  om_X11_closeRun_n BIGR (by unfold BIGR; omega) R f0 f1 f2 f3 f4 h
noncomputable def fm_X11_dealWithChildren (p1 p2 : Int) (m0 : MM) : Option (Int × MM) := fb_X11_dealWithChildren (fun c1 c2 c3 c4 m => fm_X11_closeRun BIGR c1 c2 c3 c4 m) p1 p2 m0
theorem om_X11_dealWithChildren {xs : List Int32} {d : Nat} {S : QS} {m0 : MM} {p1 p2 : Int} {v0 v1 v2 : Value} {rz : Int} {rm : MM} (hd : 170 ≤ d) (R : Rp S m0) (f0 : q_is 2 v0 4) (f1 : q_is 2 v1 p1) (f2 : q_is 0 v2 p2) (h : fm_X11_dealWithChildren p1 p2 m0 = some (rz, rm)) : Mt xs d 156 [v0, v1, v2] S (Cr 9 m0 rm rz) :=
  ob_X11_dealWithChildren (by omega) (fun R2 k0 k1 k2 k3 k4 h2 => om_X11_closeRun (by omega) R2 k0 k1 k2 k3 k4 h2) R f0 f1 f2 h
noncomputable def fl_X11_sendSignals_9 (y1 y2 y4 : Int) : Nat → Int → MM → Option (Int × MM)
  | 0, _, _ => none
  | n + 1, y5, m => if y5 < y4 then
gd (okc m y2 3) <| bp (fm_X2_kind y2 y5 m) fun x_24 =>
if x_24 = 4 then
bp (fm_X2_x y2 y5 m) fun x_50 =>
bp (fm_X2_y y2 y5 m) fun x_59 =>
bd (fm_X11_arrive y1 4 x_50 x_59 m) fun x_68 m_69 =>
lx (w32 (y5 + 1)) fun x_82 =>
fl_X11_sendSignals_9 y1 y2 y4 n x_82 m_69
else
lx (w32 (y5 + 1)) fun x_40 =>
fl_X11_sendSignals_9 y1 y2 y4 n x_40 m
else
some (0, m)
set_option maxHeartbeats 4000000 in
theorem ol_X11_sendSignals_9 {xs : List Int32} {d : Nat} {Q : QO → QS → Prop} {mb : MM} {y1 y2 y4 : Int} {rz : Int} {rm : MM}
  (hd : 3 ≤ d)
  (hQ : Ext mb rm → ∀ o S1, Rp S1 rm → q_out 9 o rz → Q o S1) :
  ∀ (n : Nat) {m : MM} {S : QS} {L : QL} {y5 : Int} {v0 : Value} {v1 : Value} {v2 : Value} {v4 : Value} {v5 : Value} , Ext mb m → fl_X11_sendSignals_9 y1 y2 y4 n y5 m = some (rz, rm) → Rp S m → q_lo L 0 = some v0 → q_is 2 v0 4 → q_lo L 1 = some v1 → q_is 2 v1 y1 → q_lo L 2 = some v2 → q_is 2 v2 y2 → q_lo L 4 = some v4 → q_is 0 v4 y4 → q_lo L 5 = some v5 → q_is 0 v5 y5 → Go xs d qM_X11_sendSignals 9 L [] S Q := by
  intro n
  induction n with
  | zero => intro m S L y5 v0 v1 v2 v4 v5; intro E h R l0 f0 l1 f1 l2 f2 l4 f4 l5 f5; cases h
  | succ n ih0 =>
    intro m S L y5 v0 v1 v2 v4 v5; intro E h R l0 f0 l1 f1 l2 f2 l4 f4 l5 f5
    have ih : ∀ mq : MM, Ext mb mq → ∀ {z5 : Int} {Sq : QS} {Lq : QL} {u0 : Value} {u1 : Value} {u2 : Value} {u4 : Value} {u5 : Value}, fl_X11_sendSignals_9 y1 y2 y4 n z5 mq = some (rz, rm) → Rp Sq mq → q_lo Lq 0 = some u0 → q_is 2 u0 4 → q_lo Lq 1 = some u1 → q_is 2 u1 y1 → q_lo Lq 2 = some u2 → q_is 2 u2 y2 → q_lo Lq 4 = some u4 → q_is 0 u4 y4 → q_lo Lq 5 = some u5 → q_is 0 u5 z5 → Go xs d qM_X11_sendSignals 9 Lq [] Sq Q := fun mq b => by intros; exact ih0 b ‹_› ‹_› ‹_› ‹_› ‹_› ‹_› ‹_› ‹_› ‹_› ‹_› ‹_› ‹_›
    unfold fl_X11_sendSignals_9 at h
    refine go_iload (n := 5) (by decide +kernel) l5 f5 ?_
    refine go_iload (n := 4) (by decide +kernel) l4 f4 ?_
    refine go_icmp (c := .ge) (o := 37) (t := 50) (P := ¬ (y5 < y4)) (by decide +kernel) (by decide +kernel) f5 f4 (Int.not_lt.symm) (fun hp_21 => ?_) (fun hp_21 => ?_)
    · have h := it_f hp_21 h
      cases h
      exact go_vret (by decide +kernel) rfl (hQ E _ _ R q_out_n)
    · have h := it_n hp_21 h
      refine go_aload_n (n := 2) (by decide +kernel) l2 f2 ?_
      refine go_iload (n := 5) (by decide +kernel) l5 f5 ?_
      obtain ⟨g_22, h⟩ := gd_s h
      obtain ⟨x_24, hc_23, h⟩ := bp_s h
      refine go_callV (x := 261) (mi := 9) (n := 1) (ci := 3) (as := [v5]) (rest := []) (by decide +kernel) (by decide +kernel) rfl rfl (q_sum8 _ (Nat.le_of_ble_eq_true rfl)) R f2 g_22 (om_X2_kind (Nat.le_trans (by decide) hd) R g_22 f2 f5 hc_23) (fun _ S_28 q_31 => ?_) (fun _ _ qq => kr_x qq)
      refine kr_z (by decide) q_31 fun v_26 f_27 R_29 E_30 => ?_
      refine go_iconst (n := 4) (z := 4) (by decide +kernel) (by decide) fun v_32 f_33 => ?_
      refine go_icmp (c := .ne) (o := 21) (t := 44) (P := ¬ (x_24 = 4)) (by decide +kernel) (by decide +kernel) f_27 f_33 (Iff.rfl) (fun hp_34 => ?_) (fun hp_34 => ?_)
      · have h := it_f hp_34 h
        refine go_iinc (n := 5) (c := 1) (c' := 1) (by decide +kernel) (by decide +kernel) l5 f5 (by decide) fun L_35 v_36 f_37 l_38 kp_39 => ?_
        obtain ⟨x_40, e_41, h⟩ := lx_s h
        have f_42 := q_is_eq f_37 e_41
        have l_43 := kp_39 0 _ l0 (by decide) (Or.inl (by decide))
        have l_44 := kp_39 1 _ l1 (by decide) (Or.inl (by decide))
        have l_45 := kp_39 2 _ l2 (by decide) (Or.inl (by decide))
        have l_46 := kp_39 4 _ l4 (by decide) (Or.inr (q_is_cat f4 (Or.inl rfl)))
        refine go_goto (o := (-38)) (t := 9) (by decide +kernel) (by decide +kernel) ?_
        exact ih m E h R_29 l_43 f0 l_44 f1 l_45 f2 l_46 f4 l_38 f_42
      · have h := it_n hp_34 h
        refine go_aload_n (n := 0) (by decide +kernel) l0 f0 ?_
        refine go_aload_n (n := 1) (by decide +kernel) l1 f1 ?_
        refine go_iconst (n := 4) (z := 4) (by decide +kernel) (by decide) fun v_47 f_48 => ?_
        refine go_aload_n (n := 2) (by decide +kernel) l2 f2 ?_
        refine go_iload (n := 5) (by decide +kernel) l5 f5 ?_
        obtain ⟨x_50, hc_49, h⟩ := bp_s h
        refine go_callV (x := 264) (mi := 10) (n := 1) (ci := 3) (as := [v5]) (rest := [v_47, v1, v0]) (by decide +kernel) (by decide +kernel) rfl rfl (q_sum8 _ (Nat.le_of_ble_eq_true rfl)) R_29 f2 g_22 (om_X2_x (Nat.le_trans (by decide) hd) R_29 g_22 f2 f5 hc_49) (fun _ S_54 q_57 => ?_) (fun _ _ qq => kr_x qq)
        refine kr_z (by decide) q_57 fun v_52 f_53 R_55 E_56 => ?_
        refine go_aload_n (n := 2) (by decide +kernel) l2 f2 ?_
        refine go_iload (n := 5) (by decide +kernel) l5 f5 ?_
        obtain ⟨x_59, hc_58, h⟩ := bp_s h
        refine go_callV (x := 267) (mi := 11) (n := 1) (ci := 3) (as := [v5]) (rest := [v_52, v_47, v1, v0]) (by decide +kernel) (by decide +kernel) rfl rfl (q_sum8 _ (Nat.le_of_ble_eq_true rfl)) R_55 f2 g_22 (om_X2_y (Nat.le_trans (by decide) hd) R_55 g_22 f2 f5 hc_58) (fun _ S_63 q_66 => ?_) (fun _ _ qq => kr_x qq)
        refine kr_z (by decide) q_66 fun v_61 f_62 R_64 E_65 => ?_
        obtain ⟨x_68, m_69, hc_67, h⟩ := bd_s h
        refine go_callV (x := 204) (mi := 152) (n := 4) (ci := 12) (as := [v1, v_47, v_52, v_61]) (rest := []) (by decide +kernel) (by decide +kernel) rfl rfl (q_sum8 _ (Nat.le_of_ble_eq_true rfl)) R_64 f0 (fx_k (c := 12) R_64 (by decide +kernel)) (om_X11_arrive (Nat.le_trans (by decide) hd) R_64 f0 f1 f_48 f_53 f_62 hc_67) (fun _ S_72 q_75 => ?_) (fun _ _ qq => kr_x qq)
        refine kr_v q_75 fun R_73 E_74 => ?_
        have E_76 := Ext.tr E E_74
        refine go_iinc (n := 5) (c := 1) (c' := 1) (by decide +kernel) (by decide +kernel) l5 f5 (by decide) fun L_77 v_78 f_79 l_80 kp_81 => ?_
        obtain ⟨x_82, e_83, h⟩ := lx_s h
        have f_84 := q_is_eq f_79 e_83
        have l_85 := kp_81 0 _ l0 (by decide) (Or.inl (by decide))
        have l_86 := kp_81 1 _ l1 (by decide) (Or.inl (by decide))
        have l_87 := kp_81 2 _ l2 (by decide) (Or.inl (by decide))
        have l_88 := kp_81 4 _ l4 (by decide) (Or.inr (q_is_cat f4 (Or.inl rfl)))
        refine go_goto (o := (-38)) (t := 9) (by decide +kernel) (by decide +kernel) ?_
        exact ih m_69 E_76 h R_73 l_85 f0 l_86 f1 l_87 f2 l_88 f4 l_80 f_84
noncomputable def fm_X11_sendSignals (p1 p2 p3 : Int) (m0 : MM) : Option (Int × MM) := gd (okc m0 p2 3) <| lx (m0 p2 1) fun x_5 =>
fl_X11_sendSignals_9 p1 p2 x_5  BIG p3 m0
set_option maxHeartbeats 4000000 in
theorem om_X11_sendSignals {xs : List Int32} {d : Nat} {S : QS} {m0 : MM} {p1 p2 p3 : Int} {v0 : Value} {v1 : Value} {v2 : Value} {v3 : Value} {rz : Int} {rm : MM}
  (hd : 4 ≤ d) (R : Rp S m0) (f0 : q_is 2 v0 4) (f1 : q_is 2 v1 p1) (f2 : q_is 2 v2 p2) (f3 : q_is 0 v3 p3)
  (h : fm_X11_sendSignals p1 p2 p3 m0 = some (rz, rm)) : Mt xs d 172 [v0, v1, v2, v3] S (Cr 9 m0 rm rz) := by
  obtain ⟨d, rfl⟩ : ∃ e, d = e + 1 := ⟨d - 1, by omega⟩
  have hd : 3 ≤ d := Nat.le_of_succ_le_succ hd
  refine Mt.of (M := qM_X11_sendSignals) rfl (by rw [sl_1 (q_is_cat f0 (Or.inr rfl)), sl_1 (q_is_cat f1 (Or.inr rfl)), sl_1 (q_is_cat f2 (Or.inr rfl)), sl_1 (q_is_cat f3 (Or.inl rfl)), sl_0]; decide) ?_
  rw [la_1 (q_is_cat f0 (Or.inr rfl)), la_1 (q_is_cat f1 (Or.inr rfl)), la_1 (q_is_cat f2 (Or.inr rfl)), la_1 (q_is_cat f3 (Or.inl rfl)), la_0]
  obtain ⟨L, hL⟩ : ∃ L : QL, L = [(0, v0), (0 + 1, v1), (0 + 1 + 1, v2), (0 + 1 + 1 + 1, v3)] := ⟨_, rfl⟩
  rw [← hL]
  have l0 : q_lo L 0 = some v0 := by rw [hL]; rfl
  have l1 : q_lo L 1 = some v1 := by rw [hL]; rfl
  have l2 : q_lo L 2 = some v2 := by rw [hL]; rfl
  have l3 : q_lo L 3 = some v3 := by rw [hL]; rfl
  have hQ : Ext m0 rm → ∀ o S1, Rp S1 rm → q_out 9 o rz → (Cr 9 m0 rm rz) o S1 := fun a o S1 b e => ⟨b, a, e⟩
  unfold fm_X11_sendSignals at h
  refine go_aload_n (n := 2) (by decide +kernel) l2 f2 ?_
  obtain ⟨g_3, h⟩ := gd_s h
  obtain ⟨x_5, e_6, h⟩ := lx_s h
  refine go_getf (x := 199) (ci := 3) (kf := 1) (fin := 0) (t := 0) (by decide +kernel) (by decide +kernel) (by decide +kernel) R f2 g_3 fun v_1 f_2 => ?_
  have f_4 := q_is_eq f_2 e_6
  refine go_istore (n := 4) (by decide +kernel) (by decide +kernel) f_4 fun L_7 l_8 kp_9 => ?_
  have l_10 := kp_9 0 _ l0 (by decide) (Or.inl (by decide))
  have l_11 := kp_9 1 _ l1 (by decide) (Or.inl (by decide))
  have l_12 := kp_9 2 _ l2 (by decide) (Or.inl (by decide))
  have l_13 := kp_9 3 _ l3 (by decide) (Or.inr (q_is_cat f3 (Or.inl rfl)))
  refine go_iload_n (n := 3) (by decide +kernel) l_13 f3 ?_
  refine go_istore (n := 5) (by decide +kernel) (by decide +kernel) f3 fun L_14 l_15 kp_16 => ?_
  have l_17 := kp_16 0 _ l_10 (by decide) (Or.inl (by decide))
  have l_18 := kp_16 1 _ l_11 (by decide) (Or.inl (by decide))
  have l_19 := kp_16 2 _ l_12 (by decide) (Or.inl (by decide))
  have l_20 := kp_16 4 _ l_8 (by decide) (Or.inr (q_is_cat f_4 (Or.inl rfl)))
  refine ol_X11_sendSignals_9 hd   hQ BIG (Ext.rf _) h R l_17 f0 l_18 f1 l_19 f2 l_20 f_4 l_15 f3
noncomputable def fl_X11_goOnAsNew_53 (y1 y3 y4 y5 : Int) (k84 : MM → Option (Int × MM)) : Nat → Int → MM → Option (Int × MM)
  | 0, _, _ => none
  | n + 1, y6, m => gd (okc m y5 6) <| lx (m y5 2) fun x_93 =>
if y6 < x_93 then
bp (fm_X5_at y5 y6 m) fun x_99 =>
bd (fm_X11_arrive y3 4 y4 x_99 m) fun x_108 m_109 =>
lx (w32 (y6 + 1)) fun x_122 =>
fl_X11_goOnAsNew_53 y1 y3 y4 y5 k84 n x_122 m_109
else
k84 m
set_option maxHeartbeats 4000000 in
theorem ol_X11_goOnAsNew_53 {xs : List Int32} {d : Nat} {Q : QO → QS → Prop} {mb : MM} {y1 y3 y4 y5 : Int} {k84 : MM → Option (Int × MM)} {rz : Int} {rm : MM}
  (hd : 170 ≤ d)
  (hk84 : ∀ mq : MM, Ext mb mq → ∀ {Sq : QS} {Lq : QL} {u0 : Value} {u1 : Value} {u3 : Value} {u4 : Value}, k84 mq = some (rz, rm) → Rp Sq mq → q_lo Lq 0 = some u0 → q_is 2 u0 4 → q_lo Lq 1 = some u1 → q_is 2 u1 y1 → q_lo Lq 3 = some u3 → q_is 2 u3 y3 → q_lo Lq 4 = some u4 → q_is 0 u4 y4 → Go xs d qM_X11_goOnAsNew 84 Lq [] Sq Q)
  (hQ : Ext mb rm → ∀ o S1, Rp S1 rm → q_out 9 o rz → Q o S1) :
  ∀ (n : Nat) {m : MM} {S : QS} {L : QL} {y6 : Int} {v0 : Value} {v1 : Value} {v3 : Value} {v4 : Value} {v5 : Value} {v6 : Value} , Ext mb m → fl_X11_goOnAsNew_53 y1 y3 y4 y5 k84 n y6 m = some (rz, rm) → Rp S m → q_lo L 0 = some v0 → q_is 2 v0 4 → q_lo L 1 = some v1 → q_is 2 v1 y1 → q_lo L 3 = some v3 → q_is 2 v3 y3 → q_lo L 4 = some v4 → q_is 0 v4 y4 → q_lo L 5 = some v5 → q_is 2 v5 y5 → q_lo L 6 = some v6 → q_is 0 v6 y6 → Go xs d qM_X11_goOnAsNew 53 L [] S Q := by
  intro n
  induction n with
  | zero => intro m S L y6 v0 v1 v3 v4 v5 v6; intro E h R l0 f0 l1 f1 l3 f3 l4 f4 l5 f5 l6 f6; cases h
  | succ n ih0 =>
    intro m S L y6 v0 v1 v3 v4 v5 v6; intro E h R l0 f0 l1 f1 l3 f3 l4 f4 l5 f5 l6 f6
    have ih : ∀ mq : MM, Ext mb mq → ∀ {z6 : Int} {Sq : QS} {Lq : QL} {u0 : Value} {u1 : Value} {u3 : Value} {u4 : Value} {u5 : Value} {u6 : Value}, fl_X11_goOnAsNew_53 y1 y3 y4 y5 k84 n z6 mq = some (rz, rm) → Rp Sq mq → q_lo Lq 0 = some u0 → q_is 2 u0 4 → q_lo Lq 1 = some u1 → q_is 2 u1 y1 → q_lo Lq 3 = some u3 → q_is 2 u3 y3 → q_lo Lq 4 = some u4 → q_is 0 u4 y4 → q_lo Lq 5 = some u5 → q_is 2 u5 y5 → q_lo Lq 6 = some u6 → q_is 0 u6 z6 → Go xs d qM_X11_goOnAsNew 53 Lq [] Sq Q := fun mq b => by intros; exact ih0 b ‹_› ‹_› ‹_› ‹_› ‹_› ‹_› ‹_› ‹_› ‹_› ‹_› ‹_› ‹_› ‹_› ‹_›
    unfold fl_X11_goOnAsNew_53 at h
    refine go_iload (n := 6) (by decide +kernel) l6 f6 ?_
    refine go_aload (n := 5) (by decide +kernel) l5 f5 ?_
    obtain ⟨g_91, h⟩ := gd_s h
    obtain ⟨x_93, e_94, h⟩ := lx_s h
    refine go_getf (x := 108) (ci := 6) (kf := 2) (fin := 0) (t := 0) (by decide +kernel) (by decide +kernel) (by decide +kernel) R f5 g_91 fun v_89 f_90 => ?_
    have f_92 := q_is_eq f_90 e_94
    refine go_icmp (c := .ge) (o := 24) (t := 84) (P := ¬ (y6 < x_93)) (by decide +kernel) (by decide +kernel) f6 f_92 (Int.not_lt.symm) (fun hp_95 => ?_) (fun hp_95 => ?_)
    · have h := it_f hp_95 h
      exact hk84 m E h R l0 f0 l1 f1 l3 f3 l4 f4
    · have h := it_n hp_95 h
      refine go_aload_n (n := 0) (by decide +kernel) l0 f0 ?_
      refine go_aload_n (n := 3) (by decide +kernel) l3 f3 ?_
      refine go_iconst (n := 4) (z := 4) (by decide +kernel) (by decide) fun v_96 f_97 => ?_
      refine go_iload (n := 4) (by decide +kernel) l4 f4 ?_
      refine go_aload (n := 5) (by decide +kernel) l5 f5 ?_
      refine go_iload (n := 6) (by decide +kernel) l6 f6 ?_
      obtain ⟨x_99, hc_98, h⟩ := bp_s h
      refine go_callV (x := 466) (mi := 59) (n := 1) (ci := 6) (as := [v6]) (rest := [v4, v_96, v3, v0]) (by decide +kernel) (by decide +kernel) rfl rfl (q_sum8 _ (Nat.le_of_ble_eq_true rfl)) R f5 g_91 (om_X5_at (Nat.le_trans (by decide) hd) R g_91 f5 f6 hc_98) (fun _ S_103 q_106 => ?_) (fun _ _ qq => kr_x qq)
      refine kr_z (by decide) q_106 fun v_101 f_102 R_104 E_105 => ?_
      obtain ⟨x_108, m_109, hc_107, h⟩ := bd_s h
      refine go_callV (x := 204) (mi := 152) (n := 4) (ci := 12) (as := [v3, v_96, v4, v_101]) (rest := []) (by decide +kernel) (by decide +kernel) rfl rfl (q_sum8 _ (Nat.le_of_ble_eq_true rfl)) R_104 f0 (fx_k (c := 12) R_104 (by decide +kernel)) (om_X11_arrive (Nat.le_trans (by decide) hd) R_104 f0 f3 f_97 f4 f_102 hc_107) (fun _ S_112 q_115 => ?_) (fun _ _ qq => kr_x qq)
      refine kr_v q_115 fun R_113 E_114 => ?_
      have E_116 := Ext.tr E E_114
      refine go_iinc (n := 6) (c := 1) (c' := 1) (by decide +kernel) (by decide +kernel) l6 f6 (by decide) fun L_117 v_118 f_119 l_120 kp_121 => ?_
      obtain ⟨x_122, e_123, h⟩ := lx_s h
      have f_124 := q_is_eq f_119 e_123
      have l_125 := kp_121 0 _ l0 (by decide) (Or.inl (by decide))
      have l_126 := kp_121 1 _ l1 (by decide) (Or.inl (by decide))
      have l_127 := kp_121 3 _ l3 (by decide) (Or.inl (by decide))
      have l_128 := kp_121 4 _ l4 (by decide) (Or.inl (by decide))
      have l_129 := kp_121 5 _ l5 (by decide) (Or.inr (q_is_cat f5 (Or.inr rfl)))
      refine go_goto (o := (-28)) (t := 53) (by decide +kernel) (by decide +kernel) ?_
      exact ih m_109 E_116 h R_113 l_125 f0 l_126 f1 l_127 f3 l_128 f4 l_129 f5 l_120 f_124
noncomputable def fl_X11_goOnAsNew_30 (y1 y3 : Int) (k90 : MM → Option (Int × MM)) : Nat → Int → MM → Option (Int × MM)
  | 0, _, _ => none
  | n + 1, y4, m => if y4 < 4 then
bp (fm_X8_queue y4 m) fun x_64 =>
fl_X11_goOnAsNew_53 y1 y3 y4 x_64 (fun m_145 =>
lx (w32 (y4 + 1)) fun x_153 =>
fl_X11_goOnAsNew_30 y1 y3 k90 n x_153 m_145) BIG 0 m
else
k90 m
set_option maxHeartbeats 4000000 in
theorem ol_X11_goOnAsNew_30 {xs : List Int32} {d : Nat} {Q : QO → QS → Prop} {mb : MM} {y1 y3 : Int} {k90 : MM → Option (Int × MM)} {rz : Int} {rm : MM}
  (hd : 170 ≤ d)
  (hk90 : ∀ mq : MM, Ext mb mq → ∀ {Sq : QS} {Lq : QL} {u0 : Value} {u1 : Value} {u3 : Value}, k90 mq = some (rz, rm) → Rp Sq mq → q_lo Lq 0 = some u0 → q_is 2 u0 4 → q_lo Lq 1 = some u1 → q_is 2 u1 y1 → q_lo Lq 3 = some u3 → q_is 2 u3 y3 → Go xs d qM_X11_goOnAsNew 90 Lq [] Sq Q)
  (hQ : Ext mb rm → ∀ o S1, Rp S1 rm → q_out 9 o rz → Q o S1) :
  ∀ (n : Nat) {m : MM} {S : QS} {L : QL} {y4 : Int} {v0 : Value} {v1 : Value} {v3 : Value} {v4 : Value} , Ext mb m → fl_X11_goOnAsNew_30 y1 y3 k90 n y4 m = some (rz, rm) → Rp S m → q_lo L 0 = some v0 → q_is 2 v0 4 → q_lo L 1 = some v1 → q_is 2 v1 y1 → q_lo L 3 = some v3 → q_is 2 v3 y3 → q_lo L 4 = some v4 → q_is 0 v4 y4 → Go xs d qM_X11_goOnAsNew 30 L [] S Q := by
  intro n
  induction n with
  | zero => intro m S L y4 v0 v1 v3 v4; intro E h R l0 f0 l1 f1 l3 f3 l4 f4; cases h
  | succ n ih0 =>
    intro m S L y4 v0 v1 v3 v4; intro E h R l0 f0 l1 f1 l3 f3 l4 f4
    have ih : ∀ mq : MM, Ext mb mq → ∀ {z4 : Int} {Sq : QS} {Lq : QL} {u0 : Value} {u1 : Value} {u3 : Value} {u4 : Value}, fl_X11_goOnAsNew_30 y1 y3 k90 n z4 mq = some (rz, rm) → Rp Sq mq → q_lo Lq 0 = some u0 → q_is 2 u0 4 → q_lo Lq 1 = some u1 → q_is 2 u1 y1 → q_lo Lq 3 = some u3 → q_is 2 u3 y3 → q_lo Lq 4 = some u4 → q_is 0 u4 z4 → Go xs d qM_X11_goOnAsNew 30 Lq [] Sq Q := fun mq b => by intros; exact ih0 b ‹_› ‹_› ‹_› ‹_› ‹_› ‹_› ‹_› ‹_› ‹_› ‹_›
    unfold fl_X11_goOnAsNew_30 at h
    refine go_iload (n := 4) (by decide +kernel) l4 f4 ?_
    refine go_iconst (n := 4) (z := 4) (by decide +kernel) (by decide) fun v_54 f_55 => ?_
    refine go_icmp (c := .ge) (o := 57) (t := 90) (P := ¬ (y4 < 4)) (by decide +kernel) (by decide +kernel) f4 f_55 (Int.not_lt.symm) (fun hp_56 => ?_) (fun hp_56 => ?_)
    · have h := it_f hp_56 h
      exact hk90 m E h R l0 f0 l1 f1 l3 f3
    · have h := it_n hp_56 h
      refine go_aload_n (n := 0) (by decide +kernel) l0 f0 ?_
      refine go_getf (x := 57) (ci := 12) (kf := 10) (fin := 1) (t := 2) (by decide +kernel) (by decide +kernel) (by decide +kernel) R f0 (fx_k (c := 12) R (by decide +kernel)) fun v_57 f_58 => ?_
      have f_59 := q_is_eq (b := 16) f_58 (fx_v R (by decide +kernel)).symm
      refine go_getf (x := 231) (ci := 5) (kf := 0) (fin := 2) (t := 2) (by decide +kernel) (by decide +kernel) (by decide +kernel) R f_59 (fx_k (c := 5) R (by decide +kernel)) fun v_60 f_61 => ?_
      have f_62 := q_is_eq (b := 17) f_61 (fx_v R (by decide +kernel)).symm
      refine go_iload (n := 4) (by decide +kernel) l4 f4 ?_
      obtain ⟨x_64, hc_63, h⟩ := bp_s h
      refine go_callV (x := 616) (mi := 83) (n := 1) (ci := 9) (as := [v4]) (rest := []) (by decide +kernel) (by decide +kernel) rfl rfl (q_sum8 _ (Nat.le_of_ble_eq_true rfl)) R f_62 (fx_k (c := 9) R (by decide +kernel)) (om_X8_queue (Nat.le_trans (by decide) hd) R f_62 f4 hc_63) (fun _ S_68 q_71 => ?_) (fun _ _ qq => kr_x qq)
      refine kr_z (by decide) q_71 fun v_66 f_67 R_69 E_70 => ?_
      refine go_astore (n := 5) (by decide +kernel) (by decide +kernel) f_67 fun L_72 l_73 kp_74 => ?_
      have l_75 := kp_74 0 _ l0 (by decide) (Or.inl (by decide))
      have l_76 := kp_74 1 _ l1 (by decide) (Or.inl (by decide))
      have l_77 := kp_74 3 _ l3 (by decide) (Or.inl (by decide))
      have l_78 := kp_74 4 _ l4 (by decide) (Or.inr (q_is_cat f4 (Or.inl rfl)))
      refine go_iconst (n := 0) (z := 0) (by decide +kernel) (by decide) fun v_79 f_80 => ?_
      refine go_istore (n := 6) (by decide +kernel) (by decide +kernel) f_80 fun L_81 l_82 kp_83 => ?_
      have l_84 := kp_83 0 _ l_75 (by decide) (Or.inl (by decide))
      have l_85 := kp_83 1 _ l_76 (by decide) (Or.inl (by decide))
      have l_86 := kp_83 3 _ l_77 (by decide) (Or.inl (by decide))
      have l_87 := kp_83 4 _ l_78 (by decide) (Or.inl (by decide))
      have l_88 := kp_83 5 _ l_73 (by decide) (Or.inr (q_is_cat f_67 (Or.inr rfl)))
      refine ol_X11_goOnAsNew_53 hd  ?_ (fun b => hQ (Ext.tr E b)) BIG (Ext.rf _) h R_69 l_84 f0 l_85 f1 l_86 f3 l_87 f4 l_88 f_67 l_82 f_80
      intro m_145 E_146
      intro S_142 L_143 v_130 v_131 v_132 v_133
      intro h R_144 l_134 f_138 l_135 f_139 l_136 f_140 l_137 f_141
      have E_147 := Ext.tr E E_146
      refine go_iinc (n := 4) (c := 1) (c' := 1) (by decide +kernel) (by decide +kernel) l_137 f_141 (by decide) fun L_148 v_149 f_150 l_151 kp_152 => ?_
      obtain ⟨x_153, e_154, h⟩ := lx_s h
      have f_155 := q_is_eq f_150 e_154
      have l_156 := kp_152 0 _ l_134 (by decide) (Or.inl (by decide))
      have l_157 := kp_152 1 _ l_135 (by decide) (Or.inl (by decide))
      have l_158 := kp_152 3 _ l_136 (by decide) (Or.inr (q_is_cat f_140 (Or.inr rfl)))
      refine go_goto (o := (-57)) (t := 30) (by decide +kernel) (by decide +kernel) ?_
      exact ih m_145 E_147 h R_144 l_156 f_138 l_157 f_139 l_158 f_140 l_151 f_155
noncomputable def fm_X11_goOnAsNew (p1 p2 : Int) (m0 : MM) : Option (Int × MM) := gd (okc m0 p1 7) <| up m0 p1 6 4 fun m_4 =>
lx (m_4 p1 1) fun x_14 =>
lx (m_4 p1 2) fun x_19 =>
lx (m_4 p1 4) fun x_24 =>
lx (m_4 p1 5) fun x_29 =>
bd (fm_X11_startRun x_14 x_19 p2 x_24 x_29 m_4) fun x_32 m_33 =>
fl_X11_goOnAsNew_30 p1 x_32 (fun m_171 =>
lx (m_171 p1 16) fun x_178 =>
lx (m_171 17 11) fun x_189 =>
bd (fm_X11_sendSignals x_32 x_178 x_189 m_171) fun x_192 m_193 =>
bd (fm_X11_endWork p1 m_193) fun x_202 m_203 =>
bd (fm_X11_dealWithChildren p1 0 m_203) fun x_214 m_215 =>
some (0, m_215)) BIG 0 m_33
set_option maxHeartbeats 4000000 in
theorem om_X11_goOnAsNew {xs : List Int32} {d : Nat} {S : QS} {m0 : MM} {p1 p2 : Int} {v0 : Value} {v1 : Value} {v2 : Value} {rz : Int} {rm : MM}
  (hd : 171 ≤ d) (R : Rp S m0) (f0 : q_is 2 v0 4) (f1 : q_is 2 v1 p1) (f2 : q_is 0 v2 p2)
  (h : fm_X11_goOnAsNew p1 p2 m0 = some (rz, rm)) : Mt xs d 171 [v0, v1, v2] S (Cr 9 m0 rm rz) := by
  obtain ⟨d, rfl⟩ : ∃ e, d = e + 1 := ⟨d - 1, by omega⟩
  have hd : 170 ≤ d := Nat.le_of_succ_le_succ hd
  refine Mt.of (M := qM_X11_goOnAsNew) rfl (by rw [sl_1 (q_is_cat f0 (Or.inr rfl)), sl_1 (q_is_cat f1 (Or.inr rfl)), sl_1 (q_is_cat f2 (Or.inl rfl)), sl_0]; decide) ?_
  rw [la_1 (q_is_cat f0 (Or.inr rfl)), la_1 (q_is_cat f1 (Or.inr rfl)), la_1 (q_is_cat f2 (Or.inl rfl)), la_0]
  obtain ⟨L, hL⟩ : ∃ L : QL, L = [(0, v0), (0 + 1, v1), (0 + 1 + 1, v2)] := ⟨_, rfl⟩
  rw [← hL]
  have l0 : q_lo L 0 = some v0 := by rw [hL]; rfl
  have l1 : q_lo L 1 = some v1 := by rw [hL]; rfl
  have l2 : q_lo L 2 = some v2 := by rw [hL]; rfl
  have hQ : Ext m0 rm → ∀ o S1, Rp S1 rm → q_out 9 o rz → (Cr 9 m0 rm rz) o S1 := fun a o S1 b e => ⟨b, a, e⟩
  unfold fm_X11_goOnAsNew at h
  refine go_aload_n (n := 1) (by decide +kernel) l1 f1 ?_
  refine go_iconst (n := 4) (z := 4) (by decide +kernel) (by decide) fun v_1 f_2 => ?_
  obtain ⟨g_3, h⟩ := gd_s h
  obtain ⟨m_4, e_5, h⟩ := up_s h
  refine go_putf (x := 208) (ci := 7) (kf := 6) (fin := 0) (zt := 0) (by decide +kernel) (by decide +kernel) (by decide) (by decide +kernel) (by decide) (Or.inl rfl) R f1 f_2 (fun hq => absurd hq (by decide)) g_3 e_5 (fx_f (j := 6) R.2 g_3 (by decide +kernel)) fun S_6 R_7 E_8 => ?_
  have E_9 := E_8
  refine go_aload_n (n := 0) (by decide +kernel) l0 f0 ?_
  refine go_aload_n (n := 1) (by decide +kernel) l1 f1 ?_
  have g_12 := Ext.ok E_8 g_3
  obtain ⟨x_14, e_15, h⟩ := lx_s h
  refine go_getf (x := 404) (ci := 7) (kf := 1) (fin := 2) (t := 0) (by decide +kernel) (by decide +kernel) (by decide +kernel) R_7 f1 g_12 fun v_10 f_11 => ?_
  have f_13 := q_is_eq f_11 e_15
  refine go_aload_n (n := 1) (by decide +kernel) l1 f1 ?_
  obtain ⟨x_19, e_20, h⟩ := lx_s h
  refine go_getf (x := 283) (ci := 7) (kf := 2) (fin := 2) (t := 0) (by decide +kernel) (by decide +kernel) (by decide +kernel) R_7 f1 g_12 fun v_16 f_17 => ?_
  have f_18 := q_is_eq f_17 e_20
  refine go_iload_n (n := 2) (by decide +kernel) l2 f2 ?_
  refine go_aload_n (n := 1) (by decide +kernel) l1 f1 ?_
  obtain ⟨x_24, e_25, h⟩ := lx_s h
  refine go_getf (x := 414) (ci := 7) (kf := 4) (fin := 0) (t := 0) (by decide +kernel) (by decide +kernel) (by decide +kernel) R_7 f1 g_12 fun v_21 f_22 => ?_
  have f_23 := q_is_eq f_22 e_25
  refine go_aload_n (n := 1) (by decide +kernel) l1 f1 ?_
  obtain ⟨x_29, e_30, h⟩ := lx_s h
  refine go_getf (x := 417) (ci := 7) (kf := 5) (fin := 2) (t := 0) (by decide +kernel) (by decide +kernel) (by decide +kernel) R_7 f1 g_12 fun v_26 f_27 => ?_
  have f_28 := q_is_eq f_27 e_30
  obtain ⟨x_32, m_33, hc_31, h⟩ := bd_s h
  refine go_callV (x := 176) (mi := 151) (n := 5) (ci := 12) (as := [v_10, v_16, v2, v_21, v_26]) (rest := []) (by decide +kernel) (by decide +kernel) rfl rfl (q_sum8 _ (Nat.le_of_ble_eq_true rfl)) R_7 f0 (fx_k (c := 12) R_7 (by decide +kernel)) (om_X11_startRun (Nat.le_trans (by decide) hd) R_7 f0 f_13 f_18 f2 f_23 f_28 hc_31) (fun _ S_36 q_39 => ?_) (fun _ _ qq => kr_x qq)
  refine kr_z (by decide) q_39 fun v_34 f_35 R_37 E_38 => ?_
  have E_40 := Ext.tr E_9 E_38
  refine go_astore_n (n := 3) (by decide +kernel) (by decide +kernel) f_35 fun L_41 l_42 kp_43 => ?_
  have l_44 := kp_43 0 _ l0 (by decide) (Or.inl (by decide))
  have l_45 := kp_43 1 _ l1 (by decide) (Or.inl (by decide))
  refine go_iconst (n := 0) (z := 0) (by decide +kernel) (by decide) fun v_46 f_47 => ?_
  refine go_istore (n := 4) (by decide +kernel) (by decide +kernel) f_47 fun L_48 l_49 kp_50 => ?_
  have l_51 := kp_50 0 _ l_44 (by decide) (Or.inl (by decide))
  have l_52 := kp_50 1 _ l_45 (by decide) (Or.inl (by decide))
  have l_53 := kp_50 3 _ l_42 (by decide) (Or.inr (q_is_cat f_35 (Or.inr rfl)))
  refine ol_X11_goOnAsNew_30 hd  ?_ (fun b => hQ (Ext.tr E_40 b)) BIG (Ext.rf _) h R_37 l_51 f0 l_52 f1 l_53 f_35 l_49 f_47
  intro m_171 E_172
  intro S_168 L_169 v_159 v_160 v_161
  intro h R_170 l_162 f_165 l_163 f_166 l_164 f_167
  have E_173 := Ext.tr E_40 E_172
  refine go_aload_n (n := 0) (by decide +kernel) l_162 f_165 ?_
  refine go_aload_n (n := 3) (by decide +kernel) l_164 f_167 ?_
  refine go_aload_n (n := 1) (by decide +kernel) l_163 f_166 ?_
  have g_176 := Ext.ok (Ext.tr E_38 E_172) g_12
  obtain ⟨x_178, e_179, h⟩ := lx_s h
  refine go_getf (x := 195) (ci := 7) (kf := 16) (fin := 2) (t := 2) (by decide +kernel) (by decide +kernel) (by decide +kernel) R_170 f_166 g_176 fun v_174 f_175 => ?_
  have f_177 := q_is_eq f_175 e_179
  refine go_aload_n (n := 0) (by decide +kernel) l_162 f_165 ?_
  refine go_getf (x := 57) (ci := 12) (kf := 10) (fin := 1) (t := 2) (by decide +kernel) (by decide +kernel) (by decide +kernel) R_170 f_165 (fx_k (c := 12) R_170 (by decide +kernel)) fun v_180 f_181 => ?_
  have f_182 := q_is_eq (b := 16) f_181 (fx_v R_170 (by decide +kernel)).symm
  refine go_getf (x := 231) (ci := 5) (kf := 0) (fin := 2) (t := 2) (by decide +kernel) (by decide +kernel) (by decide +kernel) R_170 f_182 (fx_k (c := 5) R_170 (by decide +kernel)) fun v_183 f_184 => ?_
  have f_185 := q_is_eq (b := 17) f_184 (fx_v R_170 (by decide +kernel)).symm
  obtain ⟨x_189, e_190, h⟩ := lx_s h
  refine go_getf (x := 619) (ci := 9) (kf := 11) (fin := 0) (t := 0) (by decide +kernel) (by decide +kernel) (by decide +kernel) R_170 f_185 (fx_k (c := 9) R_170 (by decide +kernel)) fun v_186 f_187 => ?_
  have f_188 := q_is_eq f_187 e_190
  obtain ⟨x_192, m_193, hc_191, h⟩ := bd_s h
  refine go_callV (x := 437) (mi := 172) (n := 3) (ci := 12) (as := [v_161, v_174, v_186]) (rest := []) (by decide +kernel) (by decide +kernel) rfl rfl (q_sum8 _ (Nat.le_of_ble_eq_true rfl)) R_170 f_165 (fx_k (c := 12) R_170 (by decide +kernel)) (om_X11_sendSignals (Nat.le_trans (by decide) hd) R_170 f_165 f_167 f_177 f_188 hc_191) (fun _ S_196 q_199 => ?_) (fun _ _ qq => kr_x qq)
  refine kr_v q_199 fun R_197 E_198 => ?_
  have E_200 := Ext.tr E_173 E_198
  refine go_aload_n (n := 0) (by decide +kernel) l_162 f_165 ?_
  refine go_aload_n (n := 1) (by decide +kernel) l_163 f_166 ?_
  obtain ⟨x_202, m_203, hc_201, h⟩ := bd_s h
  refine go_callV (x := 427) (mi := 157) (n := 1) (ci := 12) (as := [v_160]) (rest := []) (by decide +kernel) (by decide +kernel) rfl rfl (q_sum8 _ (Nat.le_of_ble_eq_true rfl)) R_197 f_165 (fx_k (c := 12) R_197 (by decide +kernel)) (om_X11_endWork (Nat.le_trans (by decide) hd) R_197 f_165 f_166 hc_201) (fun _ S_206 q_209 => ?_) (fun _ _ qq => kr_x qq)
  refine kr_v q_209 fun R_207 E_208 => ?_
  have E_210 := Ext.tr E_200 E_208
  refine go_aload_n (n := 0) (by decide +kernel) l_162 f_165 ?_
  refine go_aload_n (n := 1) (by decide +kernel) l_163 f_166 ?_
  refine go_iconst (n := 0) (z := 0) (by decide +kernel) (by decide) fun v_211 f_212 => ?_
  obtain ⟨x_214, m_215, hc_213, h⟩ := bd_s h
  refine go_callV (x := 543) (mi := 156) (n := 2) (ci := 12) (as := [v_160, v_211]) (rest := []) (by decide +kernel) (by decide +kernel) rfl rfl (q_sum8 _ (Nat.le_of_ble_eq_true rfl)) R_207 f_165 (fx_k (c := 12) R_207 (by decide +kernel)) (om_X11_dealWithChildren (Nat.le_trans (by decide) hd) R_207 f_165 f_166 f_212 hc_213) (fun _ S_218 q_221 => ?_) (fun _ _ qq => kr_x qq)
  refine kr_v q_221 fun R_219 E_220 => ?_
  have E_222 := Ext.tr E_210 E_220
  cases h
  exact go_vret (by decide +kernel) rfl (hQ E_222 _ _ R_219 q_out_n)
noncomputable def fj_X11_carryOut_163 ( s0 s1 : Int) (m : MM) : Option (Int × MM) := bd (fm_X11_closeRun BIGR s1 s0 0 0 m) fun x_158 m_159 =>
some (0, m_159)
set_option maxHeartbeats 4000000 in
theorem oj_X11_carryOut_163 {xs : List Int32} {d : Nat} {S : QS} {L : QL} {Q : QO → QS → Prop} {m : MM} {s0 s1 : Int} {w0 : Value} {w1 : Value} {w2 : Value}  {rz : Int} {rm : MM}
  (hd : 171 ≤ d) (R : Rp S m) (fs0 : q_is 0 w0 s0) (fs1 : q_is 2 w1 s1) (fs2 : q_is 2 w2 4)
  (hQ : Ext m rm → ∀ o S1, Rp S1 rm → q_out 9 o rz → Q o S1)
  (h : fj_X11_carryOut_163 s0 s1 m = some (rz, rm)) : Go xs d qM_X11_carryOut 163 L [w0, w1, w2] S Q := by
  unfold fj_X11_carryOut_163 at h
  refine go_iconst (n := 0) (z := 0) (by decide +kernel) (by decide) fun v_153 f_154 => ?_
  refine go_iconst (n := 0) (z := 0) (by decide +kernel) (by decide) fun v_155 f_156 => ?_
  obtain ⟨x_158, m_159, hc_157, h⟩ := bd_s h
  refine go_callV (x := 458) (mi := 154) (n := 4) (ci := 12) (as := [w1, w0, v_153, v_155]) (rest := []) (by decide +kernel) (by decide +kernel) rfl rfl (q_sum8 _ (Nat.le_of_ble_eq_true rfl)) R fs2 (fx_k (c := 12) R (by decide +kernel)) (om_X11_closeRun (Nat.le_trans (by decide) hd) R fs2 fs1 fs0 f_154 f_156 hc_157) (fun _ S_162 q_165 => ?_) (fun _ _ qq => kr_x qq)
  refine kr_v q_165 fun R_163 E_164 => ?_
  have E_166 := E_164
  refine go_goto (o := 35) (t := 203) (by decide +kernel) (by decide +kernel) ?_
  cases h
  exact go_vret (by decide +kernel) rfl (hQ E_166 _ _ R_163 q_out_n)
noncomputable def fm_X11_carryOut (p1 p2 : Int) (m0 : MM) : Option (Int × MM) := gd (okc m0 p1 7) <| lx (m0 p1 16) fun x_5 =>
gd (okc m0 x_5 3) <| bp (fm_X2_x x_5 p2 m0) fun x_9 =>
bp (fm_X2_y x_5 p2 m0) fun x_27 =>
bp (fm_X2_kind x_5 p2 m0) fun x_46 =>
if x_46 = 8 then
bd (fm_X11_makeActivity p1 p2 x_9 x_27 m0) fun x_57 m_58 =>
some (0, m_58)
else if x_46 = 9 then
lx (m0 4 14) fun x_71 =>
bd (fm_X6_addTimer p1 p2 (w32 (x_71 + x_9)) m0) fun x_76 m_77 =>
some (0, m_77)
else if x_46 = 10 then
bd (fm_X11_beginChild p1 p2 x_9 x_27 m0) fun x_88 m_89 =>
some (0, m_89)
else if x_46 = 11 then
bd (fm_X11_dropEvent p1 x_9 m0) fun x_100 m_101 =>
some (0, m_101)
else if x_46 = 13 then
bd (fm_X11_queueTag p1 x_9 m0) fun x_112 m_113 =>
some (0, m_113)
else if x_46 = 14 then
bd (fm_X11_closeRun BIGR p1 1 x_9 0 m0) fun x_128 m_129 =>
some (0, m_129)
else if x_46 = 15 then
lx (m0 17 8) fun x_148 =>
if x_148 = 0 then
fj_X11_carryOut_163 2 p1 m0
else
fj_X11_carryOut_163 3 p1 m0
else if x_46 = 16 then
bp (fm_Jx4a65c_size_8abf5 7 m0) fun x_175 =>
if x_175 < 30 then
bd (fm_X11_goOnAsNew p1 x_9 m0) fun x_203 m_204 =>
some (0, m_204)
else
bd (fm_X11_closeRun BIGR p1 2 0 0 m0) fun x_193 m_194 =>
some (0, m_194)
else 
some (0, m0)
set_option maxHeartbeats 4000000 in
theorem om_X11_carryOut {xs : List Int32} {d : Nat} {S : QS} {m0 : MM} {p1 p2 : Int} {v0 : Value} {v1 : Value} {v2 : Value} {rz : Int} {rm : MM}
  (hd : 172 ≤ d) (R : Rp S m0) (f0 : q_is 2 v0 4) (f1 : q_is 2 v1 p1) (f2 : q_is 0 v2 p2)
  (h : fm_X11_carryOut p1 p2 m0 = some (rz, rm)) : Mt xs d 166 [v0, v1, v2] S (Cr 9 m0 rm rz) := by
  obtain ⟨d, rfl⟩ : ∃ e, d = e + 1 := ⟨d - 1, by omega⟩
  have hd : 171 ≤ d := Nat.le_of_succ_le_succ hd
  refine Mt.of (M := qM_X11_carryOut) rfl (by rw [sl_1 (q_is_cat f0 (Or.inr rfl)), sl_1 (q_is_cat f1 (Or.inr rfl)), sl_1 (q_is_cat f2 (Or.inl rfl)), sl_0]; decide) ?_
  rw [la_1 (q_is_cat f0 (Or.inr rfl)), la_1 (q_is_cat f1 (Or.inr rfl)), la_1 (q_is_cat f2 (Or.inl rfl)), la_0]
  obtain ⟨L, hL⟩ : ∃ L : QL, L = [(0, v0), (0 + 1, v1), (0 + 1 + 1, v2)] := ⟨_, rfl⟩
  rw [← hL]
  have l0 : q_lo L 0 = some v0 := by rw [hL]; rfl
  have l1 : q_lo L 1 = some v1 := by rw [hL]; rfl
  have l2 : q_lo L 2 = some v2 := by rw [hL]; rfl
  have hQ : Ext m0 rm → ∀ o S1, Rp S1 rm → q_out 9 o rz → (Cr 9 m0 rm rz) o S1 := fun a o S1 b e => ⟨b, a, e⟩
  unfold fm_X11_carryOut at h
  refine go_aload_n (n := 1) (by decide +kernel) l1 f1 ?_
  obtain ⟨g_3, h⟩ := gd_s h
  obtain ⟨x_5, e_6, h⟩ := lx_s h
  refine go_getf (x := 195) (ci := 7) (kf := 16) (fin := 2) (t := 2) (by decide +kernel) (by decide +kernel) (by decide +kernel) R f1 g_3 fun v_1 f_2 => ?_
  have f_4 := q_is_eq f_2 e_6
  refine go_iload_n (n := 2) (by decide +kernel) l2 f2 ?_
  obtain ⟨g_7, h⟩ := gd_s h
  obtain ⟨x_9, hc_8, h⟩ := bp_s h
  refine go_callV (x := 264) (mi := 10) (n := 1) (ci := 3) (as := [v2]) (rest := []) (by decide +kernel) (by decide +kernel) rfl rfl (q_sum8 _ (Nat.le_of_ble_eq_true rfl)) R f_4 g_7 (om_X2_x (Nat.le_trans (by decide) hd) R g_7 f_4 f2 hc_8) (fun _ S_13 q_16 => ?_) (fun _ _ qq => kr_x qq)
  refine kr_z (by decide) q_16 fun v_11 f_12 R_14 E_15 => ?_
  refine go_istore_n (n := 3) (by decide +kernel) (by decide +kernel) f_12 fun L_17 l_18 kp_19 => ?_
  have l_20 := kp_19 0 _ l0 (by decide) (Or.inl (by decide))
  have l_21 := kp_19 1 _ l1 (by decide) (Or.inl (by decide))
  have l_22 := kp_19 2 _ l2 (by decide) (Or.inr (q_is_cat f2 (Or.inl rfl)))
  refine go_aload_n (n := 1) (by decide +kernel) l_21 f1 ?_
  refine go_getf (x := 195) (ci := 7) (kf := 16) (fin := 2) (t := 2) (by decide +kernel) (by decide +kernel) (by decide +kernel) R_14 f1 g_3 fun v_23 f_24 => ?_
  have f_25 := q_is_eq f_24 e_6
  refine go_iload_n (n := 2) (by decide +kernel) l_22 f2 ?_
  obtain ⟨x_27, hc_26, h⟩ := bp_s h
  refine go_callV (x := 267) (mi := 11) (n := 1) (ci := 3) (as := [v2]) (rest := []) (by decide +kernel) (by decide +kernel) rfl rfl (q_sum8 _ (Nat.le_of_ble_eq_true rfl)) R_14 f_25 g_7 (om_X2_y (Nat.le_trans (by decide) hd) R_14 g_7 f_25 f2 hc_26) (fun _ S_31 q_34 => ?_) (fun _ _ qq => kr_x qq)
  refine kr_z (by decide) q_34 fun v_29 f_30 R_32 E_33 => ?_
  refine go_istore (n := 4) (by decide +kernel) (by decide +kernel) f_30 fun L_35 l_36 kp_37 => ?_
  have l_38 := kp_37 0 _ l_20 (by decide) (Or.inl (by decide))
  have l_39 := kp_37 1 _ l_21 (by decide) (Or.inl (by decide))
  have l_40 := kp_37 2 _ l_22 (by decide) (Or.inl (by decide))
  have l_41 := kp_37 3 _ l_18 (by decide) (Or.inr (q_is_cat f_12 (Or.inl rfl)))
  refine go_aload_n (n := 1) (by decide +kernel) l_39 f1 ?_
  refine go_getf (x := 195) (ci := 7) (kf := 16) (fin := 2) (t := 2) (by decide +kernel) (by decide +kernel) (by decide +kernel) R_32 f1 g_3 fun v_42 f_43 => ?_
  have f_44 := q_is_eq f_43 e_6
  refine go_iload_n (n := 2) (by decide +kernel) l_40 f2 ?_
  obtain ⟨x_46, hc_45, h⟩ := bp_s h
  refine go_callV (x := 261) (mi := 9) (n := 1) (ci := 3) (as := [v2]) (rest := []) (by decide +kernel) (by decide +kernel) rfl rfl (q_sum8 _ (Nat.le_of_ble_eq_true rfl)) R_32 f_44 g_7 (om_X2_kind (Nat.le_trans (by decide) hd) R_32 g_7 f_44 f2 hc_45) (fun _ S_50 q_53 => ?_) (fun _ _ qq => kr_x qq)
  refine kr_z (by decide) q_53 fun v_48 f_49 R_51 E_52 => ?_
  by_cases hp_55 : x_46 = 8
  · have h := it_t hp_55 h
    refine go_tsin (dflt := 176) (lo := 8) (hi := 16) (offs := #[49, 61, 75, 87, 176, 96, 105, 116, 144]) (o := 49) (t := 76) (by decide +kernel) f_49 (by omega) (by omega) (by rw [hp_55]; decide) (by decide +kernel) ?_
    refine go_aload_n (n := 0) (by decide +kernel) l_38 f0 ?_
    refine go_aload_n (n := 1) (by decide +kernel) l_39 f1 ?_
    refine go_iload_n (n := 2) (by decide +kernel) l_40 f2 ?_
    refine go_iload_n (n := 3) (by decide +kernel) l_41 f_12 ?_
    refine go_iload (n := 4) (by decide +kernel) l_36 f_30 ?_
    obtain ⟨x_57, m_58, hc_56, h⟩ := bd_s h
    refine go_callV (x := 588) (mi := 168) (n := 4) (ci := 12) (as := [v1, v2, v_11, v_29]) (rest := []) (by decide +kernel) (by decide +kernel) rfl rfl (q_sum8 _ (Nat.le_of_ble_eq_true rfl)) R_51 f0 (fx_k (c := 12) R_51 (by decide +kernel)) (om_X11_makeActivity (Nat.le_trans (by decide) hd) R_51 f0 f1 f2 f_12 f_30 hc_56) (fun _ S_61 q_64 => ?_) (fun _ _ qq => kr_x qq)
    refine kr_v q_64 fun R_62 E_63 => ?_
    have E_65 := E_63
    refine go_goto (o := 118) (t := 203) (by decide +kernel) (by decide +kernel) ?_
    cases h
    exact go_vret (by decide +kernel) rfl (hQ E_65 _ _ R_62 q_out_n)
  have h := it_f hp_55 h
  by_cases hp_67 : x_46 = 9
  · have h := it_t hp_67 h
    refine go_tsin (dflt := 176) (lo := 8) (hi := 16) (offs := #[49, 61, 75, 87, 176, 96, 105, 116, 144]) (o := 61) (t := 88) (by decide +kernel) f_49 (by omega) (by omega) (by rw [hp_67]; decide) (by decide +kernel) ?_
    refine go_aload_n (n := 1) (by decide +kernel) l_39 f1 ?_
    refine go_iload_n (n := 2) (by decide +kernel) l_40 f2 ?_
    refine go_aload_n (n := 0) (by decide +kernel) l_38 f0 ?_
    obtain ⟨x_71, e_72, h⟩ := lx_s h
    refine go_getf (x := 71) (ci := 12) (kf := 14) (fin := 0) (t := 0) (by decide +kernel) (by decide +kernel) (by decide +kernel) R_51 f0 (fx_k (c := 12) R_51 (by decide +kernel)) fun v_68 f_69 => ?_
    have f_70 := q_is_eq f_69 e_72
    refine go_iload_n (n := 3) (by decide +kernel) l_41 f_12 ?_
    refine go_iadd (by decide +kernel) f_70 f_12 fun v_73 f_74 => ?_
    obtain ⟨x_76, m_77, hc_75, h⟩ := bd_s h
    refine go_callV (x := 591) (mi := 71) (n := 2) (ci := 7) (as := [v2, v_73]) (rest := []) (by decide +kernel) (by decide +kernel) rfl rfl (q_sum8 _ (Nat.le_of_ble_eq_true rfl)) R_51 f1 g_3 (om_X6_addTimer (Nat.le_trans (by decide) hd) R_51 g_3 f1 f2 f_74 hc_75) (fun _ S_80 q_83 => ?_) (fun _ _ qq => kr_x qq)
    refine kr_v q_83 fun R_81 E_82 => ?_
    have E_84 := E_82
    refine go_goto (o := 104) (t := 203) (by decide +kernel) (by decide +kernel) ?_
    cases h
    exact go_vret (by decide +kernel) rfl (hQ E_84 _ _ R_81 q_out_n)
  have h := it_f hp_67 h
  by_cases hp_86 : x_46 = 10
  · have h := it_t hp_86 h
    refine go_tsin (dflt := 176) (lo := 8) (hi := 16) (offs := #[49, 61, 75, 87, 176, 96, 105, 116, 144]) (o := 75) (t := 102) (by decide +kernel) f_49 (by omega) (by omega) (by rw [hp_86]; decide) (by decide +kernel) ?_
    refine go_aload_n (n := 0) (by decide +kernel) l_38 f0 ?_
    refine go_aload_n (n := 1) (by decide +kernel) l_39 f1 ?_
    refine go_iload_n (n := 2) (by decide +kernel) l_40 f2 ?_
    refine go_iload_n (n := 3) (by decide +kernel) l_41 f_12 ?_
    refine go_iload (n := 4) (by decide +kernel) l_36 f_30 ?_
    obtain ⟨x_88, m_89, hc_87, h⟩ := bd_s h
    refine go_callV (x := 594) (mi := 169) (n := 4) (ci := 12) (as := [v1, v2, v_11, v_29]) (rest := []) (by decide +kernel) (by decide +kernel) rfl rfl (q_sum8 _ (Nat.le_of_ble_eq_true rfl)) R_51 f0 (fx_k (c := 12) R_51 (by decide +kernel)) (om_X11_beginChild (Nat.le_trans (by decide) hd) R_51 f0 f1 f2 f_12 f_30 hc_87) (fun _ S_92 q_95 => ?_) (fun _ _ qq => kr_x qq)
    refine kr_v q_95 fun R_93 E_94 => ?_
    have E_96 := E_94
    refine go_goto (o := 92) (t := 203) (by decide +kernel) (by decide +kernel) ?_
    cases h
    exact go_vret (by decide +kernel) rfl (hQ E_96 _ _ R_93 q_out_n)
  have h := it_f hp_86 h
  by_cases hp_98 : x_46 = 11
  · have h := it_t hp_98 h
    refine go_tsin (dflt := 176) (lo := 8) (hi := 16) (offs := #[49, 61, 75, 87, 176, 96, 105, 116, 144]) (o := 87) (t := 114) (by decide +kernel) f_49 (by omega) (by omega) (by rw [hp_98]; decide) (by decide +kernel) ?_
    refine go_aload_n (n := 0) (by decide +kernel) l_38 f0 ?_
    refine go_aload_n (n := 1) (by decide +kernel) l_39 f1 ?_
    refine go_iload_n (n := 3) (by decide +kernel) l_41 f_12 ?_
    obtain ⟨x_100, m_101, hc_99, h⟩ := bd_s h
    refine go_callV (x := 597) (mi := 170) (n := 2) (ci := 12) (as := [v1, v_11]) (rest := []) (by decide +kernel) (by decide +kernel) rfl rfl (q_sum8 _ (Nat.le_of_ble_eq_true rfl)) R_51 f0 (fx_k (c := 12) R_51 (by decide +kernel)) (om_X11_dropEvent (Nat.le_trans (by decide) hd) R_51 f0 f1 f_12 hc_99) (fun _ S_104 q_107 => ?_) (fun _ _ qq => kr_x qq)
    refine kr_v q_107 fun R_105 E_106 => ?_
    have E_108 := E_106
    refine go_goto (o := 83) (t := 203) (by decide +kernel) (by decide +kernel) ?_
    cases h
    exact go_vret (by decide +kernel) rfl (hQ E_108 _ _ R_105 q_out_n)
  have h := it_f hp_98 h
  by_cases hp_110 : x_46 = 13
  · have h := it_t hp_110 h
    refine go_tsin (dflt := 176) (lo := 8) (hi := 16) (offs := #[49, 61, 75, 87, 176, 96, 105, 116, 144]) (o := 96) (t := 123) (by decide +kernel) f_49 (by omega) (by omega) (by rw [hp_110]; decide) (by decide +kernel) ?_
    refine go_aload_n (n := 0) (by decide +kernel) l_38 f0 ?_
    refine go_aload_n (n := 1) (by decide +kernel) l_39 f1 ?_
    refine go_iload_n (n := 3) (by decide +kernel) l_41 f_12 ?_
    obtain ⟨x_112, m_113, hc_111, h⟩ := bd_s h
    refine go_callV (x := 600) (mi := 167) (n := 2) (ci := 12) (as := [v1, v_11]) (rest := []) (by decide +kernel) (by decide +kernel) rfl rfl (q_sum8 _ (Nat.le_of_ble_eq_true rfl)) R_51 f0 (fx_k (c := 12) R_51 (by decide +kernel)) (om_X11_queueTag (Nat.le_trans (by decide) hd) R_51 f0 f1 f_12 hc_111) (fun _ S_116 q_119 => ?_) (fun _ _ qq => kr_x qq)
    refine kr_v q_119 fun R_117 E_118 => ?_
    have E_120 := E_118
    refine go_goto (o := 74) (t := 203) (by decide +kernel) (by decide +kernel) ?_
    cases h
    exact go_vret (by decide +kernel) rfl (hQ E_120 _ _ R_117 q_out_n)
  have h := it_f hp_110 h
  by_cases hp_122 : x_46 = 14
  · have h := it_t hp_122 h
    refine go_tsin (dflt := 176) (lo := 8) (hi := 16) (offs := #[49, 61, 75, 87, 176, 96, 105, 116, 144]) (o := 105) (t := 132) (by decide +kernel) f_49 (by omega) (by omega) (by rw [hp_122]; decide) (by decide +kernel) ?_
    refine go_aload_n (n := 0) (by decide +kernel) l_38 f0 ?_
    refine go_aload_n (n := 1) (by decide +kernel) l_39 f1 ?_
    refine go_iconst (n := 1) (z := 1) (by decide +kernel) (by decide) fun v_123 f_124 => ?_
    refine go_iload_n (n := 3) (by decide +kernel) l_41 f_12 ?_
    refine go_iconst (n := 0) (z := 0) (by decide +kernel) (by decide) fun v_125 f_126 => ?_
    obtain ⟨x_128, m_129, hc_127, h⟩ := bd_s h
    refine go_callV (x := 458) (mi := 154) (n := 4) (ci := 12) (as := [v1, v_123, v_11, v_125]) (rest := []) (by decide +kernel) (by decide +kernel) rfl rfl (q_sum8 _ (Nat.le_of_ble_eq_true rfl)) R_51 f0 (fx_k (c := 12) R_51 (by decide +kernel)) (om_X11_closeRun (Nat.le_trans (by decide) hd) R_51 f0 f1 f_124 f_12 f_126 hc_127) (fun _ S_132 q_135 => ?_) (fun _ _ qq => kr_x qq)
    refine kr_v q_135 fun R_133 E_134 => ?_
    have E_136 := E_134
    refine go_goto (o := 63) (t := 203) (by decide +kernel) (by decide +kernel) ?_
    cases h
    exact go_vret (by decide +kernel) rfl (hQ E_136 _ _ R_133 q_out_n)
  have h := it_f hp_122 h
  by_cases hp_138 : x_46 = 15
  · have h := it_t hp_138 h
    refine go_tsin (dflt := 176) (lo := 8) (hi := 16) (offs := #[49, 61, 75, 87, 176, 96, 105, 116, 144]) (o := 116) (t := 143) (by decide +kernel) f_49 (by omega) (by omega) (by rw [hp_138]; decide) (by decide +kernel) ?_
    refine go_aload_n (n := 0) (by decide +kernel) l_38 f0 ?_
    refine go_aload_n (n := 1) (by decide +kernel) l_39 f1 ?_
    refine go_aload_n (n := 0) (by decide +kernel) l_38 f0 ?_
    refine go_getf (x := 57) (ci := 12) (kf := 10) (fin := 1) (t := 2) (by decide +kernel) (by decide +kernel) (by decide +kernel) R_51 f0 (fx_k (c := 12) R_51 (by decide +kernel)) fun v_139 f_140 => ?_
    have f_141 := q_is_eq (b := 16) f_140 (fx_v R_51 (by decide +kernel)).symm
    refine go_getf (x := 231) (ci := 5) (kf := 0) (fin := 2) (t := 2) (by decide +kernel) (by decide +kernel) (by decide +kernel) R_51 f_141 (fx_k (c := 5) R_51 (by decide +kernel)) fun v_142 f_143 => ?_
    have f_144 := q_is_eq (b := 17) f_143 (fx_v R_51 (by decide +kernel)).symm
    obtain ⟨x_148, e_149, h⟩ := lx_s h
    refine go_getf (x := 603) (ci := 9) (kf := 8) (fin := 0) (t := 0) (by decide +kernel) (by decide +kernel) (by decide +kernel) R_51 f_144 (fx_k (c := 9) R_51 (by decide +kernel)) fun v_145 f_146 => ?_
    have f_147 := q_is_eq f_146 e_149
    refine go_if (c := .eq) (o := 7) (t := 162) (P := x_148 = 0) (by decide +kernel) (by decide +kernel) f_147 (Iff.rfl) (fun hp_150 => ?_) (fun hp_150 => ?_)
    · have h := it_t hp_150 h
      refine go_iconst (n := 2) (z := 2) (by decide +kernel) (by decide) fun v_151 f_152 => ?_
      exact oj_X11_carryOut_163 hd R_51 f_152 f1 f0 hQ h
    · have h := it_f hp_150 h
      refine go_iconst (n := 3) (z := 3) (by decide +kernel) (by decide) fun v_167 f_168 => ?_
      refine go_goto (o := 4) (t := 163) (by decide +kernel) (by decide +kernel) ?_
      exact oj_X11_carryOut_163 hd R_51 f_168 f1 f0 hQ h
  have h := it_f hp_138 h
  by_cases hp_170 : x_46 = 16
  · have h := it_t hp_170 h
    refine go_tsin (dflt := 176) (lo := 8) (hi := 16) (offs := #[49, 61, 75, 87, 176, 96, 105, 116, 144]) (o := 144) (t := 171) (by decide +kernel) f_49 (by omega) (by omega) (by rw [hp_170]; decide) (by decide +kernel) ?_
    refine go_aload_n (n := 0) (by decide +kernel) l_38 f0 ?_
    refine go_getf (x := 24) (ci := 12) (kf := 2) (fin := 1) (t := 2) (by decide +kernel) (by decide +kernel) (by decide +kernel) R_51 f0 (fx_k (c := 12) R_51 (by decide +kernel)) fun v_171 f_172 => ?_
    have f_173 := q_is_eq (b := 7) f_172 (fx_v R_51 (by decide +kernel)).symm
    obtain ⟨x_175, hc_174, h⟩ := bp_s h
    refine go_callV (x := 127) (mi := 326) (n := 0) (ci := 0) (as := []) (rest := []) (by decide +kernel) (by decide +kernel) rfl rfl (q_sum8 _ (Nat.le_of_ble_eq_true rfl)) R_51 f_173 (fx_k (c := 0) R_51 (by decide +kernel)) (om_Jx4a65c_size_8abf5 (Nat.le_trans (by decide) hd) R_51 (fx_k (c := 0) R_51 (by decide +kernel)) f_173 hc_174) (fun _ S_179 q_182 => ?_) (fun _ _ qq => kr_x qq)
    refine kr_z (by decide) q_182 fun v_177 f_178 R_180 E_181 => ?_
    refine go_bipush (n := 30) (z := 30) (by decide +kernel) (by decide) fun v_183 f_184 => ?_
    refine go_icmp (c := .ge) (o := 12) (t := 192) (P := ¬ (x_175 < 30)) (by decide +kernel) (by decide +kernel) f_178 f_184 (Int.not_lt.symm) (fun hp_185 => ?_) (fun hp_185 => ?_)
    · have h := it_f hp_185 h
      refine go_aload_n (n := 0) (by decide +kernel) l_38 f0 ?_
      refine go_aload_n (n := 1) (by decide +kernel) l_39 f1 ?_
      refine go_iconst (n := 2) (z := 2) (by decide +kernel) (by decide) fun v_186 f_187 => ?_
      refine go_iconst (n := 0) (z := 0) (by decide +kernel) (by decide) fun v_188 f_189 => ?_
      refine go_iconst (n := 0) (z := 0) (by decide +kernel) (by decide) fun v_190 f_191 => ?_
      obtain ⟨x_193, m_194, hc_192, h⟩ := bd_s h
      refine go_callV (x := 458) (mi := 154) (n := 4) (ci := 12) (as := [v1, v_186, v_188, v_190]) (rest := []) (by decide +kernel) (by decide +kernel) rfl rfl (q_sum8 _ (Nat.le_of_ble_eq_true rfl)) R_180 f0 (fx_k (c := 12) R_180 (by decide +kernel)) (om_X11_closeRun (Nat.le_trans (by decide) hd) R_180 f0 f1 f_187 f_189 f_191 hc_192) (fun _ S_197 q_200 => ?_) (fun _ _ qq => kr_x qq)
      refine kr_v q_200 fun R_198 E_199 => ?_
      have E_201 := E_199
      refine go_goto (o := 3) (t := 203) (by decide +kernel) (by decide +kernel) ?_
      cases h
      exact go_vret (by decide +kernel) rfl (hQ E_201 _ _ R_198 q_out_n)
    · have h := it_n hp_185 h
      refine go_aload_n (n := 0) (by decide +kernel) l_38 f0 ?_
      refine go_aload_n (n := 1) (by decide +kernel) l_39 f1 ?_
      refine go_iload_n (n := 3) (by decide +kernel) l_41 f_12 ?_
      obtain ⟨x_203, m_204, hc_202, h⟩ := bd_s h
      refine go_callV (x := 606) (mi := 171) (n := 2) (ci := 12) (as := [v1, v_11]) (rest := []) (by decide +kernel) (by decide +kernel) rfl rfl (q_sum8 _ (Nat.le_of_ble_eq_true rfl)) R_180 f0 (fx_k (c := 12) R_180 (by decide +kernel)) (om_X11_goOnAsNew (Nat.le_trans (by decide) hd) R_180 f0 f1 f_12 hc_202) (fun _ S_207 q_210 => ?_) (fun _ _ qq => kr_x qq)
      refine kr_v q_210 fun R_208 E_209 => ?_
      have E_211 := E_209
      refine go_goto (o := 14) (t := 203) (by decide +kernel) (by decide +kernel) ?_
      cases h
      exact go_vret (by decide +kernel) rfl (hQ E_211 _ _ R_208 q_out_n)
  have h := it_f hp_170 h
  by_cases hp_212 : x_46 = 12
  · refine go_tsin (dflt := 176) (lo := 8) (hi := 16) (offs := #[49, 61, 75, 87, 176, 96, 105, 116, 144]) (o := 176) (t := 203) (by decide +kernel) f_49 (by omega) (by omega) (by rw [hp_212]; decide) (by decide +kernel) ?_
    cases h
    exact go_vret (by decide +kernel) rfl (hQ (Ext.rf _) _ _ R_51 q_out_n)
  refine go_tsout (dflt := 176) (lo := 8) (hi := 16) (offs := #[49, 61, 75, 87, 176, 96, 105, 116, 144]) (t := 203) (by decide +kernel) f_49 (by omega) (by decide +kernel) ?_
  cases h
  exact go_vret (by decide +kernel) rfl (hQ (Ext.rf _) _ _ R_51 q_out_n)
end DF17
