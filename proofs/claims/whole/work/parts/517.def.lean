/-! Methods as functions (written by wip/whole/dec.py), 17: X11_dealWithChildren, X11_sendSignals, X11_goOnAsNew, X11_carryOut. -/
section DF17
noncomputable def fl_X11_dealWithChildren_2 (rec : Int → Int → Int → Int → MM → Option (Int × MM)) (y1 y2 : Int) : Nat → Int → MM → Option (Int × MM)
  | 0, _, _ => none
  | n + 1, y3, m => bp (fm_Jx4a65c_size_8abf5 7 m) fun x_13 =>
if y3 < x_13 then
bp (fm_Jx4a65c_get_915e3 7 y3 m) fun x_26 =>
gd (okc m x_26 7) <| lx (m x_26 4) fun x_45 =>
gd (okc m y1 7) <| lx (m y1 0) fun x_51 =>
if x_45 = x_51 then
lx (m x_26 6) fun x_68 =>
if x_68 = 0 then
bp (fm_X11_typeOf x_26 m) fun x_72 =>
gd (okc m x_72 11) <| lx (m x_72 2) fun x_84 =>
if x_84 = 1 then
bd (fm_X11_cancelRun x_26 m) fun x_157 m_158 =>
lx (w32 (y3 + 1)) fun x_173 =>
fl_X11_dealWithChildren_2 rec y1 y2 n x_173 m_158
else
if x_84 = 2 then
if y2 < 40 then
bd (rec x_26 5 0 (w32 (y2 + 1)) m) fun x_134 m_135 =>
lx (w32 (y3 + 1)) fun x_150 =>
fl_X11_dealWithChildren_2 rec y1 y2 n x_150 m_135
else
lx (w32 (y3 + 1)) fun x_119 =>
fl_X11_dealWithChildren_2 rec y1 y2 n x_119 m
else
lx (w32 (y3 + 1)) fun x_105 =>
fl_X11_dealWithChildren_2 rec y1 y2 n x_105 m
else
lx (w32 (y3 + 1)) fun x_184 =>
fl_X11_dealWithChildren_2 rec y1 y2 n x_184 m
else
lx (w32 (y3 + 1)) fun x_59 =>
fl_X11_dealWithChildren_2 rec y1 y2 n x_59 m
else
some (0, m)
set_option maxHeartbeats 4000000 in
theorem ol_X11_dealWithChildren_2 {xs : List Int32} {d : Nat} {Q : QO → QS → Prop} {mb : MM} {y1 y2 : Int} {rec : Int → Int → Int → Int → MM → Option (Int × MM)} {rz : Int} {rm : MM}
  (hd : 4 ≤ d) (hrec : ∀ {S : QS} {m : MM} {b1 b2 b3 b4 : Int} {a0 : Value} {a1 : Value} {a2 : Value} {a3 : Value} {a4 : Value} {rz : Int} {rm : MM}, Rp S m → q_is 2 a0 4 → q_is 2 a1 b1 → q_is 0 a2 b2 → q_is 0 a3 b3 → q_is 0 a4 b4 → rec b1 b2 b3 b4 m = some (rz, rm) → Mt xs d 154 [a0, a1, a2, a3, a4] S (Cr 9 m rm rz))
  (hQ : Ext mb rm → ∀ o S1, Rp S1 rm → q_out 9 o rz → Q o S1) :
  ∀ (n : Nat) {m : MM} {S : QS} {L : QL} {y3 : Int} {v0 : Value} {v1 : Value} {v2 : Value} {v3 : Value} , Ext mb m → fl_X11_dealWithChildren_2 rec y1 y2 n y3 m = some (rz, rm) → Rp S m → q_lo L 0 = some v0 → q_is 2 v0 4 → q_lo L 1 = some v1 → q_is 2 v1 y1 → q_lo L 2 = some v2 → q_is 0 v2 y2 → q_lo L 3 = some v3 → q_is 0 v3 y3 → Go xs d qM_X11_dealWithChildren 2 L [] S Q := by
  intro n
  induction n with
  | zero => intro m S L y3 v0 v1 v2 v3; intro E h R l0 f0 l1 f1 l2 f2 l3 f3; cases h
  | succ n ih0 =>
    intro m S L y3 v0 v1 v2 v3; intro E h R l0 f0 l1 f1 l2 f2 l3 f3
    have ih : ∀ mq : MM, Ext mb mq → ∀ {z3 : Int} {Sq : QS} {Lq : QL} {u0 : Value} {u1 : Value} {u2 : Value} {u3 : Value}, fl_X11_dealWithChildren_2 rec y1 y2 n z3 mq = some (rz, rm) → Rp Sq mq → q_lo Lq 0 = some u0 → q_is 2 u0 4 → q_lo Lq 1 = some u1 → q_is 2 u1 y1 → q_lo Lq 2 = some u2 → q_is 0 u2 y2 → q_lo Lq 3 = some u3 → q_is 0 u3 z3 → Go xs d qM_X11_dealWithChildren 2 Lq [] Sq Q := fun mq b => by intros; exact ih0 b ‹_› ‹_› ‹_› ‹_› ‹_› ‹_› ‹_› ‹_› ‹_› ‹_›
    unfold fl_X11_dealWithChildren_2 at h
    refine go_iload_n (n := 3) (by decide +kernel) l3 f3 ?_
    refine go_aload_n (n := 0) (by decide +kernel) l0 f0 ?_
    refine go_getf (x := 24) (ci := 12) (kf := 2) (fin := 1) (t := 2) (by decide +kernel) (by decide +kernel) (by decide +kernel) R f0 (fx_k (c := 12) R (by decide +kernel)) fun v_9 f_10 => ?_
    have f_11 := q_is_eq (b := 7) f_10 (fx_v R (by decide +kernel)).symm
    obtain ⟨x_13, hc_12, h⟩ := bp_s h
    refine go_callV (x := 127) (mi := 326) (n := 0) (ci := 0) (as := []) (rest := [v3]) (by decide +kernel) (by decide +kernel) rfl rfl (q_sum8 _ (Nat.le_of_ble_eq_true rfl)) R f_11 (fx_k (c := 0) R (by decide +kernel)) (om_Jx4a65c_size_8abf5 (Nat.le_trans (by decide) hd) R (fx_k (c := 0) R (by decide +kernel)) f_11 hc_12) (fun _ S_17 q_20 => ?_) (fun _ _ qq => kr_x qq)
    refine kr_z (by decide) q_20 fun v_15 f_16 R_18 E_19 => ?_
    refine go_icmp (c := .ge) (o := 95) (t := 105) (P := ¬ (y3 < x_13)) (by decide +kernel) (by decide +kernel) f3 f_16 (Int.not_lt.symm) (fun hp_21 => ?_) (fun hp_21 => ?_)
    · have h := it_f hp_21 h
      cases h
      exact go_vret (by decide +kernel) rfl (hQ E _ _ R_18 q_out_n)
    · have h := it_n hp_21 h
      refine go_aload_n (n := 0) (by decide +kernel) l0 f0 ?_
      refine go_getf (x := 24) (ci := 12) (kf := 2) (fin := 1) (t := 2) (by decide +kernel) (by decide +kernel) (by decide +kernel) R_18 f0 (fx_k (c := 12) R_18 (by decide +kernel)) fun v_22 f_23 => ?_
      have f_24 := q_is_eq (b := 7) f_23 (fx_v R_18 (by decide +kernel)).symm
      refine go_iload_n (n := 3) (by decide +kernel) l3 f3 ?_
      obtain ⟨x_26, hc_25, h⟩ := bp_s h
      refine go_callV (x := 305) (mi := 329) (n := 1) (ci := 0) (as := [v3]) (rest := []) (by decide +kernel) (by decide +kernel) rfl rfl (q_sum8 _ (Nat.le_of_ble_eq_true rfl)) R_18 f_24 (fx_k (c := 0) R_18 (by decide +kernel)) (om_Jx4a65c_get_915e3 (Nat.le_trans (by decide) hd) R_18 (fx_k (c := 0) R_18 (by decide +kernel)) f_24 f3 hc_25) (fun _ S_30 q_33 => ?_) (fun _ _ qq => kr_x qq)
      refine kr_z (by decide) q_33 fun v_28 f_29 R_31 E_32 => ?_
      obtain ⟨g_34, h⟩ := gd_s h
      refine go_cast (x := 181) (kd := 7) (a := 0) (b := 0) (by decide +kernel) (by decide +kernel) R_31 f_29 g_34 ?_
      refine go_astore (n := 4) (by decide +kernel) (by decide +kernel) f_29 fun L_35 l_36 kp_37 => ?_
      have l_38 := kp_37 0 _ l0 (by decide) (Or.inl (by decide))
      have l_39 := kp_37 1 _ l1 (by decide) (Or.inl (by decide))
      have l_40 := kp_37 2 _ l2 (by decide) (Or.inl (by decide))
      have l_41 := kp_37 3 _ l3 (by decide) (Or.inr (q_is_cat f3 (Or.inl rfl)))
      refine go_aload (n := 4) (by decide +kernel) l_36 f_29 ?_
      obtain ⟨x_45, e_46, h⟩ := lx_s h
      refine go_getf (x := 414) (ci := 7) (kf := 4) (fin := 0) (t := 0) (by decide +kernel) (by decide +kernel) (by decide +kernel) R_31 f_29 g_34 fun v_42 f_43 => ?_
      have f_44 := q_is_eq f_43 e_46
      refine go_aload_n (n := 1) (by decide +kernel) l_39 f1 ?_
      obtain ⟨g_49, h⟩ := gd_s h
      obtain ⟨x_51, e_52, h⟩ := lx_s h
      refine go_getf (x := 180) (ci := 7) (kf := 0) (fin := 2) (t := 0) (by decide +kernel) (by decide +kernel) (by decide +kernel) R_31 f1 g_49 fun v_47 f_48 => ?_
      have f_50 := q_is_eq f_48 e_52
      refine go_icmp (c := .ne) (o := 64) (t := 99) (P := ¬ (x_45 = x_51)) (by decide +kernel) (by decide +kernel) f_44 f_50 (Iff.rfl) (fun hp_53 => ?_) (fun hp_53 => ?_)
      · have h := it_f hp_53 h
        refine go_iinc (n := 3) (c := 1) (c' := 1) (by decide +kernel) (by decide +kernel) l_41 f3 (by decide) fun L_54 v_55 f_56 l_57 kp_58 => ?_
        obtain ⟨x_59, e_60, h⟩ := lx_s h
        have f_61 := q_is_eq f_56 e_60
        have l_62 := kp_58 0 _ l_38 (by decide) (Or.inl (by decide))
        have l_63 := kp_58 1 _ l_39 (by decide) (Or.inl (by decide))
        have l_64 := kp_58 2 _ l_40 (by decide) (Or.inr (q_is_cat f2 (Or.inl rfl)))
        refine go_goto (o := (-100)) (t := 2) (by decide +kernel) (by decide +kernel) ?_
        exact ih m E h R_31 l_62 f0 l_63 f1 l_64 f2 l_57 f_61
      · have h := it_n hp_53 h
        refine go_aload (n := 4) (by decide +kernel) l_36 f_29 ?_
        obtain ⟨x_68, e_69, h⟩ := lx_s h
        refine go_getf (x := 208) (ci := 7) (kf := 6) (fin := 0) (t := 0) (by decide +kernel) (by decide +kernel) (by decide +kernel) R_31 f_29 g_34 fun v_65 f_66 => ?_
        have f_67 := q_is_eq f_66 e_69
        refine go_if (c := .eq) (o := 6) (t := 49) (P := x_68 = 0) (by decide +kernel) (by decide +kernel) f_67 (Iff.rfl) (fun hp_70 => ?_) (fun hp_70 => ?_)
        · have h := it_t hp_70 h
          refine go_aload_n (n := 0) (by decide +kernel) l_38 f0 ?_
          refine go_aload (n := 4) (by decide +kernel) l_36 f_29 ?_
          obtain ⟨x_72, hc_71, h⟩ := bp_s h
          refine go_callV (x := 526) (mi := 148) (n := 1) (ci := 12) (as := [v_28]) (rest := []) (by decide +kernel) (by decide +kernel) rfl rfl (q_sum8 _ (Nat.le_of_ble_eq_true rfl)) R_31 f0 (fx_k (c := 12) R_31 (by decide +kernel)) (om_X11_typeOf (Nat.le_trans (by decide) hd) R_31 f0 f_29 hc_71) (fun _ S_76 q_79 => ?_) (fun _ _ qq => kr_x qq)
          refine kr_z (by decide) q_79 fun v_74 f_75 R_77 E_78 => ?_
          obtain ⟨g_82, h⟩ := gd_s h
          obtain ⟨x_84, e_85, h⟩ := lx_s h
          refine go_getf (x := 160) (ci := 11) (kf := 2) (fin := 0) (t := 0) (by decide +kernel) (by decide +kernel) (by decide +kernel) R_77 f_75 g_82 fun v_80 f_81 => ?_
          have f_83 := q_is_eq f_81 e_85
          refine go_istore (n := 5) (by decide +kernel) (by decide +kernel) f_83 fun L_86 l_87 kp_88 => ?_
          have l_89 := kp_88 0 _ l_38 (by decide) (Or.inl (by decide))
          have l_90 := kp_88 1 _ l_39 (by decide) (Or.inl (by decide))
          have l_91 := kp_88 2 _ l_40 (by decide) (Or.inl (by decide))
          have l_92 := kp_88 3 _ l_41 (by decide) (Or.inl (by decide))
          have l_93 := kp_88 4 _ l_36 (by decide) (Or.inr (q_is_cat f_29 (Or.inr rfl)))
          refine go_iload (n := 5) (by decide +kernel) l_87 f_83 ?_
          refine go_iconst (n := 1) (z := 1) (by decide +kernel) (by decide) fun v_94 f_95 => ?_
          refine go_icmp (c := .ne) (o := 13) (t := 76) (P := ¬ (x_84 = 1)) (by decide +kernel) (by decide +kernel) f_83 f_95 (Iff.rfl) (fun hp_96 => ?_) (fun hp_96 => ?_)
          · have h := it_f hp_96 h
            refine go_iload (n := 5) (by decide +kernel) l_87 f_83 ?_
            refine go_iconst (n := 2) (z := 2) (by decide +kernel) (by decide) fun v_97 f_98 => ?_
            refine go_icmp (c := .ne) (o := 20) (t := 99) (P := ¬ (x_84 = 2)) (by decide +kernel) (by decide +kernel) f_83 f_98 (Iff.rfl) (fun hp_99 => ?_) (fun hp_99 => ?_)
            · have h := it_f hp_99 h
              refine go_iinc (n := 3) (c := 1) (c' := 1) (by decide +kernel) (by decide +kernel) l_92 f3 (by decide) fun L_100 v_101 f_102 l_103 kp_104 => ?_
              obtain ⟨x_105, e_106, h⟩ := lx_s h
              have f_107 := q_is_eq f_102 e_106
              have l_108 := kp_104 0 _ l_89 (by decide) (Or.inl (by decide))
              have l_109 := kp_104 1 _ l_90 (by decide) (Or.inl (by decide))
              have l_110 := kp_104 2 _ l_91 (by decide) (Or.inr (q_is_cat f2 (Or.inl rfl)))
              refine go_goto (o := (-100)) (t := 2) (by decide +kernel) (by decide +kernel) ?_
              exact ih m E h R_77 l_108 f0 l_109 f1 l_110 f2 l_103 f_107
            · have h := it_n hp_99 h
              refine go_iload_n (n := 2) (by decide +kernel) l_91 f2 ?_
              refine go_bipush (n := 40) (z := 40) (by decide +kernel) (by decide) fun v_111 f_112 => ?_
              refine go_icmp (c := .ge) (o := 14) (t := 99) (P := ¬ (y2 < 40)) (by decide +kernel) (by decide +kernel) f2 f_112 (Int.not_lt.symm) (fun hp_113 => ?_) (fun hp_113 => ?_)
              · have h := it_f hp_113 h
                refine go_iinc (n := 3) (c := 1) (c' := 1) (by decide +kernel) (by decide +kernel) l_92 f3 (by decide) fun L_114 v_115 f_116 l_117 kp_118 => ?_
                obtain ⟨x_119, e_120, h⟩ := lx_s h
                have f_121 := q_is_eq f_116 e_120
                have l_122 := kp_118 0 _ l_89 (by decide) (Or.inl (by decide))
                have l_123 := kp_118 1 _ l_90 (by decide) (Or.inl (by decide))
                have l_124 := kp_118 2 _ l_91 (by decide) (Or.inr (q_is_cat f2 (Or.inl rfl)))
                refine go_goto (o := (-100)) (t := 2) (by decide +kernel) (by decide +kernel) ?_
                exact ih m E h R_77 l_122 f0 l_123 f1 l_124 f2 l_117 f_121
              · have h := it_n hp_113 h
                refine go_aload_n (n := 0) (by decide +kernel) l_89 f0 ?_
                refine go_aload (n := 4) (by decide +kernel) l_93 f_29 ?_
                refine go_iconst (n := 5) (z := 5) (by decide +kernel) (by decide) fun v_125 f_126 => ?_
                refine go_iconst (n := 0) (z := 0) (by decide +kernel) (by decide) fun v_127 f_128 => ?_
                refine go_iload_n (n := 2) (by decide +kernel) l_91 f2 ?_
                refine go_iconst (n := 1) (z := 1) (by decide +kernel) (by decide) fun v_129 f_130 => ?_
                refine go_iadd (by decide +kernel) f2 f_130 fun v_131 f_132 => ?_
                obtain ⟨x_134, m_135, hc_133, h⟩ := bd_s h
                refine go_callV (x := 458) (mi := 154) (n := 4) (ci := 12) (as := [v_28, v_125, v_127, v_131]) (rest := []) (by decide +kernel) (by decide +kernel) rfl rfl (q_sum8 _ (Nat.le_of_ble_eq_true rfl)) R_77 f0 (fx_k (c := 12) R_77 (by decide +kernel)) (hrec R_77 f0 f_29 f_126 f_128 f_132 hc_133) (fun _ S_138 q_141 => ?_) (fun _ _ qq => kr_x qq)
                refine kr_v q_141 fun R_139 E_140 => ?_
                have E_144 := Ext.tr E E_140
                refine go_iinc (n := 3) (c := 1) (c' := 1) (by decide +kernel) (by decide +kernel) l_92 f3 (by decide) fun L_145 v_146 f_147 l_148 kp_149 => ?_
                obtain ⟨x_150, e_151, h⟩ := lx_s h
                have f_152 := q_is_eq f_147 e_151
                have l_153 := kp_149 0 _ l_89 (by decide) (Or.inl (by decide))
                have l_154 := kp_149 1 _ l_90 (by decide) (Or.inl (by decide))
                have l_155 := kp_149 2 _ l_91 (by decide) (Or.inr (q_is_cat f2 (Or.inl rfl)))
                refine go_goto (o := (-100)) (t := 2) (by decide +kernel) (by decide +kernel) ?_
                exact ih m_135 E_144 h R_139 l_153 f0 l_154 f1 l_155 f2 l_148 f_152
          · have h := it_n hp_96 h
            refine go_aload_n (n := 0) (by decide +kernel) l_89 f0 ?_
            refine go_aload (n := 4) (by decide +kernel) l_93 f_29 ?_
            obtain ⟨x_157, m_158, hc_156, h⟩ := bd_s h
            refine go_callV (x := 242) (mi := 153) (n := 1) (ci := 12) (as := [v_28]) (rest := []) (by decide +kernel) (by decide +kernel) rfl rfl (q_sum8 _ (Nat.le_of_ble_eq_true rfl)) R_77 f0 (fx_k (c := 12) R_77 (by decide +kernel)) (om_X11_cancelRun (Nat.le_trans (by decide) hd) R_77 f0 f_29 hc_156) (fun _ S_161 q_164 => ?_) (fun _ _ qq => kr_x qq)
            refine kr_z (by decide) q_164 fun v_159 f_160 R_162 E_163 => ?_
            have E_167 := Ext.tr E E_163
            refine go_pop (by decide +kernel) f_160 (Or.inl rfl) ?_
            refine go_goto (o := 26) (t := 99) (by decide +kernel) (by decide +kernel) ?_
            refine go_iinc (n := 3) (c := 1) (c' := 1) (by decide +kernel) (by decide +kernel) l_92 f3 (by decide) fun L_168 v_169 f_170 l_171 kp_172 => ?_
            obtain ⟨x_173, e_174, h⟩ := lx_s h
            have f_175 := q_is_eq f_170 e_174
            have l_176 := kp_172 0 _ l_89 (by decide) (Or.inl (by decide))
            have l_177 := kp_172 1 _ l_90 (by decide) (Or.inl (by decide))
            have l_178 := kp_172 2 _ l_91 (by decide) (Or.inr (q_is_cat f2 (Or.inl rfl)))
            refine go_goto (o := (-100)) (t := 2) (by decide +kernel) (by decide +kernel) ?_
            exact ih m_158 E_167 h R_162 l_176 f0 l_177 f1 l_178 f2 l_171 f_175
        · have h := it_f hp_70 h
          refine go_goto (o := 53) (t := 99) (by decide +kernel) (by decide +kernel) ?_
          refine go_iinc (n := 3) (c := 1) (c' := 1) (by decide +kernel) (by decide +kernel) l_41 f3 (by decide) fun L_179 v_180 f_181 l_182 kp_183 => ?_
          obtain ⟨x_184, e_185, h⟩ := lx_s h
          have f_186 := q_is_eq f_181 e_185
          have l_187 := kp_183 0 _ l_38 (by decide) (Or.inl (by decide))
          have l_188 := kp_183 1 _ l_39 (by decide) (Or.inl (by decide))
          have l_189 := kp_183 2 _ l_40 (by decide) (Or.inr (q_is_cat f2 (Or.inl rfl)))
          refine go_goto (o := (-100)) (t := 2) (by decide +kernel) (by decide +kernel) ?_
          exact ih m E h R_31 l_187 f0 l_188 f1 l_189 f2 l_182 f_186
noncomputable def fb_X11_dealWithChildren (rec : Int → Int → Int → Int → MM → Option (Int × MM)) (p1 p2 : Int) (m0 : MM) : Option (Int × MM) := fl_X11_dealWithChildren_2 rec p1 p2  BIG 0 m0
set_option maxHeartbeats 4000000 in
theorem ob_X11_dealWithChildren {xs : List Int32} {d : Nat} {S : QS} {m0 : MM} {p1 p2 : Int} {v0 : Value} {v1 : Value} {v2 : Value} {rec : Int → Int → Int → Int → MM → Option (Int × MM)} {rz : Int} {rm : MM}
  (hd : 5 ≤ d) (hrec : ∀ {S : QS} {m : MM} {b1 b2 b3 b4 : Int} {a0 : Value} {a1 : Value} {a2 : Value} {a3 : Value} {a4 : Value} {rz : Int} {rm : MM}, Rp S m → q_is 2 a0 4 → q_is 2 a1 b1 → q_is 0 a2 b2 → q_is 0 a3 b3 → q_is 0 a4 b4 → rec b1 b2 b3 b4 m = some (rz, rm) → Mt xs (d - 1) 154 [a0, a1, a2, a3, a4] S (Cr 9 m rm rz)) (R : Rp S m0) (f0 : q_is 2 v0 4) (f1 : q_is 2 v1 p1) (f2 : q_is 0 v2 p2)
  (h : fb_X11_dealWithChildren rec p1 p2 m0 = some (rz, rm)) : Mt xs d 156 [v0, v1, v2] S (Cr 9 m0 rm rz) := by
  obtain ⟨d, rfl⟩ : ∃ e, d = e + 1 := ⟨d - 1, by omega⟩
  have hd : 4 ≤ d := Nat.le_of_succ_le_succ hd
  rw [Nat.add_sub_cancel] at hrec
  refine Mt.of (M := qM_X11_dealWithChildren) rfl (by rw [sl_1 (q_is_cat f0 (Or.inr rfl)), sl_1 (q_is_cat f1 (Or.inr rfl)), sl_1 (q_is_cat f2 (Or.inl rfl)), sl_0]; decide) ?_
  rw [la_1 (q_is_cat f0 (Or.inr rfl)), la_1 (q_is_cat f1 (Or.inr rfl)), la_1 (q_is_cat f2 (Or.inl rfl)), la_0]
  obtain ⟨L, hL⟩ : ∃ L : QL, L = [(0, v0), (0 + 1, v1), (0 + 1 + 1, v2)] := ⟨_, rfl⟩
  rw [← hL]
  have l0 : q_lo L 0 = some v0 := by rw [hL]; rfl
  have l1 : q_lo L 1 = some v1 := by rw [hL]; rfl
  have l2 : q_lo L 2 = some v2 := by rw [hL]; rfl
  have hQ : Ext m0 rm → ∀ o S1, Rp S1 rm → q_out 9 o rz → (Cr 9 m0 rm rz) o S1 := fun a o S1 b e => ⟨b, a, e⟩
  unfold fb_X11_dealWithChildren at h
  refine go_iconst (n := 0) (z := 0) (by decide +kernel) (by decide) fun v_1 f_2 => ?_
  refine go_istore_n (n := 3) (by decide +kernel) (by decide +kernel) f_2 fun L_3 l_4 kp_5 => ?_
  have l_6 := kp_5 0 _ l0 (by decide) (Or.inl (by decide))
  have l_7 := kp_5 1 _ l1 (by decide) (Or.inl (by decide))
  have l_8 := kp_5 2 _ l2 (by decide) (Or.inr (q_is_cat f2 (Or.inl rfl)))
  refine ol_X11_dealWithChildren_2 hd hrec   hQ BIG (Ext.rf _) h R l_6 f0 l_7 f1 l_8 f2 l_4 f_2
/-- closeRun, n deep at most -/
noncomputable def fm_X11_closeRun : Nat → Int → Int → Int → Int → MM → Option (Int × MM)
  | 0, _, _, _, _, _ => none
  | n + 1, p1, p2, p3, p4, m0 => fb_X11_closeRun (fun b1 b2 m => fb_X11_dealWithChildren (fun c1 c2 c3 c4 m => fm_X11_closeRun n c1 c2 c3 c4 m) b1 b2 m) p1 p2 p3 p4 m0
theorem om_X11_closeRun_n {xs : List Int32} : ∀ (n : Nat) {d : Nat} {S : QS} {m0 : MM} {p1 p2 p3 p4 : Int} {v0 v1 v2 v3 v4 : Value} {rz : Int} {rm : MM}, 20 + 2 * n ≤ d → Rp S m0 → q_is 2 v0 4 → q_is 2 v1 p1 → q_is 0 v2 p2 → q_is 0 v3 p3 → q_is 0 v4 p4 → fm_X11_closeRun n p1 p2 p3 p4 m0 = some (rz, rm) → Mt xs d 154 [v0, v1, v2, v3, v4] S (Cr 9 m0 rm rz) := by
  intro n
  induction n with
  | zero => intro d S m0 p1 p2 p3 p4 v0 v1 v2 v3 v4 rz rm hd R f0 f1 f2 f3 f4 h; cases h
  | succ n ih =>
    intro d S m0 p1 p2 p3 p4 v0 v1 v2 v3 v4 rz rm hd R f0 f1 f2 f3 f4 h
    exact ob_X11_closeRun (by omega) (fun R1 g0 g1 g2 h1 => ob_X11_dealWithChildren (by omega) (fun R2 k0 k1 k2 k3 k4 h2 => ih (by omega) R2 k0 k1 k2 k3 k4 h2) R1 g0 g1 g2 h1) R f0 f1 f2 f3 f4 h
theorem om_X11_closeRun {xs : List Int32} {d : Nat} {S : QS} {m0 : MM} {p1 p2 p3 p4 : Int} {v0 v1 v2 v3 v4 : Value} {rz : Int} {rm : MM} (hd : 150 ≤ d) (R : Rp S m0) (f0 : q_is 2 v0 4) (f1 : q_is 2 v1 p1) (f2 : q_is 0 v2 p2) (f3 : q_is 0 v3 p3) (f4 : q_is 0 v4 p4) (h : fm_X11_closeRun BIGR p1 p2 p3 p4 m0 = some (rz, rm)) : Mt xs d 154 [v0, v1, v2, v3, v4] S (Cr 9 m0 rm rz) :=
  om_X11_closeRun_n BIGR (by unfold BIGR; omega) R f0 f1 f2 f3 f4 h
noncomputable def fm_X11_dealWithChildren (p1 p2 : Int) (m0 : MM) : Option (Int × MM) := fb_X11_dealWithChildren (fun c1 c2 c3 c4 m => fm_X11_closeRun BIGR c1 c2 c3 c4 m) p1 p2 m0
theorem om_X11_dealWithChildren {xs : List Int32} {d : Nat} {S : QS} {m0 : MM} {p1 p2 : Int} {v0 v1 v2 : Value} {rz : Int} {rm : MM} (hd : 170 ≤ d) (R : Rp S m0) (f0 : q_is 2 v0 4) (f1 : q_is 2 v1 p1) (f2 : q_is 0 v2 p2) (h : fm_X11_dealWithChildren p1 p2 m0 = some (rz, rm)) : Mt xs d 156 [v0, v1, v2] S (Cr 9 m0 rm rz) :=
  ob_X11_dealWithChildren (by omega) (fun R2 k0 k1 k2 k3 k4 h2 => om_X11_closeRun (by omega) R2 k0 k1 k2 k3 k4 h2) R f0 f1 f2 h
noncomputable def fl_X11_sendSignals_9 (y1 y2 y4 : Int) : Nat → Int → MM → Option (Int × MM)
  | 0, _, _ => none
  | n + 1, y5, m => if y5 < y4 then
gd (okc m y2 3) <| bp (fm_X2_kind y2 y5 m) fun x_24 =>
if x_24 = 4 then
bp (fm_X2_x y2 y5 m) fun x_50 =>
bp (fm_X2_y y2 y5 m) fun x_59 =>
bd (fm_X11_arrive y1 4 x_50 x_59 m) fun x_68 m_69 =>
lx (w32 (y5 + 1)) fun x_84 =>
fl_X11_sendSignals_9 y1 y2 y4 n x_84 m_69
else
lx (w32 (y5 + 1)) fun x_40 =>
fl_X11_sendSignals_9 y1 y2 y4 n x_40 m
else
some (0, m)
set_option maxHeartbeats 4000000 in
theorem ol_X11_sendSignals_9 {xs : List Int32} {d : Nat} {Q : QO → QS → Prop} {mb : MM} {y1 y2 y4 : Int} {rz : Int} {rm : MM}
  (hd : 3 ≤ d)
  (hQ : Ext mb rm → ∀ o S1, Rp S1 rm → q_out 9 o rz → Q o S1) :
  ∀ (n : Nat) {m : MM} {S : QS} {L : QL} {y5 : Int} {v0 : Value} {v1 : Value} {v2 : Value} {v4 : Value} {v5 : Value} , Ext mb m → fl_X11_sendSignals_9 y1 y2 y4 n y5 m = some (rz, rm) → Rp S m → q_lo L 0 = some v0 → q_is 2 v0 4 → q_lo L 1 = some v1 → q_is 2 v1 y1 → q_lo L 2 = some v2 → q_is 2 v2 y2 → q_lo L 4 = some v4 → q_is 0 v4 y4 → q_lo L 5 = some v5 → q_is 0 v5 y5 → Go xs d qM_X11_sendSignals 9 L [] S Q := by
  intro n
  induction n with
  | zero => intro m S L y5 v0 v1 v2 v4 v5; intro E h R l0 f0 l1 f1 l2 f2 l4 f4 l5 f5; cases h
  | succ n ih0 =>
    intro m S L y5 v0 v1 v2 v4 v5; intro E h R l0 f0 l1 f1 l2 f2 l4 f4 l5 f5
    have ih : ∀ mq : MM, Ext mb mq → ∀ {z5 : Int} {Sq : QS} {Lq : QL} {u0 : Value} {u1 : Value} {u2 : Value} {u4 : Value} {u5 : Value}, fl_X11_sendSignals_9 y1 y2 y4 n z5 mq = some (rz, rm) → Rp Sq mq → q_lo Lq 0 = some u0 → q_is 2 u0 4 → q_lo Lq 1 = some u1 → q_is 2 u1 y1 → q_lo Lq 2 = some u2 → q_is 2 u2 y2 → q_lo Lq 4 = some u4 → q_is 0 u4 y4 → q_lo Lq 5 = some u5 → q_is 0 u5 z5 → Go xs d qM_X11_sendSignals 9 Lq [] Sq Q := fun mq b => by intros; exact ih0 b ‹_› ‹_› ‹_› ‹_› ‹_› ‹_› ‹_› ‹_› ‹_› ‹_› ‹_› ‹_›
    unfold fl_X11_sendSignals_9 at h
    refine go_iload (n := 5) (by decide +kernel) l5 f5 ?_
    refine go_iload (n := 4) (by decide +kernel) l4 f4 ?_
    refine go_icmp (c := .ge) (o := 37) (t := 50) (P := ¬ (y5 < y4)) (by decide +kernel) (by decide +kernel) f5 f4 (Int.not_lt.symm) (fun hp_21 => ?_) (fun hp_21 => ?_)
    · have h := it_f hp_21 h
      cases h
      exact go_vret (by decide +kernel) rfl (hQ E _ _ R q_out_n)
    · have h := it_n hp_21 h
      refine go_aload_n (n := 2) (by decide +kernel) l2 f2 ?_
      refine go_iload (n := 5) (by decide +kernel) l5 f5 ?_
      obtain ⟨g_22, h⟩ := gd_s h
      obtain ⟨x_24, hc_23, h⟩ := bp_s h
      refine go_callV (x := 261) (mi := 9) (n := 1) (ci := 3) (as := [v5]) (rest := []) (by decide +kernel) (by decide +kernel) rfl rfl (q_sum8 _ (Nat.le_of_ble_eq_true rfl)) R f2 g_22 (om_X2_kind (Nat.le_trans (by decide) hd) R g_22 f2 f5 hc_23) (fun _ S_28 q_31 => ?_) (fun _ _ qq => kr_x qq)
      refine kr_z (by decide) q_31 fun v_26 f_27 R_29 E_30 => ?_
      refine go_iconst (n := 4) (z := 4) (by decide +kernel) (by decide) fun v_32 f_33 => ?_
      refine go_icmp (c := .ne) (o := 21) (t := 44) (P := ¬ (x_24 = 4)) (by decide +kernel) (by decide +kernel) f_27 f_33 (Iff.rfl) (fun hp_34 => ?_) (fun hp_34 => ?_)
      · have h := it_f hp_34 h
        refine go_iinc (n := 5) (c := 1) (c' := 1) (by decide +kernel) (by decide +kernel) l5 f5 (by decide) fun L_35 v_36 f_37 l_38 kp_39 => ?_
        obtain ⟨x_40, e_41, h⟩ := lx_s h
        have f_42 := q_is_eq f_37 e_41
        have l_43 := kp_39 0 _ l0 (by decide) (Or.inl (by decide))
        have l_44 := kp_39 1 _ l1 (by decide) (Or.inl (by decide))
        have l_45 := kp_39 2 _ l2 (by decide) (Or.inl (by decide))
        have l_46 := kp_39 4 _ l4 (by decide) (Or.inr (q_is_cat f4 (Or.inl rfl)))
        refine go_goto (o := (-38)) (t := 9) (by decide +kernel) (by decide +kernel) ?_
        exact ih m E h R_29 l_43 f0 l_44 f1 l_45 f2 l_46 f4 l_38 f_42
      · have h := it_n hp_34 h
        refine go_aload_n (n := 0) (by decide +kernel) l0 f0 ?_
        refine go_aload_n (n := 1) (by decide +kernel) l1 f1 ?_
        refine go_iconst (n := 4) (z := 4) (by decide +kernel) (by decide) fun v_47 f_48 => ?_
        refine go_aload_n (n := 2) (by decide +kernel) l2 f2 ?_
        refine go_iload (n := 5) (by decide +kernel) l5 f5 ?_
        obtain ⟨x_50, hc_49, h⟩ := bp_s h
        refine go_callV (x := 264) (mi := 10) (n := 1) (ci := 3) (as := [v5]) (rest := [v_47, v1, v0]) (by decide +kernel) (by decide +kernel) rfl rfl (q_sum8 _ (Nat.le_of_ble_eq_true rfl)) R_29 f2 g_22 (om_X2_x (Nat.le_trans (by decide) hd) R_29 g_22 f2 f5 hc_49) (fun _ S_54 q_57 => ?_) (fun _ _ qq => kr_x qq)
        refine kr_z (by decide) q_57 fun v_52 f_53 R_55 E_56 => ?_
        refine go_aload_n (n := 2) (by decide +kernel) l2 f2 ?_
        refine go_iload (n := 5) (by decide +kernel) l5 f5 ?_
        obtain ⟨x_59, hc_58, h⟩ := bp_s h
        refine go_callV (x := 267) (mi := 11) (n := 1) (ci := 3) (as := [v5]) (rest := [v_52, v_47, v1, v0]) (by decide +kernel) (by decide +kernel) rfl rfl (q_sum8 _ (Nat.le_of_ble_eq_true rfl)) R_55 f2 g_22 (om_X2_y (Nat.le_trans (by decide) hd) R_55 g_22 f2 f5 hc_58) (fun _ S_63 q_66 => ?_) (fun _ _ qq => kr_x qq)
        refine kr_z (by decide) q_66 fun v_61 f_62 R_64 E_65 => ?_
        obtain ⟨x_68, m_69, hc_67, h⟩ := bd_s h
        refine go_callV (x := 204) (mi := 152) (n := 4) (ci := 12) (as := [v1, v_47, v_52, v_61]) (rest := []) (by decide +kernel) (by decide +kernel) rfl rfl (q_sum8 _ (Nat.le_of_ble_eq_true rfl)) R_64 f0 (fx_k (c := 12) R_64 (by decide +kernel)) (om_X11_arrive (Nat.le_trans (by decide) hd) R_64 f0 f1 f_48 f_53 f_62 hc_67) (fun _ S_72 q_75 => ?_) (fun _ _ qq => kr_x qq)
        refine kr_v q_75 fun R_73 E_74 => ?_
        have E_78 := Ext.tr E E_74
        refine go_iinc (n := 5) (c := 1) (c' := 1) (by decide +kernel) (by decide +kernel) l5 f5 (by decide) fun L_79 v_80 f_81 l_82 kp_83 => ?_
        obtain ⟨x_84, e_85, h⟩ := lx_s h
        have f_86 := q_is_eq f_81 e_85
        have l_87 := kp_83 0 _ l0 (by decide) (Or.inl (by decide))
        have l_88 := kp_83 1 _ l1 (by decide) (Or.inl (by decide))
        have l_89 := kp_83 2 _ l2 (by decide) (Or.inl (by decide))
        have l_90 := kp_83 4 _ l4 (by decide) (Or.inr (q_is_cat f4 (Or.inl rfl)))
        refine go_goto (o := (-38)) (t := 9) (by decide +kernel) (by decide +kernel) ?_
        exact ih m_69 E_78 h R_73 l_87 f0 l_88 f1 l_89 f2 l_90 f4 l_82 f_86
noncomputable def fm_X11_sendSignals (p1 p2 p3 : Int) (m0 : MM) : Option (Int × MM) := gd (okc m0 p2 3) <| lx (m0 p2 1) fun x_5 =>
fl_X11_sendSignals_9 p1 p2 x_5  BIG p3 m0
set_option maxHeartbeats 4000000 in
theorem om_X11_sendSignals {xs : List Int32} {d : Nat} {S : QS} {m0 : MM} {p1 p2 p3 : Int} {v0 : Value} {v1 : Value} {v2 : Value} {v3 : Value} {rz : Int} {rm : MM}
  (hd : 4 ≤ d) (R : Rp S m0) (f0 : q_is 2 v0 4) (f1 : q_is 2 v1 p1) (f2 : q_is 2 v2 p2) (f3 : q_is 0 v3 p3)
  (h : fm_X11_sendSignals p1 p2 p3 m0 = some (rz, rm)) : Mt xs d 172 [v0, v1, v2, v3] S (Cr 9 m0 rm rz) := by
  obtain ⟨d, rfl⟩ : ∃ e, d = e + 1 := ⟨d - 1, by omega⟩
  have hd : 3 ≤ d := Nat.le_of_succ_le_succ hd
  refine Mt.of (M := qM_X11_sendSignals) rfl (by rw [sl_1 (q_is_cat f0 (Or.inr rfl)), sl_1 (q_is_cat f1 (Or.inr rfl)), sl_1 (q_is_cat f2 (Or.inr rfl)), sl_1 (q_is_cat f3 (Or.inl rfl)), sl_0]; decide) ?_
  rw [la_1 (q_is_cat f0 (Or.inr rfl)), la_1 (q_is_cat f1 (Or.inr rfl)), la_1 (q_is_cat f2 (Or.inr rfl)), la_1 (q_is_cat f3 (Or.inl rfl)), la_0]
  obtain ⟨L, hL⟩ : ∃ L : QL, L = [(0, v0), (0 + 1, v1), (0 + 1 + 1, v2), (0 + 1 + 1 + 1, v3)] := ⟨_, rfl⟩
  rw [← hL]
  have l0 : q_lo L 0 = some v0 := by rw [hL]; rfl
  have l1 : q_lo L 1 = some v1 := by rw [hL]; rfl
  have l2 : q_lo L 2 = some v2 := by rw [hL]; rfl
  have l3 : q_lo L 3 = some v3 := by rw [hL]; rfl
  have hQ : Ext m0 rm → ∀ o S1, Rp S1 rm → q_out 9 o rz → (Cr 9 m0 rm rz) o S1 := fun a o S1 b e => ⟨b, a, e⟩
  unfold fm_X11_sendSignals at h
  refine go_aload_n (n := 2) (by decide +kernel) l2 f2 ?_
  obtain ⟨g_3, h⟩ := gd_s h
  obtain ⟨x_5, e_6, h⟩ := lx_s h
  refine go_getf (x := 199) (ci := 3) (kf := 1) (fin := 0) (t := 0) (by decide +kernel) (by decide +kernel) (by decide +kernel) R f2 g_3 fun v_1 f_2 => ?_
  have f_4 := q_is_eq f_2 e_6
  refine go_istore (n := 4) (by decide +kernel) (by decide +kernel) f_4 fun L_7 l_8 kp_9 => ?_
  have l_10 := kp_9 0 _ l0 (by decide) (Or.inl (by decide))
  have l_11 := kp_9 1 _ l1 (by decide) (Or.inl (by decide))
  have l_12 := kp_9 2 _ l2 (by decide) (Or.inl (by decide))
  have l_13 := kp_9 3 _ l3 (by decide) (Or.inr (q_is_cat f3 (Or.inl rfl)))
  refine go_iload_n (n := 3) (by decide +kernel) l_13 f3 ?_
  refine go_istore (n := 5) (by decide +kernel) (by decide +kernel) f3 fun L_14 l_15 kp_16 => ?_
  have l_17 := kp_16 0 _ l_10 (by decide) (Or.inl (by decide))
  have l_18 := kp_16 1 _ l_11 (by decide) (Or.inl (by decide))
  have l_19 := kp_16 2 _ l_12 (by decide) (Or.inl (by decide))
  have l_20 := kp_16 4 _ l_8 (by decide) (Or.inr (q_is_cat f_4 (Or.inl rfl)))
  refine ol_X11_sendSignals_9 hd   hQ BIG (Ext.rf _) h R l_17 f0 l_18 f1 l_19 f2 l_20 f_4 l_15 f3
noncomputable def fl_X11_goOnAsNew_53 (y1 y3 y4 y5 : Int) (k84 : MM → Option (Int × MM)) : Nat → Int → MM → Option (Int × MM)
  | 0, _, _ => none
  | n + 1, y6, m => gd (okc m y5 6) <| lx (m y5 2) fun x_96 =>
if y6 < x_96 then
bp (fm_X5_at y5 y6 m) fun x_102 =>
bd (fm_X11_arrive y3 4 y4 x_102 m) fun x_111 m_112 =>
lx (w32 (y6 + 1)) fun x_127 =>
fl_X11_goOnAsNew_53 y1 y3 y4 y5 k84 n x_127 m_112
else
k84 m
set_option maxHeartbeats 4000000 in
theorem ol_X11_goOnAsNew_53 {xs : List Int32} {d : Nat} {Q : QO → QS → Prop} {mb : MM} {y1 y3 y4 y5 : Int} {k84 : MM → Option (Int × MM)} {rz : Int} {rm : MM}
  (hd : 170 ≤ d)
  (hk84 : ∀ mq : MM, Ext mb mq → ∀ {Sq : QS} {Lq : QL} {u0 : Value} {u1 : Value} {u3 : Value} {u4 : Value}, k84 mq = some (rz, rm) → Rp Sq mq → q_lo Lq 0 = some u0 → q_is 2 u0 4 → q_lo Lq 1 = some u1 → q_is 2 u1 y1 → q_lo Lq 3 = some u3 → q_is 2 u3 y3 → q_lo Lq 4 = some u4 → q_is 0 u4 y4 → Go xs d qM_X11_goOnAsNew 84 Lq [] Sq Q)
  (hQ : Ext mb rm → ∀ o S1, Rp S1 rm → q_out 9 o rz → Q o S1) :
  ∀ (n : Nat) {m : MM} {S : QS} {L : QL} {y6 : Int} {v0 : Value} {v1 : Value} {v3 : Value} {v4 : Value} {v5 : Value} {v6 : Value} , Ext mb m → fl_X11_goOnAsNew_53 y1 y3 y4 y5 k84 n y6 m = some (rz, rm) → Rp S m → q_lo L 0 = some v0 → q_is 2 v0 4 → q_lo L 1 = some v1 → q_is 2 v1 y1 → q_lo L 3 = some v3 → q_is 2 v3 y3 → q_lo L 4 = some v4 → q_is 0 v4 y4 → q_lo L 5 = some v5 → q_is 2 v5 y5 → q_lo L 6 = some v6 → q_is 0 v6 y6 → Go xs d qM_X11_goOnAsNew 53 L [] S Q := by
  intro n
  induction n with
  | zero => intro m S L y6 v0 v1 v3 v4 v5 v6; intro E h R l0 f0 l1 f1 l3 f3 l4 f4 l5 f5 l6 f6; cases h
  | succ n ih0 =>
    intro m S L y6 v0 v1 v3 v4 v5 v6; intro E h R l0 f0 l1 f1 l3 f3 l4 f4 l5 f5 l6 f6
    have ih : ∀ mq : MM, Ext mb mq → ∀ {z6 : Int} {Sq : QS} {Lq : QL} {u0 : Value} {u1 : Value} {u3 : Value} {u4 : Value} {u5 : Value} {u6 : Value}, fl_X11_goOnAsNew_53 y1 y3 y4 y5 k84 n z6 mq = some (rz, rm) → Rp Sq mq → q_lo Lq 0 = some u0 → q_is 2 u0 4 → q_lo Lq 1 = some u1 → q_is 2 u1 y1 → q_lo Lq 3 = some u3 → q_is 2 u3 y3 → q_lo Lq 4 = some u4 → q_is 0 u4 y4 → q_lo Lq 5 = some u5 → q_is 2 u5 y5 → q_lo Lq 6 = some u6 → q_is 0 u6 z6 → Go xs d qM_X11_goOnAsNew 53 Lq [] Sq Q := fun mq b => by intros; exact ih0 b ‹_› ‹_› ‹_› ‹_› ‹_› ‹_› ‹_› ‹_› ‹_› ‹_› ‹_› ‹_› ‹_› ‹_›
    unfold fl_X11_goOnAsNew_53 at h
    refine go_iload (n := 6) (by decide +kernel) l6 f6 ?_
    refine go_aload (n := 5) (by decide +kernel) l5 f5 ?_
    obtain ⟨g_94, h⟩ := gd_s h
    obtain ⟨x_96, e_97, h⟩ := lx_s h
    refine go_getf (x := 108) (ci := 6) (kf := 2) (fin := 0) (t := 0) (by decide +kernel) (by decide +kernel) (by decide +kernel) R f5 g_94 fun v_92 f_93 => ?_
    have f_95 := q_is_eq f_93 e_97
    refine go_icmp (c := .ge) (o := 24) (t := 84) (P := ¬ (y6 < x_96)) (by decide +kernel) (by decide +kernel) f6 f_95 (Int.not_lt.symm) (fun hp_98 => ?_) (fun hp_98 => ?_)
    · have h := it_f hp_98 h
      exact hk84 m E h R l0 f0 l1 f1 l3 f3 l4 f4
    · have h := it_n hp_98 h
      refine go_aload_n (n := 0) (by decide +kernel) l0 f0 ?_
      refine go_aload_n (n := 3) (by decide +kernel) l3 f3 ?_
      refine go_iconst (n := 4) (z := 4) (by decide +kernel) (by decide) fun v_99 f_100 => ?_
      refine go_iload (n := 4) (by decide +kernel) l4 f4 ?_
      refine go_aload (n := 5) (by decide +kernel) l5 f5 ?_
      refine go_iload (n := 6) (by decide +kernel) l6 f6 ?_
      obtain ⟨x_102, hc_101, h⟩ := bp_s h
      refine go_callV (x := 466) (mi := 59) (n := 1) (ci := 6) (as := [v6]) (rest := [v4, v_99, v3, v0]) (by decide +kernel) (by decide +kernel) rfl rfl (q_sum8 _ (Nat.le_of_ble_eq_true rfl)) R f5 g_94 (om_X5_at (Nat.le_trans (by decide) hd) R g_94 f5 f6 hc_101) (fun _ S_106 q_109 => ?_) (fun _ _ qq => kr_x qq)
      refine kr_z (by decide) q_109 fun v_104 f_105 R_107 E_108 => ?_
      obtain ⟨x_111, m_112, hc_110, h⟩ := bd_s h
      refine go_callV (x := 204) (mi := 152) (n := 4) (ci := 12) (as := [v3, v_99, v4, v_104]) (rest := []) (by decide +kernel) (by decide +kernel) rfl rfl (q_sum8 _ (Nat.le_of_ble_eq_true rfl)) R_107 f0 (fx_k (c := 12) R_107 (by decide +kernel)) (om_X11_arrive (Nat.le_trans (by decide) hd) R_107 f0 f3 f_100 f4 f_105 hc_110) (fun _ S_115 q_118 => ?_) (fun _ _ qq => kr_x qq)
      refine kr_v q_118 fun R_116 E_117 => ?_
      have E_121 := Ext.tr E E_117
      refine go_iinc (n := 6) (c := 1) (c' := 1) (by decide +kernel) (by decide +kernel) l6 f6 (by decide) fun L_122 v_123 f_124 l_125 kp_126 => ?_
      obtain ⟨x_127, e_128, h⟩ := lx_s h
      have f_129 := q_is_eq f_124 e_128
      have l_130 := kp_126 0 _ l0 (by decide) (Or.inl (by decide))
      have l_131 := kp_126 1 _ l1 (by decide) (Or.inl (by decide))
      have l_132 := kp_126 3 _ l3 (by decide) (Or.inl (by decide))
      have l_133 := kp_126 4 _ l4 (by decide) (Or.inl (by decide))
      have l_134 := kp_126 5 _ l5 (by decide) (Or.inr (q_is_cat f5 (Or.inr rfl)))
      refine go_goto (o := (-28)) (t := 53) (by decide +kernel) (by decide +kernel) ?_
      exact ih m_112 E_121 h R_116 l_130 f0 l_131 f1 l_132 f3 l_133 f4 l_134 f5 l_125 f_129
noncomputable def fl_X11_goOnAsNew_30 (y1 y3 : Int) (k90 : MM → Option (Int × MM)) : Nat → Int → MM → Option (Int × MM)
  | 0, _, _ => none
  | n + 1, y4, m => if y4 < 4 then
bp (fm_X8_queue y4 m) fun x_67 =>
fl_X11_goOnAsNew_53 y1 y3 y4 x_67 (fun m_150 =>
lx (w32 (y4 + 1)) fun x_160 =>
fl_X11_goOnAsNew_30 y1 y3 k90 n x_160 m_150) BIG 0 m
else
k90 m
set_option maxHeartbeats 4000000 in
theorem ol_X11_goOnAsNew_30 {xs : List Int32} {d : Nat} {Q : QO → QS → Prop} {mb : MM} {y1 y3 : Int} {k90 : MM → Option (Int × MM)} {rz : Int} {rm : MM}
  (hd : 170 ≤ d)
  (hk90 : ∀ mq : MM, Ext mb mq → ∀ {Sq : QS} {Lq : QL} {u0 : Value} {u1 : Value} {u3 : Value}, k90 mq = some (rz, rm) → Rp Sq mq → q_lo Lq 0 = some u0 → q_is 2 u0 4 → q_lo Lq 1 = some u1 → q_is 2 u1 y1 → q_lo Lq 3 = some u3 → q_is 2 u3 y3 → Go xs d qM_X11_goOnAsNew 90 Lq [] Sq Q)
  (hQ : Ext mb rm → ∀ o S1, Rp S1 rm → q_out 9 o rz → Q o S1) :
  ∀ (n : Nat) {m : MM} {S : QS} {L : QL} {y4 : Int} {v0 : Value} {v1 : Value} {v3 : Value} {v4 : Value} , Ext mb m → fl_X11_goOnAsNew_30 y1 y3 k90 n y4 m = some (rz, rm) → Rp S m → q_lo L 0 = some v0 → q_is 2 v0 4 → q_lo L 1 = some v1 → q_is 2 v1 y1 → q_lo L 3 = some v3 → q_is 2 v3 y3 → q_lo L 4 = some v4 → q_is 0 v4 y4 → Go xs d qM_X11_goOnAsNew 30 L [] S Q := by
  intro n
  induction n with
  | zero => intro m S L y4 v0 v1 v3 v4; intro E h R l0 f0 l1 f1 l3 f3 l4 f4; cases h
  | succ n ih0 =>
    intro m S L y4 v0 v1 v3 v4; intro E h R l0 f0 l1 f1 l3 f3 l4 f4
    have ih : ∀ mq : MM, Ext mb mq → ∀ {z4 : Int} {Sq : QS} {Lq : QL} {u0 : Value} {u1 : Value} {u3 : Value} {u4 : Value}, fl_X11_goOnAsNew_30 y1 y3 k90 n z4 mq = some (rz, rm) → Rp Sq mq → q_lo Lq 0 = some u0 → q_is 2 u0 4 → q_lo Lq 1 = some u1 → q_is 2 u1 y1 → q_lo Lq 3 = some u3 → q_is 2 u3 y3 → q_lo Lq 4 = some u4 → q_is 0 u4 z4 → Go xs d qM_X11_goOnAsNew 30 Lq [] Sq Q := fun mq b => by intros; exact ih0 b ‹_› ‹_› ‹_› ‹_› ‹_› ‹_› ‹_› ‹_› ‹_› ‹_›
    unfold fl_X11_goOnAsNew_30 at h
    refine go_iload (n := 4) (by decide +kernel) l4 f4 ?_
    refine go_iconst (n := 4) (z := 4) (by decide +kernel) (by decide) fun v_57 f_58 => ?_
    refine go_icmp (c := .ge) (o := 57) (t := 90) (P := ¬ (y4 < 4)) (by decide +kernel) (by decide +kernel) f4 f_58 (Int.not_lt.symm) (fun hp_59 => ?_) (fun hp_59 => ?_)
    · have h := it_f hp_59 h
      exact hk90 m E h R l0 f0 l1 f1 l3 f3
    · have h := it_n hp_59 h
      refine go_aload_n (n := 0) (by decide +kernel) l0 f0 ?_
      refine go_getf (x := 57) (ci := 12) (kf := 10) (fin := 1) (t := 2) (by decide +kernel) (by decide +kernel) (by decide +kernel) R f0 (fx_k (c := 12) R (by decide +kernel)) fun v_60 f_61 => ?_
      have f_62 := q_is_eq (b := 16) f_61 (fx_v R (by decide +kernel)).symm
      refine go_getf (x := 231) (ci := 5) (kf := 0) (fin := 2) (t := 2) (by decide +kernel) (by decide +kernel) (by decide +kernel) R f_62 (fx_k (c := 5) R (by decide +kernel)) fun v_63 f_64 => ?_
      have f_65 := q_is_eq (b := 17) f_64 (fx_v R (by decide +kernel)).symm
      refine go_iload (n := 4) (by decide +kernel) l4 f4 ?_
      obtain ⟨x_67, hc_66, h⟩ := bp_s h
      refine go_callV (x := 616) (mi := 83) (n := 1) (ci := 9) (as := [v4]) (rest := []) (by decide +kernel) (by decide +kernel) rfl rfl (q_sum8 _ (Nat.le_of_ble_eq_true rfl)) R f_65 (fx_k (c := 9) R (by decide +kernel)) (om_X8_queue (Nat.le_trans (by decide) hd) R f_65 f4 hc_66) (fun _ S_71 q_74 => ?_) (fun _ _ qq => kr_x qq)
      refine kr_z (by decide) q_74 fun v_69 f_70 R_72 E_73 => ?_
      refine go_astore (n := 5) (by decide +kernel) (by decide +kernel) f_70 fun L_75 l_76 kp_77 => ?_
      have l_78 := kp_77 0 _ l0 (by decide) (Or.inl (by decide))
      have l_79 := kp_77 1 _ l1 (by decide) (Or.inl (by decide))
      have l_80 := kp_77 3 _ l3 (by decide) (Or.inl (by decide))
      have l_81 := kp_77 4 _ l4 (by decide) (Or.inr (q_is_cat f4 (Or.inl rfl)))
      refine go_iconst (n := 0) (z := 0) (by decide +kernel) (by decide) fun v_82 f_83 => ?_
      refine go_istore (n := 6) (by decide +kernel) (by decide +kernel) f_83 fun L_84 l_85 kp_86 => ?_
      have l_87 := kp_86 0 _ l_78 (by decide) (Or.inl (by decide))
      have l_88 := kp_86 1 _ l_79 (by decide) (Or.inl (by decide))
      have l_89 := kp_86 3 _ l_80 (by decide) (Or.inl (by decide))
      have l_90 := kp_86 4 _ l_81 (by decide) (Or.inl (by decide))
      have l_91 := kp_86 5 _ l_76 (by decide) (Or.inr (q_is_cat f_70 (Or.inr rfl)))
      refine ol_X11_goOnAsNew_53 hd  ?_ (fun b => hQ (Ext.tr E b)) BIG (Ext.rf _) h R_72 l_87 f0 l_88 f1 l_89 f3 l_90 f4 l_91 f_70 l_85 f_83
      intro m_150 E_151
      intro S_147 L_148 v_135 v_136 v_137 v_138
      intro h R_149 l_139 f_143 l_140 f_144 l_141 f_145 l_142 f_146
      have E_152 := Ext.tr E E_151
      refine go_iinc (n := 4) (c := 1) (c' := 1) (by decide +kernel) (by decide +kernel) l_142 f_146 (by decide) fun L_155 v_156 f_157 l_158 kp_159 => ?_
      obtain ⟨x_160, e_161, h⟩ := lx_s h
      have f_162 := q_is_eq f_157 e_161
      have l_163 := kp_159 0 _ l_139 (by decide) (Or.inl (by decide))
      have l_164 := kp_159 1 _ l_140 (by decide) (Or.inl (by decide))
      have l_165 := kp_159 3 _ l_141 (by decide) (Or.inr (q_is_cat f_145 (Or.inr rfl)))
      refine go_goto (o := (-57)) (t := 30) (by decide +kernel) (by decide +kernel) ?_
      exact ih m_150 E_152 h R_149 l_163 f_143 l_164 f_144 l_165 f_145 l_158 f_162
noncomputable def fm_X11_goOnAsNew (p1 p2 : Int) (m0 : MM) : Option (Int × MM) := gd (okc m0 p1 7) <| up m0 p1 6 4 fun m_4 =>
lx (m_4 p1 1) fun x_15 =>
lx (m_4 p1 2) fun x_20 =>
lx (m_4 p1 4) fun x_25 =>
lx (m_4 p1 5) fun x_30 =>
bd (fm_X11_startRun x_15 x_20 p2 x_25 x_30 m_4) fun x_33 m_34 =>
fl_X11_goOnAsNew_30 p1 x_33 (fun m_178 =>
lx (m_178 p1 16) fun x_187 =>
lx (m_178 17 11) fun x_198 =>
bd (fm_X11_sendSignals x_33 x_187 x_198 m_178) fun x_201 m_202 =>
bd (fm_X11_endWork p1 m_202) fun x_213 m_214 =>
bd (fm_X11_dealWithChildren p1 0 m_214) fun x_227 m_228 =>
some (0, m_228)) BIG 0 m_34
set_option maxHeartbeats 4000000 in
theorem om_X11_goOnAsNew {xs : List Int32} {d : Nat} {S : QS} {m0 : MM} {p1 p2 : Int} {v0 : Value} {v1 : Value} {v2 : Value} {rz : Int} {rm : MM}
  (hd : 171 ≤ d) (R : Rp S m0) (f0 : q_is 2 v0 4) (f1 : q_is 2 v1 p1) (f2 : q_is 0 v2 p2)
  (h : fm_X11_goOnAsNew p1 p2 m0 = some (rz, rm)) : Mt xs d 171 [v0, v1, v2] S (Cr 9 m0 rm rz) := by
  obtain ⟨d, rfl⟩ : ∃ e, d = e + 1 := ⟨d - 1, by omega⟩
  have hd : 170 ≤ d := Nat.le_of_succ_le_succ hd
  refine Mt.of (M := qM_X11_goOnAsNew) rfl (by rw [sl_1 (q_is_cat f0 (Or.inr rfl)), sl_1 (q_is_cat f1 (Or.inr rfl)), sl_1 (q_is_cat f2 (Or.inl rfl)), sl_0]; decide) ?_
  rw [la_1 (q_is_cat f0 (Or.inr rfl)), la_1 (q_is_cat f1 (Or.inr rfl)), la_1 (q_is_cat f2 (Or.inl rfl)), la_0]
  obtain ⟨L, hL⟩ : ∃ L : QL, L = [(0, v0), (0 + 1, v1), (0 + 1 + 1, v2)] := ⟨_, rfl⟩
  rw [← hL]
  have l0 : q_lo L 0 = some v0 := by rw [hL]; rfl
  have l1 : q_lo L 1 = some v1 := by rw [hL]; rfl
  have l2 : q_lo L 2 = some v2 := by rw [hL]; rfl
  have hQ : Ext m0 rm → ∀ o S1, Rp S1 rm → q_out 9 o rz → (Cr 9 m0 rm rz) o S1 := fun a o S1 b e => ⟨b, a, e⟩
  unfold fm_X11_goOnAsNew at h
  refine go_aload_n (n := 1) (by decide +kernel) l1 f1 ?_
  refine go_iconst (n := 4) (z := 4) (by decide +kernel) (by decide) fun v_1 f_2 => ?_
  obtain ⟨g_3, h⟩ := gd_s h
  obtain ⟨m_4, e_5, h⟩ := up_s h
  refine go_putf (x := 208) (ci := 7) (kf := 6) (fin := 0) (zt := 0) (by decide +kernel) (by decide +kernel) (by decide) (by decide +kernel) (by decide) (Or.inl rfl) R f1 f_2 (fun hq => absurd hq (by decide)) g_3 e_5 (fx_f (j := 6) R.2 g_3 (by decide +kernel)) fun S_6 R_7 E_8 => ?_
  have E_10 := E_8
  refine go_aload_n (n := 0) (by decide +kernel) l0 f0 ?_
  refine go_aload_n (n := 1) (by decide +kernel) l1 f1 ?_
  have g_13 := Ext.ok E_8 g_3
  obtain ⟨x_15, e_16, h⟩ := lx_s h
  refine go_getf (x := 404) (ci := 7) (kf := 1) (fin := 2) (t := 0) (by decide +kernel) (by decide +kernel) (by decide +kernel) R_7 f1 g_13 fun v_11 f_12 => ?_
  have f_14 := q_is_eq f_12 e_16
  refine go_aload_n (n := 1) (by decide +kernel) l1 f1 ?_
  obtain ⟨x_20, e_21, h⟩ := lx_s h
  refine go_getf (x := 283) (ci := 7) (kf := 2) (fin := 2) (t := 0) (by decide +kernel) (by decide +kernel) (by decide +kernel) R_7 f1 g_13 fun v_17 f_18 => ?_
  have f_19 := q_is_eq f_18 e_21
  refine go_iload_n (n := 2) (by decide +kernel) l2 f2 ?_
  refine go_aload_n (n := 1) (by decide +kernel) l1 f1 ?_
  obtain ⟨x_25, e_26, h⟩ := lx_s h
  refine go_getf (x := 414) (ci := 7) (kf := 4) (fin := 0) (t := 0) (by decide +kernel) (by decide +kernel) (by decide +kernel) R_7 f1 g_13 fun v_22 f_23 => ?_
  have f_24 := q_is_eq f_23 e_26
  refine go_aload_n (n := 1) (by decide +kernel) l1 f1 ?_
  obtain ⟨x_30, e_31, h⟩ := lx_s h
  refine go_getf (x := 417) (ci := 7) (kf := 5) (fin := 2) (t := 0) (by decide +kernel) (by decide +kernel) (by decide +kernel) R_7 f1 g_13 fun v_27 f_28 => ?_
  have f_29 := q_is_eq f_28 e_31
  obtain ⟨x_33, m_34, hc_32, h⟩ := bd_s h
  refine go_callV (x := 176) (mi := 151) (n := 5) (ci := 12) (as := [v_11, v_17, v2, v_22, v_27]) (rest := []) (by decide +kernel) (by decide +kernel) rfl rfl (q_sum8 _ (Nat.le_of_ble_eq_true rfl)) R_7 f0 (fx_k (c := 12) R_7 (by decide +kernel)) (om_X11_startRun (Nat.le_trans (by decide) hd) R_7 f0 f_14 f_19 f2 f_24 f_29 hc_32) (fun _ S_37 q_40 => ?_) (fun _ _ qq => kr_x qq)
  refine kr_z (by decide) q_40 fun v_35 f_36 R_38 E_39 => ?_
  have E_43 := Ext.tr E_10 E_39
  refine go_astore_n (n := 3) (by decide +kernel) (by decide +kernel) f_36 fun L_44 l_45 kp_46 => ?_
  have l_47 := kp_46 0 _ l0 (by decide) (Or.inl (by decide))
  have l_48 := kp_46 1 _ l1 (by decide) (Or.inl (by decide))
  refine go_iconst (n := 0) (z := 0) (by decide +kernel) (by decide) fun v_49 f_50 => ?_
  refine go_istore (n := 4) (by decide +kernel) (by decide +kernel) f_50 fun L_51 l_52 kp_53 => ?_
  have l_54 := kp_53 0 _ l_47 (by decide) (Or.inl (by decide))
  have l_55 := kp_53 1 _ l_48 (by decide) (Or.inl (by decide))
  have l_56 := kp_53 3 _ l_45 (by decide) (Or.inr (q_is_cat f_36 (Or.inr rfl)))
  refine ol_X11_goOnAsNew_30 hd  ?_ (fun b => hQ (Ext.tr E_43 b)) BIG (Ext.rf _) h R_38 l_54 f0 l_55 f1 l_56 f_36 l_52 f_50
  intro m_178 E_179
  intro S_175 L_176 v_166 v_167 v_168
  intro h R_177 l_169 f_172 l_170 f_173 l_171 f_174
  have E_180 := Ext.tr E_43 E_179
  refine go_aload_n (n := 0) (by decide +kernel) l_169 f_172 ?_
  refine go_aload_n (n := 3) (by decide +kernel) l_171 f_174 ?_
  refine go_aload_n (n := 1) (by decide +kernel) l_170 f_173 ?_
  have g_185 := Ext.ok (Ext.tr E_39 E_179) g_13
  obtain ⟨x_187, e_188, h⟩ := lx_s h
  refine go_getf (x := 195) (ci := 7) (kf := 16) (fin := 2) (t := 2) (by decide +kernel) (by decide +kernel) (by decide +kernel) R_177 f_173 g_185 fun v_183 f_184 => ?_
  have f_186 := q_is_eq f_184 e_188
  refine go_aload_n (n := 0) (by decide +kernel) l_169 f_172 ?_
  refine go_getf (x := 57) (ci := 12) (kf := 10) (fin := 1) (t := 2) (by decide +kernel) (by decide +kernel) (by decide +kernel) R_177 f_172 (fx_k (c := 12) R_177 (by decide +kernel)) fun v_189 f_190 => ?_
  have f_191 := q_is_eq (b := 16) f_190 (fx_v R_177 (by decide +kernel)).symm
  refine go_getf (x := 231) (ci := 5) (kf := 0) (fin := 2) (t := 2) (by decide +kernel) (by decide +kernel) (by decide +kernel) R_177 f_191 (fx_k (c := 5) R_177 (by decide +kernel)) fun v_192 f_193 => ?_
  have f_194 := q_is_eq (b := 17) f_193 (fx_v R_177 (by decide +kernel)).symm
  obtain ⟨x_198, e_199, h⟩ := lx_s h
  refine go_getf (x := 619) (ci := 9) (kf := 11) (fin := 0) (t := 0) (by decide +kernel) (by decide +kernel) (by decide +kernel) R_177 f_194 (fx_k (c := 9) R_177 (by decide +kernel)) fun v_195 f_196 => ?_
  have f_197 := q_is_eq f_196 e_199
  obtain ⟨x_201, m_202, hc_200, h⟩ := bd_s h
  refine go_callV (x := 437) (mi := 172) (n := 3) (ci := 12) (as := [v_168, v_183, v_195]) (rest := []) (by decide +kernel) (by decide +kernel) rfl rfl (q_sum8 _ (Nat.le_of_ble_eq_true rfl)) R_177 f_172 (fx_k (c := 12) R_177 (by decide +kernel)) (om_X11_sendSignals (Nat.le_trans (by decide) hd) R_177 f_172 f_174 f_186 f_197 hc_200) (fun _ S_205 q_208 => ?_) (fun _ _ qq => kr_x qq)
  refine kr_v q_208 fun R_206 E_207 => ?_
  have E_211 := Ext.tr E_180 E_207
  refine go_aload_n (n := 0) (by decide +kernel) l_169 f_172 ?_
  refine go_aload_n (n := 1) (by decide +kernel) l_170 f_173 ?_
  obtain ⟨x_213, m_214, hc_212, h⟩ := bd_s h
  refine go_callV (x := 427) (mi := 157) (n := 1) (ci := 12) (as := [v_167]) (rest := []) (by decide +kernel) (by decide +kernel) rfl rfl (q_sum8 _ (Nat.le_of_ble_eq_true rfl)) R_206 f_172 (fx_k (c := 12) R_206 (by decide +kernel)) (om_X11_endWork (Nat.le_trans (by decide) hd) R_206 f_172 f_173 hc_212) (fun _ S_217 q_220 => ?_) (fun _ _ qq => kr_x qq)
  refine kr_v q_220 fun R_218 E_219 => ?_
  have E_223 := Ext.tr E_211 E_219
  refine go_aload_n (n := 0) (by decide +kernel) l_169 f_172 ?_
  refine go_aload_n (n := 1) (by decide +kernel) l_170 f_173 ?_
  refine go_iconst (n := 0) (z := 0) (by decide +kernel) (by decide) fun v_224 f_225 => ?_
  obtain ⟨x_227, m_228, hc_226, h⟩ := bd_s h
  refine go_callV (x := 543) (mi := 156) (n := 2) (ci := 12) (as := [v_167, v_224]) (rest := []) (by decide +kernel) (by decide +kernel) rfl rfl (q_sum8 _ (Nat.le_of_ble_eq_true rfl)) R_218 f_172 (fx_k (c := 12) R_218 (by decide +kernel)) (om_X11_dealWithChildren (Nat.le_trans (by decide) hd) R_218 f_172 f_173 f_225 hc_226) (fun _ S_231 q_234 => ?_) (fun _ _ qq => kr_x qq)
  refine kr_v q_234 fun R_232 E_233 => ?_
  have E_237 := Ext.tr E_223 E_233
  cases h
  exact go_vret (by decide +kernel) rfl (hQ E_237 _ _ R_232 q_out_n)
noncomputable def fj_X11_carryOut_163 ( s0 s1 : Int) (m : MM) : Option (Int × MM) := bd (fm_X11_closeRun BIGR s1 s0 0 0 m) fun x_170 m_171 =>
some (0, m_171)
set_option maxHeartbeats 4000000 in
theorem oj_X11_carryOut_163 {xs : List Int32} {d : Nat} {S : QS} {L : QL} {Q : QO → QS → Prop} {m : MM} {s0 s1 : Int} {w0 : Value} {w1 : Value} {w2 : Value}  {rz : Int} {rm : MM}
  (hd : 171 ≤ d) (R : Rp S m) (fs0 : q_is 0 w0 s0) (fs1 : q_is 2 w1 s1) (fs2 : q_is 2 w2 4)
  (hQ : Ext m rm → ∀ o S1, Rp S1 rm → q_out 9 o rz → Q o S1)
  (h : fj_X11_carryOut_163 s0 s1 m = some (rz, rm)) : Go xs d qM_X11_carryOut 163 L [w0, w1, w2] S Q := by
  unfold fj_X11_carryOut_163 at h
  refine go_iconst (n := 0) (z := 0) (by decide +kernel) (by decide) fun v_165 f_166 => ?_
  refine go_iconst (n := 0) (z := 0) (by decide +kernel) (by decide) fun v_167 f_168 => ?_
  obtain ⟨x_170, m_171, hc_169, h⟩ := bd_s h
  refine go_callV (x := 458) (mi := 154) (n := 4) (ci := 12) (as := [w1, w0, v_165, v_167]) (rest := []) (by decide +kernel) (by decide +kernel) rfl rfl (q_sum8 _ (Nat.le_of_ble_eq_true rfl)) R fs2 (fx_k (c := 12) R (by decide +kernel)) (om_X11_closeRun (Nat.le_trans (by decide) hd) R fs2 fs1 fs0 f_166 f_168 hc_169) (fun _ S_174 q_177 => ?_) (fun _ _ qq => kr_x qq)
  refine kr_v q_177 fun R_175 E_176 => ?_
  have E_180 := E_176
  refine go_goto (o := 35) (t := 203) (by decide +kernel) (by decide +kernel) ?_
  cases h
  exact go_vret (by decide +kernel) rfl (hQ E_180 _ _ R_175 q_out_n)
noncomputable def fm_X11_carryOut (p1 p2 : Int) (m0 : MM) : Option (Int × MM) := gd (okc m0 p1 7) <| lx (m0 p1 16) fun x_5 =>
gd (okc m0 x_5 3) <| bp (fm_X2_x x_5 p2 m0) fun x_9 =>
bp (fm_X2_y x_5 p2 m0) fun x_27 =>
bp (fm_X2_kind x_5 p2 m0) fun x_46 =>
if x_46 = 8 then
bd (fm_X11_makeActivity p1 p2 x_9 x_27 m0) fun x_57 m_58 =>
some (0, m_58)
else if x_46 = 9 then
lx (m0 4 14) fun x_73 =>
bd (fm_X6_addTimer p1 p2 (w32 (x_73 + x_9)) m0) fun x_78 m_79 =>
some (0, m_79)
else if x_46 = 10 then
bd (fm_X11_beginChild p1 p2 x_9 x_27 m0) fun x_92 m_93 =>
some (0, m_93)
else if x_46 = 11 then
bd (fm_X11_dropEvent p1 x_9 m0) fun x_106 m_107 =>
some (0, m_107)
else if x_46 = 13 then
bd (fm_X11_queueTag p1 x_9 m0) fun x_120 m_121 =>
some (0, m_121)
else if x_46 = 14 then
bd (fm_X11_closeRun BIGR p1 1 x_9 0 m0) fun x_138 m_139 =>
some (0, m_139)
else if x_46 = 15 then
lx (m0 17 8) fun x_160 =>
if x_160 = 0 then
fj_X11_carryOut_163 2 p1 m0
else
fj_X11_carryOut_163 3 p1 m0
else if x_46 = 16 then
bp (fm_Jx4a65c_size_8abf5 7 m0) fun x_189 =>
if x_189 < 30 then
bd (fm_X11_goOnAsNew p1 x_9 m0) fun x_219 m_220 =>
some (0, m_220)
else
bd (fm_X11_closeRun BIGR p1 2 0 0 m0) fun x_207 m_208 =>
some (0, m_208)
else 
some (0, m0)
set_option maxHeartbeats 4000000 in
theorem om_X11_carryOut {xs : List Int32} {d : Nat} {S : QS} {m0 : MM} {p1 p2 : Int} {v0 : Value} {v1 : Value} {v2 : Value} {rz : Int} {rm : MM}
  (hd : 172 ≤ d) (R : Rp S m0) (f0 : q_is 2 v0 4) (f1 : q_is 2 v1 p1) (f2 : q_is 0 v2 p2)
  (h : fm_X11_carryOut p1 p2 m0 = some (rz, rm)) : Mt xs d 166 [v0, v1, v2] S (Cr 9 m0 rm rz) := by
  obtain ⟨d, rfl⟩ : ∃ e, d = e + 1 := ⟨d - 1, by omega⟩
  have hd : 171 ≤ d := Nat.le_of_succ_le_succ hd
  refine Mt.of (M := qM_X11_carryOut) rfl (by rw [sl_1 (q_is_cat f0 (Or.inr rfl)), sl_1 (q_is_cat f1 (Or.inr rfl)), sl_1 (q_is_cat f2 (Or.inl rfl)), sl_0]; decide) ?_
  rw [la_1 (q_is_cat f0 (Or.inr rfl)), la_1 (q_is_cat f1 (Or.inr rfl)), la_1 (q_is_cat f2 (Or.inl rfl)), la_0]
  obtain ⟨L, hL⟩ : ∃ L : QL, L = [(0, v0), (0 + 1, v1), (0 + 1 + 1, v2)] := ⟨_, rfl⟩
  rw [← hL]
  have l0 : q_lo L 0 = some v0 := by rw [hL]; rfl
  have l1 : q_lo L 1 = some v1 := by rw [hL]; rfl
  have l2 : q_lo L 2 = some v2 := by rw [hL]; rfl
  have hQ : Ext m0 rm → ∀ o S1, Rp S1 rm → q_out 9 o rz → (Cr 9 m0 rm rz) o S1 := fun a o S1 b e => ⟨b, a, e⟩
  unfold fm_X11_carryOut at h
  refine go_aload_n (n := 1) (by decide +kernel) l1 f1 ?_
  obtain ⟨g_3, h⟩ := gd_s h
  obtain ⟨x_5, e_6, h⟩ := lx_s h
  refine go_getf (x := 195) (ci := 7) (kf := 16) (fin := 2) (t := 2) (by decide +kernel) (by decide +kernel) (by decide +kernel) R f1 g_3 fun v_1 f_2 => ?_
  have f_4 := q_is_eq f_2 e_6
  refine go_iload_n (n := 2) (by decide +kernel) l2 f2 ?_
  obtain ⟨g_7, h⟩ := gd_s h
  obtain ⟨x_9, hc_8, h⟩ := bp_s h
  refine go_callV (x := 264) (mi := 10) (n := 1) (ci := 3) (as := [v2]) (rest := []) (by decide +kernel) (by decide +kernel) rfl rfl (q_sum8 _ (Nat.le_of_ble_eq_true rfl)) R f_4 g_7 (om_X2_x (Nat.le_trans (by decide) hd) R g_7 f_4 f2 hc_8) (fun _ S_13 q_16 => ?_) (fun _ _ qq => kr_x qq)
  refine kr_z (by decide) q_16 fun v_11 f_12 R_14 E_15 => ?_
  refine go_istore_n (n := 3) (by decide +kernel) (by decide +kernel) f_12 fun L_17 l_18 kp_19 => ?_
  have l_20 := kp_19 0 _ l0 (by decide) (Or.inl (by decide))
  have l_21 := kp_19 1 _ l1 (by decide) (Or.inl (by decide))
  have l_22 := kp_19 2 _ l2 (by decide) (Or.inr (q_is_cat f2 (Or.inl rfl)))
  refine go_aload_n (n := 1) (by decide +kernel) l_21 f1 ?_
  refine go_getf (x := 195) (ci := 7) (kf := 16) (fin := 2) (t := 2) (by decide +kernel) (by decide +kernel) (by decide +kernel) R_14 f1 g_3 fun v_23 f_24 => ?_
  have f_25 := q_is_eq f_24 e_6
  refine go_iload_n (n := 2) (by decide +kernel) l_22 f2 ?_
  obtain ⟨x_27, hc_26, h⟩ := bp_s h
  refine go_callV (x := 267) (mi := 11) (n := 1) (ci := 3) (as := [v2]) (rest := []) (by decide +kernel) (by decide +kernel) rfl rfl (q_sum8 _ (Nat.le_of_ble_eq_true rfl)) R_14 f_25 g_7 (om_X2_y (Nat.le_trans (by decide) hd) R_14 g_7 f_25 f2 hc_26) (fun _ S_31 q_34 => ?_) (fun _ _ qq => kr_x qq)
  refine kr_z (by decide) q_34 fun v_29 f_30 R_32 E_33 => ?_
  refine go_istore (n := 4) (by decide +kernel) (by decide +kernel) f_30 fun L_35 l_36 kp_37 => ?_
  have l_38 := kp_37 0 _ l_20 (by decide) (Or.inl (by decide))
  have l_39 := kp_37 1 _ l_21 (by decide) (Or.inl (by decide))
  have l_40 := kp_37 2 _ l_22 (by decide) (Or.inl (by decide))
  have l_41 := kp_37 3 _ l_18 (by decide) (Or.inr (q_is_cat f_12 (Or.inl rfl)))
  refine go_aload_n (n := 1) (by decide +kernel) l_39 f1 ?_
  refine go_getf (x := 195) (ci := 7) (kf := 16) (fin := 2) (t := 2) (by decide +kernel) (by decide +kernel) (by decide +kernel) R_32 f1 g_3 fun v_42 f_43 => ?_
  have f_44 := q_is_eq f_43 e_6
  refine go_iload_n (n := 2) (by decide +kernel) l_40 f2 ?_
  obtain ⟨x_46, hc_45, h⟩ := bp_s h
  refine go_callV (x := 261) (mi := 9) (n := 1) (ci := 3) (as := [v2]) (rest := []) (by decide +kernel) (by decide +kernel) rfl rfl (q_sum8 _ (Nat.le_of_ble_eq_true rfl)) R_32 f_44 g_7 (om_X2_kind (Nat.le_trans (by decide) hd) R_32 g_7 f_44 f2 hc_45) (fun _ S_50 q_53 => ?_) (fun _ _ qq => kr_x qq)
  refine kr_z (by decide) q_53 fun v_48 f_49 R_51 E_52 => ?_
  by_cases hp_55 : x_46 = 8
  · have h := it_t hp_55 h
    refine go_tsin (dflt := 176) (lo := 8) (hi := 16) (offs := #[49, 61, 75, 87, 176, 96, 105, 116, 144]) (o := 49) (t := 76) (by decide +kernel) f_49 (by omega) (by omega) (by rw [hp_55]; decide) (by decide +kernel) ?_
    refine go_aload_n (n := 0) (by decide +kernel) l_38 f0 ?_
    refine go_aload_n (n := 1) (by decide +kernel) l_39 f1 ?_
    refine go_iload_n (n := 2) (by decide +kernel) l_40 f2 ?_
    refine go_iload_n (n := 3) (by decide +kernel) l_41 f_12 ?_
    refine go_iload (n := 4) (by decide +kernel) l_36 f_30 ?_
    obtain ⟨x_57, m_58, hc_56, h⟩ := bd_s h
    refine go_callV (x := 588) (mi := 168) (n := 4) (ci := 12) (as := [v1, v2, v_11, v_29]) (rest := []) (by decide +kernel) (by decide +kernel) rfl rfl (q_sum8 _ (Nat.le_of_ble_eq_true rfl)) R_51 f0 (fx_k (c := 12) R_51 (by decide +kernel)) (om_X11_makeActivity (Nat.le_trans (by decide) hd) R_51 f0 f1 f2 f_12 f_30 hc_56) (fun _ S_61 q_64 => ?_) (fun _ _ qq => kr_x qq)
    refine kr_v q_64 fun R_62 E_63 => ?_
    have E_67 := E_63
    refine go_goto (o := 118) (t := 203) (by decide +kernel) (by decide +kernel) ?_
    cases h
    exact go_vret (by decide +kernel) rfl (hQ E_67 _ _ R_62 q_out_n)
  have h := it_f hp_55 h
  by_cases hp_69 : x_46 = 9
  · have h := it_t hp_69 h
    refine go_tsin (dflt := 176) (lo := 8) (hi := 16) (offs := #[49, 61, 75, 87, 176, 96, 105, 116, 144]) (o := 61) (t := 88) (by decide +kernel) f_49 (by omega) (by omega) (by rw [hp_69]; decide) (by decide +kernel) ?_
    refine go_aload_n (n := 1) (by decide +kernel) l_39 f1 ?_
    refine go_iload_n (n := 2) (by decide +kernel) l_40 f2 ?_
    refine go_aload_n (n := 0) (by decide +kernel) l_38 f0 ?_
    obtain ⟨x_73, e_74, h⟩ := lx_s h
    refine go_getf (x := 71) (ci := 12) (kf := 14) (fin := 0) (t := 0) (by decide +kernel) (by decide +kernel) (by decide +kernel) R_51 f0 (fx_k (c := 12) R_51 (by decide +kernel)) fun v_70 f_71 => ?_
    have f_72 := q_is_eq f_71 e_74
    refine go_iload_n (n := 3) (by decide +kernel) l_41 f_12 ?_
    refine go_iadd (by decide +kernel) f_72 f_12 fun v_75 f_76 => ?_
    obtain ⟨x_78, m_79, hc_77, h⟩ := bd_s h
    refine go_callV (x := 591) (mi := 71) (n := 2) (ci := 7) (as := [v2, v_75]) (rest := []) (by decide +kernel) (by decide +kernel) rfl rfl (q_sum8 _ (Nat.le_of_ble_eq_true rfl)) R_51 f1 g_3 (om_X6_addTimer (Nat.le_trans (by decide) hd) R_51 g_3 f1 f2 f_76 hc_77) (fun _ S_82 q_85 => ?_) (fun _ _ qq => kr_x qq)
    refine kr_v q_85 fun R_83 E_84 => ?_
    have E_88 := E_84
    refine go_goto (o := 104) (t := 203) (by decide +kernel) (by decide +kernel) ?_
    cases h
    exact go_vret (by decide +kernel) rfl (hQ E_88 _ _ R_83 q_out_n)
  have h := it_f hp_69 h
  by_cases hp_90 : x_46 = 10
  · have h := it_t hp_90 h
    refine go_tsin (dflt := 176) (lo := 8) (hi := 16) (offs := #[49, 61, 75, 87, 176, 96, 105, 116, 144]) (o := 75) (t := 102) (by decide +kernel) f_49 (by omega) (by omega) (by rw [hp_90]; decide) (by decide +kernel) ?_
    refine go_aload_n (n := 0) (by decide +kernel) l_38 f0 ?_
    refine go_aload_n (n := 1) (by decide +kernel) l_39 f1 ?_
    refine go_iload_n (n := 2) (by decide +kernel) l_40 f2 ?_
    refine go_iload_n (n := 3) (by decide +kernel) l_41 f_12 ?_
    refine go_iload (n := 4) (by decide +kernel) l_36 f_30 ?_
    obtain ⟨x_92, m_93, hc_91, h⟩ := bd_s h
    refine go_callV (x := 594) (mi := 169) (n := 4) (ci := 12) (as := [v1, v2, v_11, v_29]) (rest := []) (by decide +kernel) (by decide +kernel) rfl rfl (q_sum8 _ (Nat.le_of_ble_eq_true rfl)) R_51 f0 (fx_k (c := 12) R_51 (by decide +kernel)) (om_X11_beginChild (Nat.le_trans (by decide) hd) R_51 f0 f1 f2 f_12 f_30 hc_91) (fun _ S_96 q_99 => ?_) (fun _ _ qq => kr_x qq)
    refine kr_v q_99 fun R_97 E_98 => ?_
    have E_102 := E_98
    refine go_goto (o := 92) (t := 203) (by decide +kernel) (by decide +kernel) ?_
    cases h
    exact go_vret (by decide +kernel) rfl (hQ E_102 _ _ R_97 q_out_n)
  have h := it_f hp_90 h
  by_cases hp_104 : x_46 = 11
  · have h := it_t hp_104 h
    refine go_tsin (dflt := 176) (lo := 8) (hi := 16) (offs := #[49, 61, 75, 87, 176, 96, 105, 116, 144]) (o := 87) (t := 114) (by decide +kernel) f_49 (by omega) (by omega) (by rw [hp_104]; decide) (by decide +kernel) ?_
    refine go_aload_n (n := 0) (by decide +kernel) l_38 f0 ?_
    refine go_aload_n (n := 1) (by decide +kernel) l_39 f1 ?_
    refine go_iload_n (n := 3) (by decide +kernel) l_41 f_12 ?_
    obtain ⟨x_106, m_107, hc_105, h⟩ := bd_s h
    refine go_callV (x := 597) (mi := 170) (n := 2) (ci := 12) (as := [v1, v_11]) (rest := []) (by decide +kernel) (by decide +kernel) rfl rfl (q_sum8 _ (Nat.le_of_ble_eq_true rfl)) R_51 f0 (fx_k (c := 12) R_51 (by decide +kernel)) (om_X11_dropEvent (Nat.le_trans (by decide) hd) R_51 f0 f1 f_12 hc_105) (fun _ S_110 q_113 => ?_) (fun _ _ qq => kr_x qq)
    refine kr_v q_113 fun R_111 E_112 => ?_
    have E_116 := E_112
    refine go_goto (o := 83) (t := 203) (by decide +kernel) (by decide +kernel) ?_
    cases h
    exact go_vret (by decide +kernel) rfl (hQ E_116 _ _ R_111 q_out_n)
  have h := it_f hp_104 h
  by_cases hp_118 : x_46 = 13
  · have h := it_t hp_118 h
    refine go_tsin (dflt := 176) (lo := 8) (hi := 16) (offs := #[49, 61, 75, 87, 176, 96, 105, 116, 144]) (o := 96) (t := 123) (by decide +kernel) f_49 (by omega) (by omega) (by rw [hp_118]; decide) (by decide +kernel) ?_
    refine go_aload_n (n := 0) (by decide +kernel) l_38 f0 ?_
    refine go_aload_n (n := 1) (by decide +kernel) l_39 f1 ?_
    refine go_iload_n (n := 3) (by decide +kernel) l_41 f_12 ?_
    obtain ⟨x_120, m_121, hc_119, h⟩ := bd_s h
    refine go_callV (x := 600) (mi := 167) (n := 2) (ci := 12) (as := [v1, v_11]) (rest := []) (by decide +kernel) (by decide +kernel) rfl rfl (q_sum8 _ (Nat.le_of_ble_eq_true rfl)) R_51 f0 (fx_k (c := 12) R_51 (by decide +kernel)) (om_X11_queueTag (Nat.le_trans (by decide) hd) R_51 f0 f1 f_12 hc_119) (fun _ S_124 q_127 => ?_) (fun _ _ qq => kr_x qq)
    refine kr_v q_127 fun R_125 E_126 => ?_
    have E_130 := E_126
    refine go_goto (o := 74) (t := 203) (by decide +kernel) (by decide +kernel) ?_
    cases h
    exact go_vret (by decide +kernel) rfl (hQ E_130 _ _ R_125 q_out_n)
  have h := it_f hp_118 h
  by_cases hp_132 : x_46 = 14
  · have h := it_t hp_132 h
    refine go_tsin (dflt := 176) (lo := 8) (hi := 16) (offs := #[49, 61, 75, 87, 176, 96, 105, 116, 144]) (o := 105) (t := 132) (by decide +kernel) f_49 (by omega) (by omega) (by rw [hp_132]; decide) (by decide +kernel) ?_
    refine go_aload_n (n := 0) (by decide +kernel) l_38 f0 ?_
    refine go_aload_n (n := 1) (by decide +kernel) l_39 f1 ?_
    refine go_iconst (n := 1) (z := 1) (by decide +kernel) (by decide) fun v_133 f_134 => ?_
    refine go_iload_n (n := 3) (by decide +kernel) l_41 f_12 ?_
    refine go_iconst (n := 0) (z := 0) (by decide +kernel) (by decide) fun v_135 f_136 => ?_
    obtain ⟨x_138, m_139, hc_137, h⟩ := bd_s h
    refine go_callV (x := 458) (mi := 154) (n := 4) (ci := 12) (as := [v1, v_133, v_11, v_135]) (rest := []) (by decide +kernel) (by decide +kernel) rfl rfl (q_sum8 _ (Nat.le_of_ble_eq_true rfl)) R_51 f0 (fx_k (c := 12) R_51 (by decide +kernel)) (om_X11_closeRun (Nat.le_trans (by decide) hd) R_51 f0 f1 f_134 f_12 f_136 hc_137) (fun _ S_142 q_145 => ?_) (fun _ _ qq => kr_x qq)
    refine kr_v q_145 fun R_143 E_144 => ?_
    have E_148 := E_144
    refine go_goto (o := 63) (t := 203) (by decide +kernel) (by decide +kernel) ?_
    cases h
    exact go_vret (by decide +kernel) rfl (hQ E_148 _ _ R_143 q_out_n)
  have h := it_f hp_132 h
  by_cases hp_150 : x_46 = 15
  · have h := it_t hp_150 h
    refine go_tsin (dflt := 176) (lo := 8) (hi := 16) (offs := #[49, 61, 75, 87, 176, 96, 105, 116, 144]) (o := 116) (t := 143) (by decide +kernel) f_49 (by omega) (by omega) (by rw [hp_150]; decide) (by decide +kernel) ?_
    refine go_aload_n (n := 0) (by decide +kernel) l_38 f0 ?_
    refine go_aload_n (n := 1) (by decide +kernel) l_39 f1 ?_
    refine go_aload_n (n := 0) (by decide +kernel) l_38 f0 ?_
    refine go_getf (x := 57) (ci := 12) (kf := 10) (fin := 1) (t := 2) (by decide +kernel) (by decide +kernel) (by decide +kernel) R_51 f0 (fx_k (c := 12) R_51 (by decide +kernel)) fun v_151 f_152 => ?_
    have f_153 := q_is_eq (b := 16) f_152 (fx_v R_51 (by decide +kernel)).symm
    refine go_getf (x := 231) (ci := 5) (kf := 0) (fin := 2) (t := 2) (by decide +kernel) (by decide +kernel) (by decide +kernel) R_51 f_153 (fx_k (c := 5) R_51 (by decide +kernel)) fun v_154 f_155 => ?_
    have f_156 := q_is_eq (b := 17) f_155 (fx_v R_51 (by decide +kernel)).symm
    obtain ⟨x_160, e_161, h⟩ := lx_s h
    refine go_getf (x := 603) (ci := 9) (kf := 8) (fin := 0) (t := 0) (by decide +kernel) (by decide +kernel) (by decide +kernel) R_51 f_156 (fx_k (c := 9) R_51 (by decide +kernel)) fun v_157 f_158 => ?_
    have f_159 := q_is_eq f_158 e_161
    refine go_if (c := .eq) (o := 7) (t := 162) (P := x_160 = 0) (by decide +kernel) (by decide +kernel) f_159 (Iff.rfl) (fun hp_162 => ?_) (fun hp_162 => ?_)
    · have h := it_t hp_162 h
      refine go_iconst (n := 2) (z := 2) (by decide +kernel) (by decide) fun v_163 f_164 => ?_
      exact oj_X11_carryOut_163 hd R_51 f_164 f1 f0 hQ h
    · have h := it_f hp_162 h
      refine go_iconst (n := 3) (z := 3) (by decide +kernel) (by decide) fun v_181 f_182 => ?_
      refine go_goto (o := 4) (t := 163) (by decide +kernel) (by decide +kernel) ?_
      exact oj_X11_carryOut_163 hd R_51 f_182 f1 f0 hQ h
  have h := it_f hp_150 h
  by_cases hp_184 : x_46 = 16
  · have h := it_t hp_184 h
    refine go_tsin (dflt := 176) (lo := 8) (hi := 16) (offs := #[49, 61, 75, 87, 176, 96, 105, 116, 144]) (o := 144) (t := 171) (by decide +kernel) f_49 (by omega) (by omega) (by rw [hp_184]; decide) (by decide +kernel) ?_
    refine go_aload_n (n := 0) (by decide +kernel) l_38 f0 ?_
    refine go_getf (x := 24) (ci := 12) (kf := 2) (fin := 1) (t := 2) (by decide +kernel) (by decide +kernel) (by decide +kernel) R_51 f0 (fx_k (c := 12) R_51 (by decide +kernel)) fun v_185 f_186 => ?_
    have f_187 := q_is_eq (b := 7) f_186 (fx_v R_51 (by decide +kernel)).symm
    obtain ⟨x_189, hc_188, h⟩ := bp_s h
    refine go_callV (x := 127) (mi := 326) (n := 0) (ci := 0) (as := []) (rest := []) (by decide +kernel) (by decide +kernel) rfl rfl (q_sum8 _ (Nat.le_of_ble_eq_true rfl)) R_51 f_187 (fx_k (c := 0) R_51 (by decide +kernel)) (om_Jx4a65c_size_8abf5 (Nat.le_trans (by decide) hd) R_51 (fx_k (c := 0) R_51 (by decide +kernel)) f_187 hc_188) (fun _ S_193 q_196 => ?_) (fun _ _ qq => kr_x qq)
    refine kr_z (by decide) q_196 fun v_191 f_192 R_194 E_195 => ?_
    refine go_bipush (n := 30) (z := 30) (by decide +kernel) (by decide) fun v_197 f_198 => ?_
    refine go_icmp (c := .ge) (o := 12) (t := 192) (P := ¬ (x_189 < 30)) (by decide +kernel) (by decide +kernel) f_192 f_198 (Int.not_lt.symm) (fun hp_199 => ?_) (fun hp_199 => ?_)
    · have h := it_f hp_199 h
      refine go_aload_n (n := 0) (by decide +kernel) l_38 f0 ?_
      refine go_aload_n (n := 1) (by decide +kernel) l_39 f1 ?_
      refine go_iconst (n := 2) (z := 2) (by decide +kernel) (by decide) fun v_200 f_201 => ?_
      refine go_iconst (n := 0) (z := 0) (by decide +kernel) (by decide) fun v_202 f_203 => ?_
      refine go_iconst (n := 0) (z := 0) (by decide +kernel) (by decide) fun v_204 f_205 => ?_
      obtain ⟨x_207, m_208, hc_206, h⟩ := bd_s h
      refine go_callV (x := 458) (mi := 154) (n := 4) (ci := 12) (as := [v1, v_200, v_202, v_204]) (rest := []) (by decide +kernel) (by decide +kernel) rfl rfl (q_sum8 _ (Nat.le_of_ble_eq_true rfl)) R_194 f0 (fx_k (c := 12) R_194 (by decide +kernel)) (om_X11_closeRun (Nat.le_trans (by decide) hd) R_194 f0 f1 f_201 f_203 f_205 hc_206) (fun _ S_211 q_214 => ?_) (fun _ _ qq => kr_x qq)
      refine kr_v q_214 fun R_212 E_213 => ?_
      have E_217 := E_213
      refine go_goto (o := 3) (t := 203) (by decide +kernel) (by decide +kernel) ?_
      cases h
      exact go_vret (by decide +kernel) rfl (hQ E_217 _ _ R_212 q_out_n)
    · have h := it_n hp_199 h
      refine go_aload_n (n := 0) (by decide +kernel) l_38 f0 ?_
      refine go_aload_n (n := 1) (by decide +kernel) l_39 f1 ?_
      refine go_iload_n (n := 3) (by decide +kernel) l_41 f_12 ?_
      obtain ⟨x_219, m_220, hc_218, h⟩ := bd_s h
      refine go_callV (x := 606) (mi := 171) (n := 2) (ci := 12) (as := [v1, v_11]) (rest := []) (by decide +kernel) (by decide +kernel) rfl rfl (q_sum8 _ (Nat.le_of_ble_eq_true rfl)) R_194 f0 (fx_k (c := 12) R_194 (by decide +kernel)) (om_X11_goOnAsNew (Nat.le_trans (by decide) hd) R_194 f0 f1 f_12 hc_218) (fun _ S_223 q_226 => ?_) (fun _ _ qq => kr_x qq)
      refine kr_v q_226 fun R_224 E_225 => ?_
      have E_229 := E_225
      refine go_goto (o := 14) (t := 203) (by decide +kernel) (by decide +kernel) ?_
      cases h
      exact go_vret (by decide +kernel) rfl (hQ E_229 _ _ R_224 q_out_n)
  have h := it_f hp_184 h
  by_cases hp_230 : x_46 = 12
  · refine go_tsin (dflt := 176) (lo := 8) (hi := 16) (offs := #[49, 61, 75, 87, 176, 96, 105, 116, 144]) (o := 176) (t := 203) (by decide +kernel) f_49 (by omega) (by omega) (by rw [hp_230]; decide) (by decide +kernel) ?_
    cases h
    exact go_vret (by decide +kernel) rfl (hQ (Ext.rf _) _ _ R_51 q_out_n)
  refine go_tsout (dflt := 176) (lo := 8) (hi := 16) (offs := #[49, 61, 75, 87, 176, 96, 105, 116, 144]) (t := 203) (by decide +kernel) f_49 (by omega) (by decide +kernel) ?_
  cases h
  exact go_vret (by decide +kernel) rfl (hQ (Ext.rf _) _ _ R_51 q_out_n)
end DF17
