/-! Methods as functions (written by wip/whole/dec.py), 44: X12_isVersion, X12_un_safe, X12_move, X12_marks, X12_isBack, X12_beginsAnew. -/
section DF44
noncomputable def fm_X12_isVersion (p1 p2 : Int) (m0 : MM) : Option Int := bp (fm_X12_isType p1 m0) fun x_2 =>
if x_2 = 0 then
some 0
else
gd (0 ≤ p1 ∧ p1 < 4) <| lx (m0 69 p1) fun x_22 =>
bp (fm_X12_isIn p2 0 (w32 (x_22 - 1)) m0) fun x_29 =>
if x_29 = 0 then
some 0
else
some 1
set_option maxHeartbeats 4000000 in
theorem om_X12_isVersion {xs : List Int32} {d : Nat} {S : QS} {m0 : MM} {p1 p2 : Int} {v0 : Value} {v1 : Value} {v2 : Value} {rz : Int}
  (hd : 3 ≤ d) (R : Rp S m0) (f0 : q_is 2 v0 68) (f1 : q_is 0 v1 p1) (f2 : q_is 0 v2 p2)
  (h : fm_X12_isVersion p1 p2 m0 = some rz) : Mt xs d 294 [v0, v1, v2] S (Cr 0 m0 m0 rz) := by
  obtain ⟨d, rfl⟩ : ∃ e, d = e + 1 := ⟨d - 1, by omega⟩
  have hd : 2 ≤ d := Nat.le_of_succ_le_succ hd
  refine Mt.of (M := qM_X12_isVersion) rfl (by rw [sl_1 (q_is_cat f0 (Or.inr rfl)), sl_1 (q_is_cat f1 (Or.inl rfl)), sl_1 (q_is_cat f2 (Or.inl rfl)), sl_0]; decide) ?_
  rw [la_1 (q_is_cat f0 (Or.inr rfl)), la_1 (q_is_cat f1 (Or.inl rfl)), la_1 (q_is_cat f2 (Or.inl rfl)), la_0]
  obtain ⟨L, hL⟩ : ∃ L : QL, L = [(0, v0), (0 + 1, v1), (0 + 1 + 1, v2)] := ⟨_, rfl⟩
  rw [← hL]
  have l0 : q_lo L 0 = some v0 := by rw [hL]; rfl
  have l1 : q_lo L 1 = some v1 := by rw [hL]; rfl
  have l2 : q_lo L 2 = some v2 := by rw [hL]; rfl
  have hQ : ∀ o S1, Rp S1 m0 → q_out 0 o rz → (Cr 0 m0 m0 rz) o S1 := fun o S1 a b => ⟨a, Ext.rf _, b⟩
  unfold fm_X12_isVersion at h
  refine go_iload_n (n := 1) (by decide +kernel) l1 f1 ?_
  obtain ⟨x_2, hc_1, h⟩ := bp_s h
  refine go_callS (x := 313) (mi := 191) (n := 1) (b := 0) (as := [v1]) (rest := []) (by decide +kernel) (by decide +kernel) rfl rfl (q_sum8 _ (Nat.le_of_ble_eq_true rfl)) (om_X12_isType (Nat.le_trans (by decide) hd) R f1 hc_1) (fun _ S_6 q_9 => ?_) (fun _ _ qq => kr_x qq)
  refine kr_z (by decide) q_9 fun v_4 f_5 R_7 E_8 => ?_
  refine go_if (c := .eq) (o := 23) (t := 27) (P := x_2 = 0) (by decide +kernel) (by decide +kernel) f_5 (Iff.rfl) (fun hp_10 => ?_) (fun hp_10 => ?_)
  · have h := it_t hp_10 h
    refine go_iconst (n := 0) (z := 0) (by decide +kernel) (by decide) fun v_11 f_12 => ?_
    cases h
    exact go_iret (by decide +kernel) rfl (Or.inr ⟨rfl, by decide⟩) f_12 (hQ _ _ R_7 (q_out_v (by decide) f_12))
  · have h := it_f hp_10 h
    refine go_iload_n (n := 2) (by decide +kernel) l2 f2 ?_
    refine go_iconst (n := 0) (z := 0) (by decide +kernel) (by decide) fun v_13 f_14 => ?_
    refine go_aload_n (n := 0) (by decide +kernel) l0 f0 ?_
    refine go_getf (x := 7) (ci := 13) (kf := 1) (fin := 1) (t := 2) (by decide +kernel) (by decide +kernel) (by decide +kernel) R_7 f0 (fx_k (c := 13) R_7 (by decide +kernel)) fun v_15 f_16 => ?_
    have f_17 := q_is_eq (b := 69) f_16 (fx_v R_7 (by decide +kernel)).symm
    refine go_iload_n (n := 1) (by decide +kernel) l1 f1 ?_
    obtain ⟨g_20, h⟩ := gd_s h
    obtain ⟨x_22, e_23, h⟩ := lx_s h
    refine go_iald (kd := 100) (by decide +kernel) rfl R_7 f_17 f1 (fx_k (c := 100) R_7 (by decide +kernel)) (fx_x (a := 69) (ln := 4) R_7 (by decide +kernel) g_20) fun v_18 f_19 => ?_
    have f_21 := q_is_eq f_19 e_23
    refine go_iconst (n := 1) (z := 1) (by decide +kernel) (by decide) fun v_24 f_25 => ?_
    refine go_isub (by decide +kernel) f_21 f_25 fun v_26 f_27 => ?_
    obtain ⟨x_29, hc_28, h⟩ := bp_s h
    refine go_callS (x := 306) (mi := 188) (n := 3) (b := 0) (as := [v2, v_13, v_26]) (rest := []) (by decide +kernel) (by decide +kernel) rfl rfl (q_sum8 _ (Nat.le_of_ble_eq_true rfl)) (om_X12_isIn (Nat.le_trans (by decide) hd) R_7 f2 f_14 f_27 hc_28) (fun _ S_33 q_36 => ?_) (fun _ _ qq => kr_x qq)
    refine kr_z (by decide) q_36 fun v_31 f_32 R_34 E_35 => ?_
    refine go_if (c := .eq) (o := 7) (t := 27) (P := x_29 = 0) (by decide +kernel) (by decide +kernel) f_32 (Iff.rfl) (fun hp_37 => ?_) (fun hp_37 => ?_)
    · have h := it_t hp_37 h
      refine go_iconst (n := 0) (z := 0) (by decide +kernel) (by decide) fun v_38 f_39 => ?_
      cases h
      exact go_iret (by decide +kernel) rfl (Or.inr ⟨rfl, by decide⟩) f_39 (hQ _ _ R_34 (q_out_v (by decide) f_39))
    · have h := it_f hp_37 h
      refine go_iconst (n := 1) (z := 1) (by decide +kernel) (by decide) fun v_40 f_41 => ?_
      refine go_goto (o := 4) (t := 28) (by decide +kernel) (by decide +kernel) ?_
      cases h
      exact go_iret (by decide +kernel) rfl (Or.inr ⟨rfl, by decide⟩) f_41 (hQ _ _ R_34 (q_out_v (by decide) f_41))
noncomputable def fl_X12_unsafe_28 (y1 y2 : Int) : Nat → Int → Int → MM → Option (Int × MM)
  | 0, _, _, _ => none
  | n + 1, y3, y4, m => lx (m 68 12) fun x_44 =>
if y4 < x_44 then
gd (0 ≤ y4 ∧ y4 < 30) <| lx (m 83 y4) fun x_54 =>
if x_54 = 0 then
lx (m 80 y4) fun x_89 =>
if x_89 = y1 then
bd (fm_X12_isSafe y4 y2 m) fun x_119 m_120 =>
if x_119 = 0 then
lx (w32 (y3 + 1)) fun x_159 =>
lx (w32 (y4 + 1)) fun x_174 =>
fl_X12_unsafe_28 y1 y2 n x_159 x_174 m_120
else
lx (w32 (y3 + 0)) fun x_133 =>
lx (w32 (y4 + 1)) fun x_148 =>
fl_X12_unsafe_28 y1 y2 n x_133 x_148 m_120
else
lx (w32 (y3 + 0)) fun x_96 =>
lx (w32 (y4 + 1)) fun x_111 =>
fl_X12_unsafe_28 y1 y2 n x_96 x_111 m
else
lx (w32 (y3 + 0)) fun x_61 =>
lx (w32 (y4 + 1)) fun x_76 =>
fl_X12_unsafe_28 y1 y2 n x_61 x_76 m
else
some (y3, m)
set_option maxHeartbeats 4000000 in
theorem ol_X12_unsafe_28 {xs : List Int32} {d : Nat} {Q : QO → QS → Prop} {mb : MM} {y1 y2 : Int} {rz : Int} {rm : MM}
  (hd : 15 ≤ d)
  (hQ : Ext mb rm → ∀ o S1, Rp S1 rm → q_out 0 o rz → Q o S1) :
  ∀ (n : Nat) {m : MM} {S : QS} {L : QL} {y3 y4 : Int} {v0 : Value} {v1 : Value} {v2 : Value} {v3 : Value} {v4 : Value} , Ext mb m → fl_X12_unsafe_28 y1 y2 n y3 y4 m = some (rz, rm) → Rp S m → q_lo L 0 = some v0 → q_is 2 v0 68 → q_lo L 1 = some v1 → q_is 0 v1 y1 → q_lo L 2 = some v2 → q_is 0 v2 y2 → q_lo L 3 = some v3 → q_is 0 v3 y3 → q_lo L 4 = some v4 → q_is 0 v4 y4 → Go xs d qM_X12_unsafe 28 L [] S Q := by
  intro n
  induction n with
  | zero => intro m S L y3 y4 v0 v1 v2 v3 v4; intro E h R l0 f0 l1 f1 l2 f2 l3 f3 l4 f4; cases h
  | succ n ih0 =>
    intro m S L y3 y4 v0 v1 v2 v3 v4; intro E h R l0 f0 l1 f1 l2 f2 l3 f3 l4 f4
    have ih : ∀ mq : MM, Ext mb mq → ∀ {z3 : Int} {z4 : Int} {Sq : QS} {Lq : QL} {u0 : Value} {u1 : Value} {u2 : Value} {u3 : Value} {u4 : Value}, fl_X12_unsafe_28 y1 y2 n z3 z4 mq = some (rz, rm) → Rp Sq mq → q_lo Lq 0 = some u0 → q_is 2 u0 68 → q_lo Lq 1 = some u1 → q_is 0 u1 y1 → q_lo Lq 2 = some u2 → q_is 0 u2 y2 → q_lo Lq 3 = some u3 → q_is 0 u3 z3 → q_lo Lq 4 = some u4 → q_is 0 u4 z4 → Go xs d qM_X12_unsafe 28 Lq [] Sq Q := fun mq b => by intros; exact ih0 b ‹_› ‹_› ‹_› ‹_› ‹_› ‹_› ‹_› ‹_› ‹_› ‹_› ‹_› ‹_›
    unfold fl_X12_unsafe_28 at h
    refine go_iload (n := 4) (by decide +kernel) l4 f4 ?_
    refine go_aload_n (n := 0) (by decide +kernel) l0 f0 ?_
    obtain ⟨x_44, e_45, h⟩ := lx_s h
    refine go_getf (x := 310) (ci := 13) (kf := 12) (fin := 0) (t := 0) (by decide +kernel) (by decide +kernel) (by decide +kernel) R f0 (fx_k (c := 13) R (by decide +kernel)) fun v_41 f_42 => ?_
    have f_43 := q_is_eq f_42 e_45
    refine go_icmp (c := .ge) (o := 48) (t := 82) (P := ¬ (y4 < x_44)) (by decide +kernel) (by decide +kernel) f4 f_43 (Int.not_lt.symm) (fun hp_46 => ?_) (fun hp_46 => ?_)
    · have h := it_f hp_46 h
      refine go_iload_n (n := 3) (by decide +kernel) l3 f3 ?_
      cases h
      exact go_iret (by decide +kernel) rfl (Or.inl rfl) f3 (hQ E _ _ R (q_out_v (by decide) f3))
    · have h := it_n hp_46 h
      refine go_iload_n (n := 3) (by decide +kernel) l3 f3 ?_
      refine go_aload_n (n := 0) (by decide +kernel) l0 f0 ?_
      refine go_getf (x := 52) (ci := 13) (kf := 16) (fin := 1) (t := 2) (by decide +kernel) (by decide +kernel) (by decide +kernel) R f0 (fx_k (c := 13) R (by decide +kernel)) fun v_47 f_48 => ?_
      have f_49 := q_is_eq (b := 83) f_48 (fx_v R (by decide +kernel)).symm
      refine go_iload (n := 4) (by decide +kernel) l4 f4 ?_
      obtain ⟨g_52, h⟩ := gd_s h
      obtain ⟨x_54, e_55, h⟩ := lx_s h
      refine go_iald (kd := 100) (by decide +kernel) rfl R f_49 f4 (fx_k (c := 100) R (by decide +kernel)) (fx_x (a := 83) (ln := 30) R (by decide +kernel) g_52) fun v_50 f_51 => ?_
      have f_53 := q_is_eq f_51 e_55
      refine go_if (c := .ne) (o := 28) (t := 73) (P := ¬ (x_54 = 0)) (by decide +kernel) (by decide +kernel) f_53 (Iff.rfl) (fun hp_56 => ?_) (fun hp_56 => ?_)
      · have h := it_f hp_56 h
        refine go_iconst (n := 0) (z := 0) (by decide +kernel) (by decide) fun v_57 f_58 => ?_
        refine go_iadd (by decide +kernel) f3 f_58 fun v_59 f_60 => ?_
        obtain ⟨x_61, e_62, h⟩ := lx_s h
        have f_63 := q_is_eq f_60 e_62
        refine go_istore_n (n := 3) (by decide +kernel) (by decide +kernel) f_63 fun L_64 l_65 kp_66 => ?_
        have l_67 := kp_66 0 _ l0 (by decide) (Or.inl (by decide))
        have l_68 := kp_66 1 _ l1 (by decide) (Or.inl (by decide))
        have l_69 := kp_66 2 _ l2 (by decide) (Or.inr (q_is_cat f2 (Or.inl rfl)))
        have l_70 := kp_66 4 _ l4 (by decide) (Or.inl (by decide))
        refine go_iinc (n := 4) (c := 1) (c' := 1) (by decide +kernel) (by decide +kernel) l_70 f4 (by decide) fun L_71 v_72 f_73 l_74 kp_75 => ?_
        obtain ⟨x_76, e_77, h⟩ := lx_s h
        have f_78 := q_is_eq f_73 e_77
        have l_79 := kp_75 0 _ l_67 (by decide) (Or.inl (by decide))
        have l_80 := kp_75 1 _ l_68 (by decide) (Or.inl (by decide))
        have l_81 := kp_75 2 _ l_69 (by decide) (Or.inl (by decide))
        have l_82 := kp_75 3 _ l_65 (by decide) (Or.inr (q_is_cat f_63 (Or.inl rfl)))
        refine go_goto (o := (-51)) (t := 28) (by decide +kernel) (by decide +kernel) ?_
        exact ih m E h R l_79 f0 l_80 f1 l_81 f2 l_82 f_63 l_74 f_78
      · have h := it_n hp_56 h
        refine go_aload_n (n := 0) (by decide +kernel) l0 f0 ?_
        refine go_getf (x := 43) (ci := 13) (kf := 13) (fin := 1) (t := 2) (by decide +kernel) (by decide +kernel) (by decide +kernel) R f0 (fx_k (c := 13) R (by decide +kernel)) fun v_83 f_84 => ?_
        have f_85 := q_is_eq (b := 80) f_84 (fx_v R (by decide +kernel)).symm
        refine go_iload (n := 4) (by decide +kernel) l4 f4 ?_
        obtain ⟨x_89, e_90, h⟩ := lx_s h
        refine go_iald (kd := 100) (by decide +kernel) rfl R f_85 f4 (fx_k (c := 100) R (by decide +kernel)) (fx_x (a := 80) (ln := 30) R (by decide +kernel) g_52) fun v_86 f_87 => ?_
        have f_88 := q_is_eq f_87 e_90
        refine go_iload_n (n := 1) (by decide +kernel) l1 f1 ?_
        refine go_icmp (c := .ne) (o := 17) (t := 73) (P := ¬ (x_89 = y1)) (by decide +kernel) (by decide +kernel) f_88 f1 (Iff.rfl) (fun hp_91 => ?_) (fun hp_91 => ?_)
        · have h := it_f hp_91 h
          refine go_iconst (n := 0) (z := 0) (by decide +kernel) (by decide) fun v_92 f_93 => ?_
          refine go_iadd (by decide +kernel) f3 f_93 fun v_94 f_95 => ?_
          obtain ⟨x_96, e_97, h⟩ := lx_s h
          have f_98 := q_is_eq f_95 e_97
          refine go_istore_n (n := 3) (by decide +kernel) (by decide +kernel) f_98 fun L_99 l_100 kp_101 => ?_
          have l_102 := kp_101 0 _ l0 (by decide) (Or.inl (by decide))
          have l_103 := kp_101 1 _ l1 (by decide) (Or.inl (by decide))
          have l_104 := kp_101 2 _ l2 (by decide) (Or.inr (q_is_cat f2 (Or.inl rfl)))
          have l_105 := kp_101 4 _ l4 (by decide) (Or.inl (by decide))
          refine go_iinc (n := 4) (c := 1) (c' := 1) (by decide +kernel) (by decide +kernel) l_105 f4 (by decide) fun L_106 v_107 f_108 l_109 kp_110 => ?_
          obtain ⟨x_111, e_112, h⟩ := lx_s h
          have f_113 := q_is_eq f_108 e_112
          have l_114 := kp_110 0 _ l_102 (by decide) (Or.inl (by decide))
          have l_115 := kp_110 1 _ l_103 (by decide) (Or.inl (by decide))
          have l_116 := kp_110 2 _ l_104 (by decide) (Or.inl (by decide))
          have l_117 := kp_110 3 _ l_100 (by decide) (Or.inr (q_is_cat f_98 (Or.inl rfl)))
          refine go_goto (o := (-51)) (t := 28) (by decide +kernel) (by decide +kernel) ?_
          exact ih m E h R l_114 f0 l_115 f1 l_116 f2 l_117 f_98 l_109 f_113
        · have h := it_n hp_91 h
          refine go_aload_n (n := 0) (by decide +kernel) l0 f0 ?_
          refine go_iload (n := 4) (by decide +kernel) l4 f4 ?_
          refine go_iload_n (n := 2) (by decide +kernel) l2 f2 ?_
          obtain ⟨x_119, m_120, hc_118, h⟩ := bd_s h
          refine go_callV (x := 586) (mi := 250) (n := 2) (ci := 13) (as := [v4, v2]) (rest := [v3]) (by decide +kernel) (by decide +kernel) rfl rfl (q_sum8 _ (Nat.le_of_ble_eq_true rfl)) R f0 (fx_k (c := 13) R (by decide +kernel)) (om_X12_isSafe (Nat.le_trans (by decide) hd) R f0 f4 f2 hc_118) (fun _ S_123 q_126 => ?_) (fun _ _ qq => kr_x qq)
          refine kr_z (by decide) q_126 fun v_121 f_122 R_124 E_125 => ?_
          have E_127 := Ext.tr E E_125
          refine go_if (c := .ne) (o := 7) (t := 73) (P := ¬ (x_119 = 0)) (by decide +kernel) (by decide +kernel) f_122 (Iff.rfl) (fun hp_128 => ?_) (fun hp_128 => ?_)
          · have h := it_f hp_128 h
            refine go_iconst (n := 0) (z := 0) (by decide +kernel) (by decide) fun v_129 f_130 => ?_
            refine go_iadd (by decide +kernel) f3 f_130 fun v_131 f_132 => ?_
            obtain ⟨x_133, e_134, h⟩ := lx_s h
            have f_135 := q_is_eq f_132 e_134
            refine go_istore_n (n := 3) (by decide +kernel) (by decide +kernel) f_135 fun L_136 l_137 kp_138 => ?_
            have l_139 := kp_138 0 _ l0 (by decide) (Or.inl (by decide))
            have l_140 := kp_138 1 _ l1 (by decide) (Or.inl (by decide))
            have l_141 := kp_138 2 _ l2 (by decide) (Or.inr (q_is_cat f2 (Or.inl rfl)))
            have l_142 := kp_138 4 _ l4 (by decide) (Or.inl (by decide))
            refine go_iinc (n := 4) (c := 1) (c' := 1) (by decide +kernel) (by decide +kernel) l_142 f4 (by decide) fun L_143 v_144 f_145 l_146 kp_147 => ?_
            obtain ⟨x_148, e_149, h⟩ := lx_s h
            have f_150 := q_is_eq f_145 e_149
            have l_151 := kp_147 0 _ l_139 (by decide) (Or.inl (by decide))
            have l_152 := kp_147 1 _ l_140 (by decide) (Or.inl (by decide))
            have l_153 := kp_147 2 _ l_141 (by decide) (Or.inl (by decide))
            have l_154 := kp_147 3 _ l_137 (by decide) (Or.inr (q_is_cat f_135 (Or.inl rfl)))
            refine go_goto (o := (-51)) (t := 28) (by decide +kernel) (by decide +kernel) ?_
            exact ih m_120 E_127 h R_124 l_151 f0 l_152 f1 l_153 f2 l_154 f_135 l_146 f_150
          · have h := it_n hp_128 h
            refine go_iconst (n := 1) (z := 1) (by decide +kernel) (by decide) fun v_155 f_156 => ?_
            refine go_goto (o := 4) (t := 74) (by decide +kernel) (by decide +kernel) ?_
            refine go_iadd (by decide +kernel) f3 f_156 fun v_157 f_158 => ?_
            obtain ⟨x_159, e_160, h⟩ := lx_s h
            have f_161 := q_is_eq f_158 e_160
            refine go_istore_n (n := 3) (by decide +kernel) (by decide +kernel) f_161 fun L_162 l_163 kp_164 => ?_
            have l_165 := kp_164 0 _ l0 (by decide) (Or.inl (by decide))
            have l_166 := kp_164 1 _ l1 (by decide) (Or.inl (by decide))
            have l_167 := kp_164 2 _ l2 (by decide) (Or.inr (q_is_cat f2 (Or.inl rfl)))
            have l_168 := kp_164 4 _ l4 (by decide) (Or.inl (by decide))
            refine go_iinc (n := 4) (c := 1) (c' := 1) (by decide +kernel) (by decide +kernel) l_168 f4 (by decide) fun L_169 v_170 f_171 l_172 kp_173 => ?_
            obtain ⟨x_174, e_175, h⟩ := lx_s h
            have f_176 := q_is_eq f_171 e_175
            have l_177 := kp_173 0 _ l_165 (by decide) (Or.inl (by decide))
            have l_178 := kp_173 1 _ l_166 (by decide) (Or.inl (by decide))
            have l_179 := kp_173 2 _ l_167 (by decide) (Or.inl (by decide))
            have l_180 := kp_173 3 _ l_163 (by decide) (Or.inr (q_is_cat f_161 (Or.inl rfl)))
            refine go_goto (o := (-51)) (t := 28) (by decide +kernel) (by decide +kernel) ?_
            exact ih m_120 E_127 h R_124 l_177 f0 l_178 f1 l_179 f2 l_180 f_161 l_172 f_176
noncomputable def fj_X12_unsafe_15 (y1 y2 s0 : Int) (m : MM) : Option (Int × MM) := bd (fm_X12_fails s0 m) fun x_14 m_15 =>
if x_14 = 0 then
fl_X12_unsafe_28 y1 y2  BIG 0 0 m_15
else
some (0, m_15)
set_option maxHeartbeats 4000000 in
theorem oj_X12_unsafe_15 {xs : List Int32} {d : Nat} {S : QS} {L : QL} {Q : QO → QS → Prop} {m : MM} {y1 y2 s0 : Int} {v0 : Value} {v1 : Value} {v2 : Value} {w0 : Value} {w1 : Value}  {rz : Int} {rm : MM}
  (hd : 15 ≤ d) (R : Rp S m) (l0 : q_lo L 0 = some v0) (f0 : q_is 2 v0 68) (l1 : q_lo L 1 = some v1) (f1 : q_is 0 v1 y1) (l2 : q_lo L 2 = some v2) (f2 : q_is 0 v2 y2) (fs0 : q_is 0 w0 s0) (fs1 : q_is 2 w1 68)
  (hQ : Ext m rm → ∀ o S1, Rp S1 rm → q_out 0 o rz → Q o S1)
  (h : fj_X12_unsafe_15 y1 y2 s0 m = some (rz, rm)) : Go xs d qM_X12_unsafe 15 L [w0, w1] S Q := by
  unfold fj_X12_unsafe_15 at h
  obtain ⟨x_14, m_15, hc_13, h⟩ := bd_s h
  refine go_callV (x := 324) (mi := 186) (n := 1) (ci := 13) (as := [w0]) (rest := []) (by decide +kernel) (by decide +kernel) rfl rfl (q_sum8 _ (Nat.le_of_ble_eq_true rfl)) R fs1 (fx_k (c := 13) R (by decide +kernel)) (om_X12_fails (Nat.le_trans (by decide) hd) R fs1 fs0 hc_13) (fun _ S_18 q_21 => ?_) (fun _ _ qq => kr_x qq)
  refine kr_z (by decide) q_21 fun v_16 f_17 R_19 E_20 => ?_
  have E_22 := E_20
  refine go_if (c := .eq) (o := 5) (t := 23) (P := x_14 = 0) (by decide +kernel) (by decide +kernel) f_17 (Iff.rfl) (fun hp_23 => ?_) (fun hp_23 => ?_)
  · have h := it_t hp_23 h
    refine go_iconst (n := 0) (z := 0) (by decide +kernel) (by decide) fun v_24 f_25 => ?_
    refine go_istore_n (n := 3) (by decide +kernel) (by decide +kernel) f_25 fun L_26 l_27 kp_28 => ?_
    have l_29 := kp_28 0 _ l0 (by decide) (Or.inl (by decide))
    have l_30 := kp_28 1 _ l1 (by decide) (Or.inl (by decide))
    have l_31 := kp_28 2 _ l2 (by decide) (Or.inr (q_is_cat f2 (Or.inl rfl)))
    refine go_iconst (n := 0) (z := 0) (by decide +kernel) (by decide) fun v_32 f_33 => ?_
    refine go_istore (n := 4) (by decide +kernel) (by decide +kernel) f_33 fun L_34 l_35 kp_36 => ?_
    have l_37 := kp_36 0 _ l_29 (by decide) (Or.inl (by decide))
    have l_38 := kp_36 1 _ l_30 (by decide) (Or.inl (by decide))
    have l_39 := kp_36 2 _ l_31 (by decide) (Or.inl (by decide))
    have l_40 := kp_36 3 _ l_27 (by decide) (Or.inr (q_is_cat f_25 (Or.inl rfl)))
    refine ol_X12_unsafe_28 hd   (fun b => hQ (Ext.tr E_22 b)) BIG (Ext.rf _) h R_19 l_37 f0 l_38 f1 l_39 f2 l_40 f_25 l_35 f_33
  · have h := it_f hp_23 h
    refine go_iconst (n := 0) (z := 0) (by decide +kernel) (by decide) fun v_181 f_182 => ?_
    cases h
    exact go_iret (by decide +kernel) rfl (Or.inl rfl) f_182 (hQ E_22 _ _ R_19 (q_out_v (by decide) f_182))
noncomputable def fm_X12_unsafe (p1 p2 : Int) (m0 : MM) : Option (Int × MM) := bp (fm_X12_isVersion p1 p2 m0) fun x_2 =>
if x_2 = 0 then
fj_X12_unsafe_15 p1 p2 1 m0
else
fj_X12_unsafe_15 p1 p2 0 m0
set_option maxHeartbeats 4000000 in
theorem om_X12_unsafe {xs : List Int32} {d : Nat} {S : QS} {m0 : MM} {p1 p2 : Int} {v0 : Value} {v1 : Value} {v2 : Value} {rz : Int} {rm : MM}
  (hd : 16 ≤ d) (R : Rp S m0) (f0 : q_is 2 v0 68) (f1 : q_is 0 v1 p1) (f2 : q_is 0 v2 p2)
  (h : fm_X12_unsafe p1 p2 m0 = some (rz, rm)) : Mt xs d 295 [v0, v1, v2] S (Cr 0 m0 rm rz) := by
  obtain ⟨d, rfl⟩ : ∃ e, d = e + 1 := ⟨d - 1, by omega⟩
  have hd : 15 ≤ d := Nat.le_of_succ_le_succ hd
  refine Mt.of (M := qM_X12_unsafe) rfl (by rw [sl_1 (q_is_cat f0 (Or.inr rfl)), sl_1 (q_is_cat f1 (Or.inl rfl)), sl_1 (q_is_cat f2 (Or.inl rfl)), sl_0]; decide) ?_
  rw [la_1 (q_is_cat f0 (Or.inr rfl)), la_1 (q_is_cat f1 (Or.inl rfl)), la_1 (q_is_cat f2 (Or.inl rfl)), la_0]
  obtain ⟨L, hL⟩ : ∃ L : QL, L = [(0, v0), (0 + 1, v1), (0 + 1 + 1, v2)] := ⟨_, rfl⟩
  rw [← hL]
  have l0 : q_lo L 0 = some v0 := by rw [hL]; rfl
  have l1 : q_lo L 1 = some v1 := by rw [hL]; rfl
  have l2 : q_lo L 2 = some v2 := by rw [hL]; rfl
  have hQ : Ext m0 rm → ∀ o S1, Rp S1 rm → q_out 0 o rz → (Cr 0 m0 rm rz) o S1 := fun a o S1 b e => ⟨b, a, e⟩
  unfold fm_X12_unsafe at h
  refine go_aload_n (n := 0) (by decide +kernel) l0 f0 ?_
  refine go_aload_n (n := 0) (by decide +kernel) l0 f0 ?_
  refine go_iload_n (n := 1) (by decide +kernel) l1 f1 ?_
  refine go_iload_n (n := 2) (by decide +kernel) l2 f2 ?_
  obtain ⟨x_2, hc_1, h⟩ := bp_s h
  refine go_callV (x := 661) (mi := 294) (n := 2) (ci := 13) (as := [v1, v2]) (rest := [v0]) (by decide +kernel) (by decide +kernel) rfl rfl (q_sum8 _ (Nat.le_of_ble_eq_true rfl)) R f0 (fx_k (c := 13) R (by decide +kernel)) (om_X12_isVersion (Nat.le_trans (by decide) hd) R f0 f1 f2 hc_1) (fun _ S_6 q_9 => ?_) (fun _ _ qq => kr_x qq)
  refine kr_z (by decide) q_9 fun v_4 f_5 R_7 E_8 => ?_
  refine go_if (c := .eq) (o := 7) (t := 14) (P := x_2 = 0) (by decide +kernel) (by decide +kernel) f_5 (Iff.rfl) (fun hp_10 => ?_) (fun hp_10 => ?_)
  · have h := it_t hp_10 h
    refine go_iconst (n := 1) (z := 1) (by decide +kernel) (by decide) fun v_11 f_12 => ?_
    exact oj_X12_unsafe_15 hd R_7 l0 f0 l1 f1 l2 f2 f_12 f0 hQ h
  · have h := it_f hp_10 h
    refine go_iconst (n := 0) (z := 0) (by decide +kernel) (by decide) fun v_183 f_184 => ?_
    refine go_goto (o := 4) (t := 15) (by decide +kernel) (by decide +kernel) ?_
    exact oj_X12_unsafe_15 hd R_7 l0 f0 l1 f1 l2 f2 f_184 f0 hQ h
noncomputable def fj_X12_move_50 (y1 y2 s0 : Int) (m : MM) : Option (Int × MM) := bd (fm_X12_fails s0 m) fun x_33 m_34 =>
if x_33 = 0 then
gd (0 ≤ y1 ∧ y1 < 30) <| up m_34 82 y1 y2 fun m_47 =>
up m_47 83 y1 0 fun m_58 =>
bd (fm_X12_isSafe y1 y2 m_58) fun x_65 m_66 =>
gd (x_65 = 0 ∨ x_65 = 1) <| some (x_65, m_66)
else
some (0, m_34)
set_option maxHeartbeats 4000000 in
theorem oj_X12_move_50 {xs : List Int32} {d : Nat} {S : QS} {L : QL} {Q : QO → QS → Prop} {m : MM} {y1 y2 s0 : Int} {v0 : Value} {v1 : Value} {v2 : Value} {w0 : Value} {w1 : Value}  {rz : Int} {rm : MM}
  (hd : 15 ≤ d) (R : Rp S m) (l0 : q_lo L 0 = some v0) (f0 : q_is 2 v0 68) (l1 : q_lo L 1 = some v1) (f1 : q_is 0 v1 y1) (l2 : q_lo L 2 = some v2) (f2 : q_is 0 v2 y2) (fs0 : q_is 0 w0 s0) (fs1 : q_is 2 w1 68)
  (hQ : Ext m rm → ∀ o S1, Rp S1 rm → q_out 0 o rz → Q o S1)
  (h : fj_X12_move_50 y1 y2 s0 m = some (rz, rm)) : Go xs d qM_X12_move 50 L [w0, w1] S Q := by
  unfold fj_X12_move_50 at h
  obtain ⟨x_33, m_34, hc_32, h⟩ := bd_s h
  refine go_callV (x := 324) (mi := 186) (n := 1) (ci := 13) (as := [w0]) (rest := []) (by decide +kernel) (by decide +kernel) rfl rfl (q_sum8 _ (Nat.le_of_ble_eq_true rfl)) R fs1 (fx_k (c := 13) R (by decide +kernel)) (om_X12_fails (Nat.le_trans (by decide) hd) R fs1 fs0 hc_32) (fun _ S_37 q_40 => ?_) (fun _ _ qq => kr_x qq)
  refine kr_z (by decide) q_40 fun v_35 f_36 R_38 E_39 => ?_
  have E_41 := E_39
  refine go_if (c := .eq) (o := 5) (t := 58) (P := x_33 = 0) (by decide +kernel) (by decide +kernel) f_36 (Iff.rfl) (fun hp_42 => ?_) (fun hp_42 => ?_)
  · have h := it_t hp_42 h
    refine go_aload_n (n := 0) (by decide +kernel) l0 f0 ?_
    refine go_getf (x := 49) (ci := 13) (kf := 15) (fin := 1) (t := 2) (by decide +kernel) (by decide +kernel) (by decide +kernel) R_38 f0 (fx_k (c := 13) R_38 (by decide +kernel)) fun v_43 f_44 => ?_
    have f_45 := q_is_eq (b := 82) f_44 (fx_v R_38 (by decide +kernel)).symm
    refine go_iload_n (n := 1) (by decide +kernel) l1 f1 ?_
    refine go_iload_n (n := 2) (by decide +kernel) l2 f2 ?_
    obtain ⟨g_46, h⟩ := gd_s h
    obtain ⟨m_47, e_48, h⟩ := up_s h
    refine go_iast (kd := 100) (by decide +kernel) rfl R_38 f_45 f1 f2 (fx_k (c := 100) R_38 (by decide +kernel)) (fx_x (a := 82) (ln := 30) R_38 (by decide +kernel) g_46) e_48 (fx_a R_38.2 (fx_k (c := 100) R_38 (by decide +kernel)) (And.left (fx_x (a := 82) (ln := 30) R_38 (by decide +kernel) g_46)) (by decide +kernel)) fun S_49 R_50 E_51 => ?_
    have E_52 := Ext.tr E_41 E_51
    refine go_aload_n (n := 0) (by decide +kernel) l0 f0 ?_
    refine go_getf (x := 52) (ci := 13) (kf := 16) (fin := 1) (t := 2) (by decide +kernel) (by decide +kernel) (by decide +kernel) R_50 f0 (fx_k (c := 13) R_50 (by decide +kernel)) fun v_53 f_54 => ?_
    have f_55 := q_is_eq (b := 83) f_54 (fx_v R_50 (by decide +kernel)).symm
    refine go_iload_n (n := 1) (by decide +kernel) l1 f1 ?_
    refine go_iconst (n := 0) (z := 0) (by decide +kernel) (by decide) fun v_56 f_57 => ?_
    obtain ⟨m_58, e_59, h⟩ := up_s h
    refine go_iast (kd := 100) (by decide +kernel) rfl R_50 f_55 f1 f_57 (fx_k (c := 100) R_50 (by decide +kernel)) (fx_x (a := 83) (ln := 30) R_50 (by decide +kernel) g_46) e_59 (fx_a R_50.2 (fx_k (c := 100) R_50 (by decide +kernel)) (And.left (fx_x (a := 83) (ln := 30) R_50 (by decide +kernel) g_46)) (by decide +kernel)) fun S_60 R_61 E_62 => ?_
    have E_63 := Ext.tr E_52 E_62
    refine go_aload_n (n := 0) (by decide +kernel) l0 f0 ?_
    refine go_iload_n (n := 1) (by decide +kernel) l1 f1 ?_
    refine go_iload_n (n := 2) (by decide +kernel) l2 f2 ?_
    obtain ⟨x_65, m_66, hc_64, h⟩ := bd_s h
    refine go_callV (x := 586) (mi := 250) (n := 2) (ci := 13) (as := [v1, v2]) (rest := []) (by decide +kernel) (by decide +kernel) rfl rfl (q_sum8 _ (Nat.le_of_ble_eq_true rfl)) R_61 f0 (fx_k (c := 13) R_61 (by decide +kernel)) (om_X12_isSafe (Nat.le_trans (by decide) hd) R_61 f0 f1 f2 hc_64) (fun _ S_69 q_72 => ?_) (fun _ _ qq => kr_x qq)
    refine kr_z (by decide) q_72 fun v_67 f_68 R_70 E_71 => ?_
    have E_73 := Ext.tr E_63 E_71
    obtain ⟨g_74, h⟩ := gd_s h
    cases h
    exact go_iret (by decide +kernel) rfl (Or.inr ⟨rfl, g_74⟩) f_68 (hQ E_73 _ _ R_70 (q_out_v (by decide) f_68))
  · have h := it_f hp_42 h
    refine go_iconst (n := 0) (z := 0) (by decide +kernel) (by decide) fun v_75 f_76 => ?_
    cases h
    exact go_iret (by decide +kernel) rfl (Or.inr ⟨rfl, by decide⟩) f_76 (hQ E_41 _ _ R_38 (q_out_v (by decide) f_76))
noncomputable def fj_X12_move_27 (y1 y2 s0 : Int) (m : MM) : Option (Int × MM) := if s0 = 0 then
fj_X12_move_50 y1 y2 1 m
else
bp (fm_X12_isAlive y1 m) fun x_21 =>
if x_21 = 0 then
fj_X12_move_50 y1 y2 2 m
else
fj_X12_move_50 y1 y2 0 m
set_option maxHeartbeats 4000000 in
theorem oj_X12_move_27 {xs : List Int32} {d : Nat} {S : QS} {L : QL} {Q : QO → QS → Prop} {m : MM} {y1 y2 s0 : Int} {v0 : Value} {v1 : Value} {v2 : Value} {w0 : Value}  {rz : Int} {rm : MM}
  (hd : 15 ≤ d) (R : Rp S m) (l0 : q_lo L 0 = some v0) (f0 : q_is 2 v0 68) (l1 : q_lo L 1 = some v1) (f1 : q_is 0 v1 y1) (l2 : q_lo L 2 = some v2) (f2 : q_is 0 v2 y2) (fs0 : q_is 0 w0 s0)
  (hQ : Ext m rm → ∀ o S1, Rp S1 rm → q_out 0 o rz → Q o S1)
  (h : fj_X12_move_27 y1 y2 s0 m = some (rz, rm)) : Go xs d qM_X12_move 27 L [w0] S Q := by
  unfold fj_X12_move_27 at h
  refine go_istore_n (n := 3) (by decide +kernel) (by decide +kernel) fs0 fun L_13 l_14 kp_15 => ?_
  have l_16 := kp_15 0 _ l0 (by decide) (Or.inl (by decide))
  have l_17 := kp_15 1 _ l1 (by decide) (Or.inl (by decide))
  have l_18 := kp_15 2 _ l2 (by decide) (Or.inr (q_is_cat f2 (Or.inl rfl)))
  refine go_aload_n (n := 0) (by decide +kernel) l_16 f0 ?_
  refine go_iload_n (n := 3) (by decide +kernel) l_14 fs0 ?_
  refine go_if (c := .ne) (o := 7) (t := 37) (P := ¬ (s0 = 0)) (by decide +kernel) (by decide +kernel) fs0 (Iff.rfl) (fun hp_19 => ?_) (fun hp_19 => ?_)
  · have h := it_f hp_19 h
    refine go_aload_n (n := 0) (by decide +kernel) l_16 f0 ?_
    refine go_iload_n (n := 1) (by decide +kernel) l_17 f1 ?_
    obtain ⟨x_21, hc_20, h⟩ := bp_s h
    refine go_callV (x := 561) (mi := 213) (n := 1) (ci := 13) (as := [v1]) (rest := [v0]) (by decide +kernel) (by decide +kernel) rfl rfl (q_sum8 _ (Nat.le_of_ble_eq_true rfl)) R f0 (fx_k (c := 13) R (by decide +kernel)) (om_X12_isAlive (Nat.le_trans (by decide) hd) R f0 f1 hc_20) (fun _ S_25 q_28 => ?_) (fun _ _ qq => kr_x qq)
    refine kr_z (by decide) q_28 fun v_23 f_24 R_26 E_27 => ?_
    refine go_if (c := .eq) (o := 7) (t := 49) (P := x_21 = 0) (by decide +kernel) (by decide +kernel) f_24 (Iff.rfl) (fun hp_29 => ?_) (fun hp_29 => ?_)
    · have h := it_t hp_29 h
      refine go_iconst (n := 2) (z := 2) (by decide +kernel) (by decide) fun v_30 f_31 => ?_
      exact oj_X12_move_50 hd R_26 l_16 f0 l_17 f1 l_18 f2 f_31 f0 hQ h
    · have h := it_f hp_29 h
      refine go_iconst (n := 0) (z := 0) (by decide +kernel) (by decide) fun v_77 f_78 => ?_
      refine go_goto (o := 4) (t := 50) (by decide +kernel) (by decide +kernel) ?_
      exact oj_X12_move_50 hd R_26 l_16 f0 l_17 f1 l_18 f2 f_78 f0 hQ h
  · have h := it_n hp_19 h
    refine go_iconst (n := 1) (z := 1) (by decide +kernel) (by decide) fun v_79 f_80 => ?_
    refine go_goto (o := 16) (t := 50) (by decide +kernel) (by decide +kernel) ?_
    exact oj_X12_move_50 hd R l_16 f0 l_17 f1 l_18 f2 f_80 f0 hQ h
noncomputable def fm_X12_move (p1 p2 : Int) (m0 : MM) : Option (Int × MM) := bp (fm_X12_isRun p1 m0) fun x_2 =>
if x_2 = 0 then
fj_X12_move_27 p1 p2 0 m0
else
gd (0 ≤ p1 ∧ p1 < 30) <| lx (m0 80 p1) fun x_88 =>
bp (fm_X12_isVersion x_88 p2 m0) fun x_91 =>
if x_91 = 0 then
fj_X12_move_27 p1 p2 0 m0
else
fj_X12_move_27 p1 p2 1 m0
set_option maxHeartbeats 4000000 in
theorem om_X12_move {xs : List Int32} {d : Nat} {S : QS} {m0 : MM} {p1 p2 : Int} {v0 : Value} {v1 : Value} {v2 : Value} {rz : Int} {rm : MM}
  (hd : 16 ≤ d) (R : Rp S m0) (f0 : q_is 2 v0 68) (f1 : q_is 0 v1 p1) (f2 : q_is 0 v2 p2)
  (h : fm_X12_move p1 p2 m0 = some (rz, rm)) : Mt xs d 296 [v0, v1, v2] S (Cr 0 m0 rm rz) := by
  obtain ⟨d, rfl⟩ : ∃ e, d = e + 1 := ⟨d - 1, by omega⟩
  have hd : 15 ≤ d := Nat.le_of_succ_le_succ hd
  refine Mt.of (M := qM_X12_move) rfl (by rw [sl_1 (q_is_cat f0 (Or.inr rfl)), sl_1 (q_is_cat f1 (Or.inl rfl)), sl_1 (q_is_cat f2 (Or.inl rfl)), sl_0]; decide) ?_
  rw [la_1 (q_is_cat f0 (Or.inr rfl)), la_1 (q_is_cat f1 (Or.inl rfl)), la_1 (q_is_cat f2 (Or.inl rfl)), la_0]
  obtain ⟨L, hL⟩ : ∃ L : QL, L = [(0, v0), (0 + 1, v1), (0 + 1 + 1, v2)] := ⟨_, rfl⟩
  rw [← hL]
  have l0 : q_lo L 0 = some v0 := by rw [hL]; rfl
  have l1 : q_lo L 1 = some v1 := by rw [hL]; rfl
  have l2 : q_lo L 2 = some v2 := by rw [hL]; rfl
  have hQ : Ext m0 rm → ∀ o S1, Rp S1 rm → q_out 0 o rz → (Cr 0 m0 rm rz) o S1 := fun a o S1 b e => ⟨b, a, e⟩
  unfold fm_X12_move at h
  refine go_aload_n (n := 0) (by decide +kernel) l0 f0 ?_
  refine go_iload_n (n := 1) (by decide +kernel) l1 f1 ?_
  obtain ⟨x_2, hc_1, h⟩ := bp_s h
  refine go_callV (x := 580) (mi := 193) (n := 1) (ci := 13) (as := [v1]) (rest := []) (by decide +kernel) (by decide +kernel) rfl rfl (q_sum8 _ (Nat.le_of_ble_eq_true rfl)) R f0 (fx_k (c := 13) R (by decide +kernel)) (om_X12_isRun (Nat.le_trans (by decide) hd) R f0 f1 hc_1) (fun _ S_6 q_9 => ?_) (fun _ _ qq => kr_x qq)
  refine kr_z (by decide) q_9 fun v_4 f_5 R_7 E_8 => ?_
  refine go_if (c := .eq) (o := 21) (t := 26) (P := x_2 = 0) (by decide +kernel) (by decide +kernel) f_5 (Iff.rfl) (fun hp_10 => ?_) (fun hp_10 => ?_)
  · have h := it_t hp_10 h
    refine go_iconst (n := 0) (z := 0) (by decide +kernel) (by decide) fun v_11 f_12 => ?_
    exact oj_X12_move_27 hd R_7 l0 f0 l1 f1 l2 f2 f_12 hQ h
  · have h := it_f hp_10 h
    refine go_aload_n (n := 0) (by decide +kernel) l0 f0 ?_
    refine go_aload_n (n := 0) (by decide +kernel) l0 f0 ?_
    refine go_getf (x := 43) (ci := 13) (kf := 13) (fin := 1) (t := 2) (by decide +kernel) (by decide +kernel) (by decide +kernel) R_7 f0 (fx_k (c := 13) R_7 (by decide +kernel)) fun v_81 f_82 => ?_
    have f_83 := q_is_eq (b := 80) f_82 (fx_v R_7 (by decide +kernel)).symm
    refine go_iload_n (n := 1) (by decide +kernel) l1 f1 ?_
    obtain ⟨g_86, h⟩ := gd_s h
    obtain ⟨x_88, e_89, h⟩ := lx_s h
    refine go_iald (kd := 100) (by decide +kernel) rfl R_7 f_83 f1 (fx_k (c := 100) R_7 (by decide +kernel)) (fx_x (a := 80) (ln := 30) R_7 (by decide +kernel) g_86) fun v_84 f_85 => ?_
    have f_87 := q_is_eq f_85 e_89
    refine go_iload_n (n := 2) (by decide +kernel) l2 f2 ?_
    obtain ⟨x_91, hc_90, h⟩ := bp_s h
    refine go_callV (x := 661) (mi := 294) (n := 2) (ci := 13) (as := [v_84, v2]) (rest := []) (by decide +kernel) (by decide +kernel) rfl rfl (q_sum8 _ (Nat.le_of_ble_eq_true rfl)) R_7 f0 (fx_k (c := 13) R_7 (by decide +kernel)) (om_X12_isVersion (Nat.le_trans (by decide) hd) R_7 f0 f_87 f2 hc_90) (fun _ S_95 q_98 => ?_) (fun _ _ qq => kr_x qq)
    refine kr_z (by decide) q_98 fun v_93 f_94 R_96 E_97 => ?_
    refine go_if (c := .eq) (o := 7) (t := 26) (P := x_91 = 0) (by decide +kernel) (by decide +kernel) f_94 (Iff.rfl) (fun hp_99 => ?_) (fun hp_99 => ?_)
    · have h := it_t hp_99 h
      refine go_iconst (n := 0) (z := 0) (by decide +kernel) (by decide) fun v_100 f_101 => ?_
      exact oj_X12_move_27 hd R_96 l0 f0 l1 f1 l2 f2 f_101 hQ h
    · have h := it_f hp_99 h
      refine go_iconst (n := 1) (z := 1) (by decide +kernel) (by decide) fun v_102 f_103 => ?_
      refine go_goto (o := 4) (t := 27) (by decide +kernel) (by decide +kernel) ?_
      exact oj_X12_move_27 hd R_96 l0 f0 l1 f1 l2 f2 f_103 hQ h
noncomputable def fl_X12_marks_2 (y1 : Int) (k28 : MM → Option (Int × MM)) : Nat → Int → MM → Option (Int × MM)
  | 0, _, _ => none
  | n + 1, y2, m => gd (0 ≤ y1 ∧ y1 < 30) <| lx (m 86 y1) fun x_15 =>
if w32 (Int.tdiv x_15 32) < y2 then
k28 m
else
gd (0 ≤ y2 ∧ y2 < 16384) <| up m 97 y2 0 fun m_28 =>
lx (w32 (y2 + 1)) fun x_39 =>
fl_X12_marks_2 y1 k28 n x_39 m_28
set_option maxHeartbeats 4000000 in
theorem ol_X12_marks_2 {xs : List Int32} {d : Nat} {Q : QO → QS → Prop} {mb : MM} {y1 : Int} {k28 : MM → Option (Int × MM)} {rz : Int} {rm : MM}
  (hd : 2 ≤ d)
  (hk28 : ∀ mq : MM, Ext mb mq → ∀ {Sq : QS} {Lq : QL} {u0 : Value} {u1 : Value}, k28 mq = some (rz, rm) → Rp Sq mq → q_lo Lq 0 = some u0 → q_is 2 u0 68 → q_lo Lq 1 = some u1 → q_is 0 u1 y1 → Go xs d qM_X12_marks 28 Lq [] Sq Q)
  (hQ : Ext mb rm → ∀ o S1, Rp S1 rm → q_out 9 o rz → Q o S1) :
  ∀ (n : Nat) {m : MM} {S : QS} {L : QL} {y2 : Int} {v0 : Value} {v1 : Value} {v2 : Value} , Ext mb m → fl_X12_marks_2 y1 k28 n y2 m = some (rz, rm) → Rp S m → q_lo L 0 = some v0 → q_is 2 v0 68 → q_lo L 1 = some v1 → q_is 0 v1 y1 → q_lo L 2 = some v2 → q_is 0 v2 y2 → Go xs d qM_X12_marks 2 L [] S Q := by
  intro n
  induction n with
  | zero => intro m S L y2 v0 v1 v2; intro E h R l0 f0 l1 f1 l2 f2; cases h
  | succ n ih0 =>
    intro m S L y2 v0 v1 v2; intro E h R l0 f0 l1 f1 l2 f2
    have ih : ∀ mq : MM, Ext mb mq → ∀ {z2 : Int} {Sq : QS} {Lq : QL} {u0 : Value} {u1 : Value} {u2 : Value}, fl_X12_marks_2 y1 k28 n z2 mq = some (rz, rm) → Rp Sq mq → q_lo Lq 0 = some u0 → q_is 2 u0 68 → q_lo Lq 1 = some u1 → q_is 0 u1 y1 → q_lo Lq 2 = some u2 → q_is 0 u2 z2 → Go xs d qM_X12_marks 2 Lq [] Sq Q := fun mq b => by intros; exact ih0 b ‹_› ‹_› ‹_› ‹_› ‹_› ‹_› ‹_› ‹_›
    unfold fl_X12_marks_2 at h
    refine go_iload_n (n := 2) (by decide +kernel) l2 f2 ?_
    refine go_aload_n (n := 0) (by decide +kernel) l0 f0 ?_
    refine go_getf (x := 61) (ci := 13) (kf := 19) (fin := 1) (t := 2) (by decide +kernel) (by decide +kernel) (by decide +kernel) R f0 (fx_k (c := 13) R (by decide +kernel)) fun v_8 f_9 => ?_
    have f_10 := q_is_eq (b := 86) f_9 (fx_v R (by decide +kernel)).symm
    refine go_iload_n (n := 1) (by decide +kernel) l1 f1 ?_
    obtain ⟨g_13, h⟩ := gd_s h
    obtain ⟨x_15, e_16, h⟩ := lx_s h
    refine go_iald (kd := 100) (by decide +kernel) rfl R f_10 f1 (fx_k (c := 100) R (by decide +kernel)) (fx_x (a := 86) (ln := 30) R (by decide +kernel) g_13) fun v_11 f_12 => ?_
    have f_14 := q_is_eq f_12 e_16
    refine go_bipush (n := 32) (z := 32) (by decide +kernel) (by decide) fun v_17 f_18 => ?_
    refine go_idiv (by decide +kernel) f_14 f_18 (by decide) fun v_19 f_20 => ?_
    refine go_icmp (c := .gt) (o := 16) (t := 28) (P := w32 (Int.tdiv x_15 32) < y2) (by decide +kernel) (by decide +kernel) f2 f_20 (Iff.rfl) (fun hp_21 => ?_) (fun hp_21 => ?_)
    · have h := it_t hp_21 h
      exact hk28 m E h R l0 f0 l1 f1
    · have h := it_f hp_21 h
      refine go_aload_n (n := 0) (by decide +kernel) l0 f0 ?_
      refine go_getf (x := 101) (ci := 13) (kf := 33) (fin := 1) (t := 2) (by decide +kernel) (by decide +kernel) (by decide +kernel) R f0 (fx_k (c := 13) R (by decide +kernel)) fun v_22 f_23 => ?_
      have f_24 := q_is_eq (b := 97) f_23 (fx_v R (by decide +kernel)).symm
      refine go_iload_n (n := 2) (by decide +kernel) l2 f2 ?_
      refine go_iconst (n := 0) (z := 0) (by decide +kernel) (by decide) fun v_25 f_26 => ?_
      obtain ⟨g_27, h⟩ := gd_s h
      obtain ⟨m_28, e_29, h⟩ := up_s h
      refine go_iast (kd := 100) (by decide +kernel) rfl R f_24 f2 f_26 (fx_k (c := 100) R (by decide +kernel)) (fx_x (a := 97) (ln := 16384) R (by decide +kernel) g_27) e_29 (fx_a R.2 (fx_k (c := 100) R (by decide +kernel)) (And.left (fx_x (a := 97) (ln := 16384) R (by decide +kernel) g_27)) (by decide +kernel)) fun S_30 R_31 E_32 => ?_
      have E_33 := Ext.tr E E_32
      refine go_iinc (n := 2) (c := 1) (c' := 1) (by decide +kernel) (by decide +kernel) l2 f2 (by decide) fun L_34 v_35 f_36 l_37 kp_38 => ?_
      obtain ⟨x_39, e_40, h⟩ := lx_s h
      have f_41 := q_is_eq f_36 e_40
      have l_42 := kp_38 0 _ l0 (by decide) (Or.inl (by decide))
      have l_43 := kp_38 1 _ l1 (by decide) (Or.inr (q_is_cat f1 (Or.inl rfl)))
      refine go_goto (o := (-23)) (t := 2) (by decide +kernel) (by decide +kernel) ?_
      exact ih m_28 E_33 h R_31 l_42 f0 l_43 f1 l_37 f_41
noncomputable def fj_X12_marks_68 (c : Int → MM → Option (Int × MM)) (y1 y2 : Int) (m : MM) : Option (Int × MM) := bp (fm_X12_xAt y1 y2 m) fun x_92 =>
lx (w32 (Int.tdiv x_92 32)) fun x_113 =>
gd (0 ≤ x_113 ∧ x_113 < 16384) <| lx (m 97 x_113) fun x_120 =>
up m 97 x_113 (iOr x_120 (iShl 1 (Int.tmod x_92 32))) fun m_132 =>
lx (w32 (y2 + 1)) fun x_143 =>
c x_143 m_132
set_option maxHeartbeats 4000000 in
theorem oj_X12_marks_68 {xs : List Int32} {d : Nat} {S : QS} {L : QL} {Q : QO → QS → Prop} {m : MM} {y1 y2 : Int} {v0 : Value} {v1 : Value} {v2 : Value}  {rz : Int} {rm : MM} {c : Int → MM → Option (Int × MM)} 
  (hd : 2 ≤ d) (R : Rp S m) (l0 : q_lo L 0 = some v0) (f0 : q_is 2 v0 68) (l1 : q_lo L 1 = some v1) (f1 : q_is 0 v1 y1) (l2 : q_lo L 2 = some v2) (f2 : q_is 0 v2 y2)
  (hc : ∀ mq : MM, Ext m mq → ∀ {z2 : Int} {Sq : QS} {Lq : QL} {u0 : Value} {u1 : Value} {u2 : Value}, c z2 mq = some (rz, rm) → Rp Sq mq → q_lo Lq 0 = some u0 → q_is 2 u0 68 → q_lo Lq 1 = some u1 → q_is 0 u1 y1 → q_lo Lq 2 = some u2 → q_is 0 u2 z2 → Go xs d qM_X12_marks 30 Lq [] Sq Q)
  (hQ : Ext m rm → ∀ o S1, Rp S1 rm → q_out 9 o rz → Q o S1)
  (h : fj_X12_marks_68 c y1 y2 m = some (rz, rm)) : Go xs d qM_X12_marks 68 L [] S Q := by
  unfold fj_X12_marks_68 at h
  refine go_aload_n (n := 0) (by decide +kernel) l0 f0 ?_
  refine go_iload_n (n := 1) (by decide +kernel) l1 f1 ?_
  refine go_iload_n (n := 2) (by decide +kernel) l2 f2 ?_
  obtain ⟨x_92, hc_91, h⟩ := bp_s h
  refine go_callV (x := 344) (mi := 206) (n := 2) (ci := 13) (as := [v1, v2]) (rest := []) (by decide +kernel) (by decide +kernel) rfl rfl (q_sum8 _ (Nat.le_of_ble_eq_true rfl)) R f0 (fx_k (c := 13) R (by decide +kernel)) (om_X12_xAt (Nat.le_trans (by decide) hd) R f0 f1 f2 hc_91) (fun _ S_96 q_99 => ?_) (fun _ _ qq => kr_x qq)
  refine kr_z (by decide) q_99 fun v_94 f_95 R_97 E_98 => ?_
  refine go_istore (n := 4) (by decide +kernel) (by decide +kernel) f_95 fun L_100 l_101 kp_102 => ?_
  have l_103 := kp_102 0 _ l0 (by decide) (Or.inl (by decide))
  have l_104 := kp_102 1 _ l1 (by decide) (Or.inl (by decide))
  have l_105 := kp_102 2 _ l2 (by decide) (Or.inl (by decide))
  refine go_aload_n (n := 0) (by decide +kernel) l_103 f0 ?_
  refine go_getf (x := 101) (ci := 13) (kf := 33) (fin := 1) (t := 2) (by decide +kernel) (by decide +kernel) (by decide +kernel) R_97 f0 (fx_k (c := 13) R_97 (by decide +kernel)) fun v_106 f_107 => ?_
  have f_108 := q_is_eq (b := 97) f_107 (fx_v R_97 (by decide +kernel)).symm
  refine go_iload (n := 4) (by decide +kernel) l_101 f_95 ?_
  refine go_bipush (n := 32) (z := 32) (by decide +kernel) (by decide) fun v_109 f_110 => ?_
  refine go_idiv (by decide +kernel) f_95 f_110 (by decide) fun v_111 f_112 => ?_
  obtain ⟨x_113, e_114, h⟩ := lx_s h
  have f_115 := q_is_eq f_112 e_114
  refine go_dup2 (by decide +kernel) f_115 (Or.inl rfl) f_108 (Or.inr rfl) ?_
  obtain ⟨g_118, h⟩ := gd_s h
  obtain ⟨x_120, e_121, h⟩ := lx_s h
  refine go_iald (kd := 100) (by decide +kernel) rfl R_97 f_108 f_115 (fx_k (c := 100) R_97 (by decide +kernel)) (fx_x (a := 97) (ln := 16384) R_97 (by decide +kernel) g_118) fun v_116 f_117 => ?_
  have f_119 := q_is_eq f_117 e_121
  refine go_iconst (n := 1) (z := 1) (by decide +kernel) (by decide) fun v_122 f_123 => ?_
  refine go_iload (n := 4) (by decide +kernel) l_101 f_95 ?_
  refine go_bipush (n := 32) (z := 32) (by decide +kernel) (by decide) fun v_124 f_125 => ?_
  refine go_irem (by decide +kernel) f_95 f_125 (by decide) fun v_126 f_127 => ?_
  refine go_ishl (by decide +kernel) f_123 f_127 fun v_128 f_129 => ?_
  refine go_ior (by decide +kernel) f_119 f_129 fun v_130 f_131 => ?_
  obtain ⟨m_132, e_133, h⟩ := up_s h
  refine go_iast (kd := 100) (by decide +kernel) rfl R_97 f_108 f_115 f_131 (fx_k (c := 100) R_97 (by decide +kernel)) (fx_x (a := 97) (ln := 16384) R_97 (by decide +kernel) g_118) e_133 (fx_a R_97.2 (fx_k (c := 100) R_97 (by decide +kernel)) (And.left (fx_x (a := 97) (ln := 16384) R_97 (by decide +kernel) g_118)) (by decide +kernel)) fun S_134 R_135 E_136 => ?_
  have E_137 := E_136
  refine go_iinc (n := 2) (c := 1) (c' := 1) (by decide +kernel) (by decide +kernel) l_105 f2 (by decide) fun L_138 v_139 f_140 l_141 kp_142 => ?_
  obtain ⟨x_143, e_144, h⟩ := lx_s h
  have f_145 := q_is_eq f_140 e_144
  have l_146 := kp_142 0 _ l_103 (by decide) (Or.inl (by decide))
  have l_147 := kp_142 1 _ l_104 (by decide) (Or.inr (q_is_cat f1 (Or.inl rfl)))
  refine go_goto (o := (-69)) (t := 30) (by decide +kernel) (by decide +kernel) ?_
  exact hc m_132 E_137 h R_135 l_146 f0 l_147 f1 l_141 f_145
noncomputable def fl_X12_marks_30 (y1 : Int) : Nat → Int → MM → Option (Int × MM)
  | 0, _, _ => none
  | n + 1, y2, m => gd (0 ≤ y1 ∧ y1 < 30) <| lx (m 86 y1) fun x_70 =>
if y2 < x_70 then
bp (fm_X12_kindAt y1 y2 m) fun x_74 =>
if x_74 = 1 then
fj_X12_marks_68 (fl_X12_marks_30 y1 n) y1 y2 m
else
if x_74 = 2 then
fj_X12_marks_68 (fl_X12_marks_30 y1 n) y1 y2 m
else
if x_74 = 3 then
fj_X12_marks_68 (fl_X12_marks_30 y1 n) y1 y2 m
else
if x_74 = 11 then
fj_X12_marks_68 (fl_X12_marks_30 y1 n) y1 y2 m
else
lx (w32 (y2 + 1)) fun x_162 =>
fl_X12_marks_30 y1 n x_162 m
else
some (0, m)
set_option maxHeartbeats 4000000 in
theorem ol_X12_marks_30 {xs : List Int32} {d : Nat} {Q : QO → QS → Prop} {mb : MM} {y1 : Int} {rz : Int} {rm : MM}
  (hd : 2 ≤ d)
  (hQ : Ext mb rm → ∀ o S1, Rp S1 rm → q_out 9 o rz → Q o S1) :
  ∀ (n : Nat) {m : MM} {S : QS} {L : QL} {y2 : Int} {v0 : Value} {v1 : Value} {v2 : Value} , Ext mb m → fl_X12_marks_30 y1 n y2 m = some (rz, rm) → Rp S m → q_lo L 0 = some v0 → q_is 2 v0 68 → q_lo L 1 = some v1 → q_is 0 v1 y1 → q_lo L 2 = some v2 → q_is 0 v2 y2 → Go xs d qM_X12_marks 30 L [] S Q := by
  intro n
  induction n with
  | zero => intro m S L y2 v0 v1 v2; intro E h R l0 f0 l1 f1 l2 f2; cases h
  | succ n ih0 =>
    intro m S L y2 v0 v1 v2; intro E h R l0 f0 l1 f1 l2 f2
    have ih : ∀ mq : MM, Ext mb mq → ∀ {z2 : Int} {Sq : QS} {Lq : QL} {u0 : Value} {u1 : Value} {u2 : Value}, fl_X12_marks_30 y1 n z2 mq = some (rz, rm) → Rp Sq mq → q_lo Lq 0 = some u0 → q_is 2 u0 68 → q_lo Lq 1 = some u1 → q_is 0 u1 y1 → q_lo Lq 2 = some u2 → q_is 0 u2 z2 → Go xs d qM_X12_marks 30 Lq [] Sq Q := fun mq b => by intros; exact ih0 b ‹_› ‹_› ‹_› ‹_› ‹_› ‹_› ‹_› ‹_›
    unfold fl_X12_marks_30 at h
    refine go_iload_n (n := 2) (by decide +kernel) l2 f2 ?_
    refine go_aload_n (n := 0) (by decide +kernel) l0 f0 ?_
    refine go_getf (x := 61) (ci := 13) (kf := 19) (fin := 1) (t := 2) (by decide +kernel) (by decide +kernel) (by decide +kernel) R f0 (fx_k (c := 13) R (by decide +kernel)) fun v_63 f_64 => ?_
    have f_65 := q_is_eq (b := 86) f_64 (fx_v R (by decide +kernel)).symm
    refine go_iload_n (n := 1) (by decide +kernel) l1 f1 ?_
    obtain ⟨g_68, h⟩ := gd_s h
    obtain ⟨x_70, e_71, h⟩ := lx_s h
    refine go_iald (kd := 100) (by decide +kernel) rfl R f_65 f1 (fx_k (c := 100) R (by decide +kernel)) (fx_x (a := 86) (ln := 30) R (by decide +kernel) g_68) fun v_66 f_67 => ?_
    have f_69 := q_is_eq f_67 e_71
    refine go_icmp (c := .ge) (o := 65) (t := 102) (P := ¬ (y2 < x_70)) (by decide +kernel) (by decide +kernel) f2 f_69 (Int.not_lt.symm) (fun hp_72 => ?_) (fun hp_72 => ?_)
    · have h := it_f hp_72 h
      cases h
      exact go_vret (by decide +kernel) rfl (hQ E _ _ R q_out_n)
    · have h := it_n hp_72 h
      refine go_aload_n (n := 0) (by decide +kernel) l0 f0 ?_
      refine go_iload_n (n := 1) (by decide +kernel) l1 f1 ?_
      refine go_iload_n (n := 2) (by decide +kernel) l2 f2 ?_
      obtain ⟨x_74, hc_73, h⟩ := bp_s h
      refine go_callV (x := 341) (mi := 204) (n := 2) (ci := 13) (as := [v1, v2]) (rest := []) (by decide +kernel) (by decide +kernel) rfl rfl (q_sum8 _ (Nat.le_of_ble_eq_true rfl)) R f0 (fx_k (c := 13) R (by decide +kernel)) (om_X12_kindAt (Nat.le_trans (by decide) hd) R f0 f1 f2 hc_73) (fun _ S_78 q_81 => ?_) (fun _ _ qq => kr_x qq)
      refine kr_z (by decide) q_81 fun v_76 f_77 R_79 E_80 => ?_
      refine go_istore_n (n := 3) (by decide +kernel) (by decide +kernel) f_77 fun L_82 l_83 kp_84 => ?_
      have l_85 := kp_84 0 _ l0 (by decide) (Or.inl (by decide))
      have l_86 := kp_84 1 _ l1 (by decide) (Or.inl (by decide))
      have l_87 := kp_84 2 _ l2 (by decide) (Or.inr (q_is_cat f2 (Or.inl rfl)))
      refine go_iload_n (n := 3) (by decide +kernel) l_83 f_77 ?_
      refine go_iconst (n := 1) (z := 1) (by decide +kernel) (by decide) fun v_88 f_89 => ?_
      refine go_icmp (c := .eq) (o := 19) (t := 68) (P := x_74 = 1) (by decide +kernel) (by decide +kernel) f_77 f_89 (Iff.rfl) (fun hp_90 => ?_) (fun hp_90 => ?_)
      · have h := it_t hp_90 h
        exact oj_X12_marks_68 hd R_79 l_85 f0 l_86 f1 l_87 f2 (fun mq b => ih mq (Ext.tr E b)) (fun b => hQ (Ext.tr E b)) h
      · have h := it_f hp_90 h
        refine go_iload_n (n := 3) (by decide +kernel) l_83 f_77 ?_
        refine go_iconst (n := 2) (z := 2) (by decide +kernel) (by decide) fun v_148 f_149 => ?_
        refine go_icmp (c := .eq) (o := 14) (t := 68) (P := x_74 = 2) (by decide +kernel) (by decide +kernel) f_77 f_149 (Iff.rfl) (fun hp_150 => ?_) (fun hp_150 => ?_)
        · have h := it_t hp_150 h
          exact oj_X12_marks_68 hd R_79 l_85 f0 l_86 f1 l_87 f2 (fun mq b => ih mq (Ext.tr E b)) (fun b => hQ (Ext.tr E b)) h
        · have h := it_f hp_150 h
          refine go_iload_n (n := 3) (by decide +kernel) l_83 f_77 ?_
          refine go_iconst (n := 3) (z := 3) (by decide +kernel) (by decide) fun v_151 f_152 => ?_
          refine go_icmp (c := .eq) (o := 9) (t := 68) (P := x_74 = 3) (by decide +kernel) (by decide +kernel) f_77 f_152 (Iff.rfl) (fun hp_153 => ?_) (fun hp_153 => ?_)
          · have h := it_t hp_153 h
            exact oj_X12_marks_68 hd R_79 l_85 f0 l_86 f1 l_87 f2 (fun mq b => ih mq (Ext.tr E b)) (fun b => hQ (Ext.tr E b)) h
          · have h := it_f hp_153 h
            refine go_iload_n (n := 3) (by decide +kernel) l_83 f_77 ?_
            refine go_bipush (n := 11) (z := 11) (by decide +kernel) (by decide) fun v_154 f_155 => ?_
            refine go_icmp (c := .ne) (o := 31) (t := 96) (P := ¬ (x_74 = 11)) (by decide +kernel) (by decide +kernel) f_77 f_155 (Iff.rfl) (fun hp_156 => ?_) (fun hp_156 => ?_)
            · have h := it_f hp_156 h
              refine go_iinc (n := 2) (c := 1) (c' := 1) (by decide +kernel) (by decide +kernel) l_87 f2 (by decide) fun L_157 v_158 f_159 l_160 kp_161 => ?_
              obtain ⟨x_162, e_163, h⟩ := lx_s h
              have f_164 := q_is_eq f_159 e_163
              have l_165 := kp_161 0 _ l_85 (by decide) (Or.inl (by decide))
              have l_166 := kp_161 1 _ l_86 (by decide) (Or.inr (q_is_cat f1 (Or.inl rfl)))
              refine go_goto (o := (-69)) (t := 30) (by decide +kernel) (by decide +kernel) ?_
              exact ih m E h R_79 l_165 f0 l_166 f1 l_160 f_164
            · have h := it_n hp_156 h
              exact oj_X12_marks_68 hd R_79 l_85 f0 l_86 f1 l_87 f2 (fun mq b => ih mq (Ext.tr E b)) (fun b => hQ (Ext.tr E b)) h
noncomputable def fm_X12_marks (p1 : Int) (m0 : MM) : Option (Int × MM) := fl_X12_marks_2 p1 (fun m_53 =>
fl_X12_marks_30 p1  BIG 0 m_53) BIG 0 m0
set_option maxHeartbeats 4000000 in
theorem om_X12_marks {xs : List Int32} {d : Nat} {S : QS} {m0 : MM} {p1 : Int} {v0 : Value} {v1 : Value} {rz : Int} {rm : MM}
  (hd : 3 ≤ d) (R : Rp S m0) (f0 : q_is 2 v0 68) (f1 : q_is 0 v1 p1)
  (h : fm_X12_marks p1 m0 = some (rz, rm)) : Mt xs d 297 [v0, v1] S (Cr 9 m0 rm rz) := by
  obtain ⟨d, rfl⟩ : ∃ e, d = e + 1 := ⟨d - 1, by omega⟩
  have hd : 2 ≤ d := Nat.le_of_succ_le_succ hd
  refine Mt.of (M := qM_X12_marks) rfl (by rw [sl_1 (q_is_cat f0 (Or.inr rfl)), sl_1 (q_is_cat f1 (Or.inl rfl)), sl_0]; decide) ?_
  rw [la_1 (q_is_cat f0 (Or.inr rfl)), la_1 (q_is_cat f1 (Or.inl rfl)), la_0]
  obtain ⟨L, hL⟩ : ∃ L : QL, L = [(0, v0), (0 + 1, v1)] := ⟨_, rfl⟩
  rw [← hL]
  have l0 : q_lo L 0 = some v0 := by rw [hL]; rfl
  have l1 : q_lo L 1 = some v1 := by rw [hL]; rfl
  have hQ : Ext m0 rm → ∀ o S1, Rp S1 rm → q_out 9 o rz → (Cr 9 m0 rm rz) o S1 := fun a o S1 b e => ⟨b, a, e⟩
  unfold fm_X12_marks at h
  refine go_iconst (n := 0) (z := 0) (by decide +kernel) (by decide) fun v_1 f_2 => ?_
  refine go_istore_n (n := 2) (by decide +kernel) (by decide +kernel) f_2 fun L_3 l_4 kp_5 => ?_
  have l_6 := kp_5 0 _ l0 (by decide) (Or.inl (by decide))
  have l_7 := kp_5 1 _ l1 (by decide) (Or.inr (q_is_cat f1 (Or.inl rfl)))
  refine ol_X12_marks_2 hd  ?_ hQ BIG (Ext.rf _) h R l_6 f0 l_7 f1 l_4 f_2
  intro m_53 E_54
  intro S_50 L_51 v_44 v_45
  intro h R_52 l_46 f_48 l_47 f_49
  have E_55 := E_54
  refine go_iconst (n := 0) (z := 0) (by decide +kernel) (by decide) fun v_56 f_57 => ?_
  refine go_istore_n (n := 2) (by decide +kernel) (by decide +kernel) f_57 fun L_58 l_59 kp_60 => ?_
  have l_61 := kp_60 0 _ l_46 (by decide) (Or.inl (by decide))
  have l_62 := kp_60 1 _ l_47 (by decide) (Or.inr (q_is_cat f_49 (Or.inl rfl)))
  refine ol_X12_marks_30 hd   (fun b => hQ (Ext.tr E_55 b)) BIG (Ext.rf _) h R_52 l_61 f_48 l_62 f_49 l_59 f_57
noncomputable def fm_X12_isBack (p1 : Int) (m0 : MM) : Option Int := gd (0 ≤ w32 (Int.tdiv p1 32) ∧ w32 (Int.tdiv p1 32) < 16384) <| lx (m0 97 (w32 (Int.tdiv p1 32))) fun x_12 =>
if iAnd (iShr x_12 (Int.tmod p1 32)) 1 = 1 then
some 1
else
some 0
set_option maxHeartbeats 4000000 in
theorem om_X12_isBack {xs : List Int32} {d : Nat} {S : QS} {m0 : MM} {p1 : Int} {v0 : Value} {v1 : Value} {rz : Int}
  (hd : 1 ≤ d) (R : Rp S m0) (f0 : q_is 2 v0 68) (f1 : q_is 0 v1 p1)
  (h : fm_X12_isBack p1 m0 = some rz) : Mt xs d 298 [v0, v1] S (Cr 0 m0 m0 rz) := by
  obtain ⟨d, rfl⟩ : ∃ e, d = e + 1 := ⟨d - 1, by omega⟩
  have hd : 0 ≤ d := Nat.le_of_succ_le_succ hd
  refine Mt.of (M := qM_X12_isBack) rfl (by rw [sl_1 (q_is_cat f0 (Or.inr rfl)), sl_1 (q_is_cat f1 (Or.inl rfl)), sl_0]; decide) ?_
  rw [la_1 (q_is_cat f0 (Or.inr rfl)), la_1 (q_is_cat f1 (Or.inl rfl)), la_0]
  obtain ⟨L, hL⟩ : ∃ L : QL, L = [(0, v0), (0 + 1, v1)] := ⟨_, rfl⟩
  rw [← hL]
  have l0 : q_lo L 0 = some v0 := by rw [hL]; rfl
  have l1 : q_lo L 1 = some v1 := by rw [hL]; rfl
  have hQ : ∀ o S1, Rp S1 m0 → q_out 0 o rz → (Cr 0 m0 m0 rz) o S1 := fun o S1 a b => ⟨a, Ext.rf _, b⟩
  unfold fm_X12_isBack at h
  refine go_aload_n (n := 0) (by decide +kernel) l0 f0 ?_
  refine go_getf (x := 101) (ci := 13) (kf := 33) (fin := 1) (t := 2) (by decide +kernel) (by decide +kernel) (by decide +kernel) R f0 (fx_k (c := 13) R (by decide +kernel)) fun v_1 f_2 => ?_
  have f_3 := q_is_eq (b := 97) f_2 (fx_v R (by decide +kernel)).symm
  refine go_iload_n (n := 1) (by decide +kernel) l1 f1 ?_
  refine go_bipush (n := 32) (z := 32) (by decide +kernel) (by decide) fun v_4 f_5 => ?_
  refine go_idiv (by decide +kernel) f1 f_5 (by decide) fun v_6 f_7 => ?_
  obtain ⟨g_10, h⟩ := gd_s h
  obtain ⟨x_12, e_13, h⟩ := lx_s h
  refine go_iald (kd := 100) (by decide +kernel) rfl R f_3 f_7 (fx_k (c := 100) R (by decide +kernel)) (fx_x (a := 97) (ln := 16384) R (by decide +kernel) g_10) fun v_8 f_9 => ?_
  have f_11 := q_is_eq f_9 e_13
  refine go_iload_n (n := 1) (by decide +kernel) l1 f1 ?_
  refine go_bipush (n := 32) (z := 32) (by decide +kernel) (by decide) fun v_14 f_15 => ?_
  refine go_irem (by decide +kernel) f1 f_15 (by decide) fun v_16 f_17 => ?_
  refine go_ishr (by decide +kernel) f_11 f_17 fun v_18 f_19 => ?_
  refine go_iconst (n := 1) (z := 1) (by decide +kernel) (by decide) fun v_20 f_21 => ?_
  refine go_iand (by decide +kernel) f_19 f_21 fun v_22 f_23 => ?_
  refine go_iconst (n := 1) (z := 1) (by decide +kernel) (by decide) fun v_24 f_25 => ?_
  refine go_icmp (c := .ne) (o := 7) (t := 24) (P := ¬ (iAnd (iShr x_12 (Int.tmod p1 32)) 1 = 1)) (by decide +kernel) (by decide +kernel) f_23 f_25 (Iff.rfl) (fun hp_26 => ?_) (fun hp_26 => ?_)
  · have h := it_f hp_26 h
    refine go_iconst (n := 0) (z := 0) (by decide +kernel) (by decide) fun v_27 f_28 => ?_
    cases h
    exact go_iret (by decide +kernel) rfl (Or.inr ⟨rfl, by decide⟩) f_28 (hQ _ _ R (q_out_v (by decide) f_28))
  · have h := it_n hp_26 h
    refine go_iconst (n := 1) (z := 1) (by decide +kernel) (by decide) fun v_29 f_30 => ?_
    refine go_goto (o := 4) (t := 25) (by decide +kernel) (by decide +kernel) ?_
    cases h
    exact go_iret (by decide +kernel) rfl (Or.inr ⟨rfl, by decide⟩) f_30 (hQ _ _ R (q_out_v (by decide) f_30))
noncomputable def fj_X12_beginsAnew_63 (c : Int → MM → Option (Int × MM)) (y1 y2 y3 y4 : Int) (m : MM) : Option (Int × MM) := if y4 = 9 then
bp (fm_X12_isBack y3 m) fun x_68 =>
if x_68 = 0 then
bp (fm_X12_whenAt y1 y3 m) fun x_89 =>
bp (fm_X12_xAt y1 y3 m) fun x_98 =>
lx (m 68 0) fun x_111 =>
bp (fm_X12_most (w32 (x_89 + x_98)) (w32 (x_111 + 1)) m) fun x_118 =>
bd (fm_X12_makesTimer y1 y3 x_118 m) fun x_127 m_128 =>
lx (w32 (y3 + 1)) fun x_141 =>
c x_141 m_128
else
lx (w32 (y3 + 1)) fun x_82 =>
c x_82 m
else
lx (w32 (y3 + 1)) fun x_61 =>
c x_61 m
set_option maxHeartbeats 4000000 in
theorem oj_X12_beginsAnew_63 {xs : List Int32} {d : Nat} {S : QS} {L : QL} {Q : QO → QS → Prop} {m : MM} {y1 y2 y3 y4 : Int} {v0 : Value} {v1 : Value} {v2 : Value} {v3 : Value} {v4 : Value}  {rz : Int} {rm : MM} {c : Int → MM → Option (Int × MM)} 
  (hd : 4 ≤ d) (R : Rp S m) (l0 : q_lo L 0 = some v0) (f0 : q_is 2 v0 68) (l1 : q_lo L 1 = some v1) (f1 : q_is 0 v1 y1) (l2 : q_lo L 2 = some v2) (f2 : q_is 0 v2 y2) (l3 : q_lo L 3 = some v3) (f3 : q_is 0 v3 y3) (l4 : q_lo L 4 = some v4) (f4 : q_is 0 v4 y4)
  (hc : ∀ mq : MM, Ext m mq → ∀ {z3 : Int} {Sq : QS} {Lq : QL} {u0 : Value} {u1 : Value} {u2 : Value} {u3 : Value}, c z3 mq = some (rz, rm) → Rp Sq mq → q_lo Lq 0 = some u0 → q_is 2 u0 68 → q_lo Lq 1 = some u1 → q_is 0 u1 y1 → q_lo Lq 2 = some u2 → q_is 0 u2 y2 → q_lo Lq 3 = some u3 → q_is 0 u3 z3 → Go xs d qM_X12_beginsAnew 14 Lq [] Sq Q)
  (hQ : Ext m rm → ∀ o S1, Rp S1 rm → q_out 9 o rz → Q o S1)
  (h : fj_X12_beginsAnew_63 c y1 y2 y3 y4 m = some (rz, rm)) : Go xs d qM_X12_beginsAnew 63 L [] S Q := by
  unfold fj_X12_beginsAnew_63 at h
  refine go_iload (n := 4) (by decide +kernel) l4 f4 ?_
  refine go_bipush (n := 9) (z := 9) (by decide +kernel) (by decide) fun v_53 f_54 => ?_
  refine go_icmp (c := .ne) (o := 39) (t := 106) (P := ¬ (y4 = 9)) (by decide +kernel) (by decide +kernel) f4 f_54 (Iff.rfl) (fun hp_55 => ?_) (fun hp_55 => ?_)
  · have h := it_f hp_55 h
    refine go_iinc (n := 3) (c := 1) (c' := 1) (by decide +kernel) (by decide +kernel) l3 f3 (by decide) fun L_56 v_57 f_58 l_59 kp_60 => ?_
    obtain ⟨x_61, e_62, h⟩ := lx_s h
    have f_63 := q_is_eq f_58 e_62
    have l_64 := kp_60 0 _ l0 (by decide) (Or.inl (by decide))
    have l_65 := kp_60 1 _ l1 (by decide) (Or.inl (by decide))
    have l_66 := kp_60 2 _ l2 (by decide) (Or.inr (q_is_cat f2 (Or.inl rfl)))
    refine go_goto (o := (-95)) (t := 14) (by decide +kernel) (by decide +kernel) ?_
    exact hc m (Ext.rf _) h R l_64 f0 l_65 f1 l_66 f2 l_59 f_63
  · have h := it_n hp_55 h
    refine go_aload_n (n := 0) (by decide +kernel) l0 f0 ?_
    refine go_iload_n (n := 3) (by decide +kernel) l3 f3 ?_
    obtain ⟨x_68, hc_67, h⟩ := bp_s h
    refine go_callV (x := 667) (mi := 298) (n := 1) (ci := 13) (as := [v3]) (rest := []) (by decide +kernel) (by decide +kernel) rfl rfl (q_sum8 _ (Nat.le_of_ble_eq_true rfl)) R f0 (fx_k (c := 13) R (by decide +kernel)) (om_X12_isBack (Nat.le_trans (by decide) hd) R f0 f3 hc_67) (fun _ S_72 q_75 => ?_) (fun _ _ qq => kr_x qq)
    refine kr_z (by decide) q_75 fun v_70 f_71 R_73 E_74 => ?_
    refine go_if (c := .ne) (o := 31) (t := 106) (P := ¬ (x_68 = 0)) (by decide +kernel) (by decide +kernel) f_71 (Iff.rfl) (fun hp_76 => ?_) (fun hp_76 => ?_)
    · have h := it_f hp_76 h
      refine go_iinc (n := 3) (c := 1) (c' := 1) (by decide +kernel) (by decide +kernel) l3 f3 (by decide) fun L_77 v_78 f_79 l_80 kp_81 => ?_
      obtain ⟨x_82, e_83, h⟩ := lx_s h
      have f_84 := q_is_eq f_79 e_83
      have l_85 := kp_81 0 _ l0 (by decide) (Or.inl (by decide))
      have l_86 := kp_81 1 _ l1 (by decide) (Or.inl (by decide))
      have l_87 := kp_81 2 _ l2 (by decide) (Or.inr (q_is_cat f2 (Or.inl rfl)))
      refine go_goto (o := (-95)) (t := 14) (by decide +kernel) (by decide +kernel) ?_
      exact hc m (Ext.rf _) h R_73 l_85 f0 l_86 f1 l_87 f2 l_80 f_84
    · have h := it_n hp_76 h
      refine go_aload_n (n := 0) (by decide +kernel) l0 f0 ?_
      refine go_iload_n (n := 1) (by decide +kernel) l1 f1 ?_
      refine go_iload_n (n := 3) (by decide +kernel) l3 f3 ?_
      refine go_aload_n (n := 0) (by decide +kernel) l0 f0 ?_
      refine go_iload_n (n := 1) (by decide +kernel) l1 f1 ?_
      refine go_iload_n (n := 3) (by decide +kernel) l3 f3 ?_
      obtain ⟨x_89, hc_88, h⟩ := bp_s h
      refine go_callV (x := 521) (mi := 207) (n := 2) (ci := 13) (as := [v1, v3]) (rest := [v3, v1, v0]) (by decide +kernel) (by decide +kernel) rfl rfl (q_sum8 _ (Nat.le_of_ble_eq_true rfl)) R_73 f0 (fx_k (c := 13) R_73 (by decide +kernel)) (om_X12_whenAt (Nat.le_trans (by decide) hd) R_73 f0 f1 f3 hc_88) (fun _ S_93 q_96 => ?_) (fun _ _ qq => kr_x qq)
      refine kr_z (by decide) q_96 fun v_91 f_92 R_94 E_95 => ?_
      refine go_aload_n (n := 0) (by decide +kernel) l0 f0 ?_
      refine go_iload_n (n := 1) (by decide +kernel) l1 f1 ?_
      refine go_iload_n (n := 3) (by decide +kernel) l3 f3 ?_
      obtain ⟨x_98, hc_97, h⟩ := bp_s h
      refine go_callV (x := 344) (mi := 206) (n := 2) (ci := 13) (as := [v1, v3]) (rest := [v_91, v3, v1, v0]) (by decide +kernel) (by decide +kernel) rfl rfl (q_sum8 _ (Nat.le_of_ble_eq_true rfl)) R_94 f0 (fx_k (c := 13) R_94 (by decide +kernel)) (om_X12_xAt (Nat.le_trans (by decide) hd) R_94 f0 f1 f3 hc_97) (fun _ S_102 q_105 => ?_) (fun _ _ qq => kr_x qq)
      refine kr_z (by decide) q_105 fun v_100 f_101 R_103 E_104 => ?_
      refine go_iadd (by decide +kernel) f_92 f_101 fun v_106 f_107 => ?_
      refine go_aload_n (n := 0) (by decide +kernel) l0 f0 ?_
      obtain ⟨x_111, e_112, h⟩ := lx_s h
      refine go_getf (x := 357) (ci := 13) (kf := 0) (fin := 0) (t := 0) (by decide +kernel) (by decide +kernel) (by decide +kernel) R_103 f0 (fx_k (c := 13) R_103 (by decide +kernel)) fun v_108 f_109 => ?_
      have f_110 := q_is_eq f_109 e_112
      refine go_iconst (n := 1) (z := 1) (by decide +kernel) (by decide) fun v_113 f_114 => ?_
      refine go_iadd (by decide +kernel) f_110 f_114 fun v_115 f_116 => ?_
      obtain ⟨x_118, hc_117, h⟩ := bp_s h
      refine go_callS (x := 338) (mi := 190) (n := 2) (b := 0) (as := [v_106, v_115]) (rest := [v3, v1, v0]) (by decide +kernel) (by decide +kernel) rfl rfl (q_sum8 _ (Nat.le_of_ble_eq_true rfl)) (om_X12_most (Nat.le_trans (by decide) hd) R_103 f_107 f_116 hc_117) (fun _ S_122 q_125 => ?_) (fun _ _ qq => kr_x qq)
      refine kr_z (by decide) q_125 fun v_120 f_121 R_123 E_124 => ?_
      obtain ⟨x_127, m_128, hc_126, h⟩ := bd_s h
      refine go_callV (x := 626) (mi := 252) (n := 3) (ci := 13) (as := [v1, v3, v_120]) (rest := []) (by decide +kernel) (by decide +kernel) rfl rfl (q_sum8 _ (Nat.le_of_ble_eq_true rfl)) R_123 f0 (fx_k (c := 13) R_123 (by decide +kernel)) (om_X12_makesTimer (Nat.le_trans (by decide) hd) R_123 f0 f1 f3 f_121 hc_126) (fun _ S_131 q_134 => ?_) (fun _ _ qq => kr_x qq)
      refine kr_v q_134 fun R_132 E_133 => ?_
      have E_135 := E_133
      refine go_iinc (n := 3) (c := 1) (c' := 1) (by decide +kernel) (by decide +kernel) l3 f3 (by decide) fun L_136 v_137 f_138 l_139 kp_140 => ?_
      obtain ⟨x_141, e_142, h⟩ := lx_s h
      have f_143 := q_is_eq f_138 e_142
      have l_144 := kp_140 0 _ l0 (by decide) (Or.inl (by decide))
      have l_145 := kp_140 1 _ l1 (by decide) (Or.inl (by decide))
      have l_146 := kp_140 2 _ l2 (by decide) (Or.inr (q_is_cat f2 (Or.inl rfl)))
      refine go_goto (o := (-95)) (t := 14) (by decide +kernel) (by decide +kernel) ?_
      exact hc m_128 E_135 h R_132 l_144 f0 l_145 f1 l_146 f2 l_139 f_143
noncomputable def fl_X12_beginsAnew_14 (y1 y2 : Int) : Nat → Int → MM → Option (Int × MM)
  | 0, _, _ => none
  | n + 1, y3, m => if y3 < y2 then
bp (fm_X12_kindAt y1 y3 m) fun x_35 =>
if x_35 = 8 then
bp (fm_X12_isBack y3 m) fun x_148 =>
if x_148 = 0 then
bp (fm_X12_xAt y1 y3 m) fun x_158 =>
bp (fm_X12_yAt y1 y3 m) fun x_167 =>
bd (fm_X12_makesActivity y1 y3 x_158 x_167 m) fun x_176 m_177 =>
lx (w32 (y3 + 1)) fun x_190 =>
fl_X12_beginsAnew_14 y1 y2 n x_190 m_177
else
fj_X12_beginsAnew_63 (fl_X12_beginsAnew_14 y1 y2 n) y1 y2 y3 x_35 m
else
fj_X12_beginsAnew_63 (fl_X12_beginsAnew_14 y1 y2 n) y1 y2 y3 x_35 m
else
some (0, m)
set_option maxHeartbeats 4000000 in
theorem ol_X12_beginsAnew_14 {xs : List Int32} {d : Nat} {Q : QO → QS → Prop} {mb : MM} {y1 y2 : Int} {rz : Int} {rm : MM}
  (hd : 4 ≤ d)
  (hQ : Ext mb rm → ∀ o S1, Rp S1 rm → q_out 9 o rz → Q o S1) :
  ∀ (n : Nat) {m : MM} {S : QS} {L : QL} {y3 : Int} {v0 : Value} {v1 : Value} {v2 : Value} {v3 : Value} , Ext mb m → fl_X12_beginsAnew_14 y1 y2 n y3 m = some (rz, rm) → Rp S m → q_lo L 0 = some v0 → q_is 2 v0 68 → q_lo L 1 = some v1 → q_is 0 v1 y1 → q_lo L 2 = some v2 → q_is 0 v2 y2 → q_lo L 3 = some v3 → q_is 0 v3 y3 → Go xs d qM_X12_beginsAnew 14 L [] S Q := by
  intro n
  induction n with
  | zero => intro m S L y3 v0 v1 v2 v3; intro E h R l0 f0 l1 f1 l2 f2 l3 f3; cases h
  | succ n ih0 =>
    intro m S L y3 v0 v1 v2 v3; intro E h R l0 f0 l1 f1 l2 f2 l3 f3
    have ih : ∀ mq : MM, Ext mb mq → ∀ {z3 : Int} {Sq : QS} {Lq : QL} {u0 : Value} {u1 : Value} {u2 : Value} {u3 : Value}, fl_X12_beginsAnew_14 y1 y2 n z3 mq = some (rz, rm) → Rp Sq mq → q_lo Lq 0 = some u0 → q_is 2 u0 68 → q_lo Lq 1 = some u1 → q_is 0 u1 y1 → q_lo Lq 2 = some u2 → q_is 0 u2 y2 → q_lo Lq 3 = some u3 → q_is 0 u3 z3 → Go xs d qM_X12_beginsAnew 14 Lq [] Sq Q := fun mq b => by intros; exact ih0 b ‹_› ‹_› ‹_› ‹_› ‹_› ‹_› ‹_› ‹_› ‹_› ‹_›
    unfold fl_X12_beginsAnew_14 at h
    refine go_iload_n (n := 3) (by decide +kernel) l3 f3 ?_
    refine go_iload_n (n := 2) (by decide +kernel) l2 f2 ?_
    refine go_icmp (c := .ge) (o := 96) (t := 112) (P := ¬ (y3 < y2)) (by decide +kernel) (by decide +kernel) f3 f2 (Int.not_lt.symm) (fun hp_33 => ?_) (fun hp_33 => ?_)
    · have h := it_f hp_33 h
      cases h
      exact go_vret (by decide +kernel) rfl (hQ E _ _ R q_out_n)
    · have h := it_n hp_33 h
      refine go_aload_n (n := 0) (by decide +kernel) l0 f0 ?_
      refine go_iload_n (n := 1) (by decide +kernel) l1 f1 ?_
      refine go_iload_n (n := 3) (by decide +kernel) l3 f3 ?_
      obtain ⟨x_35, hc_34, h⟩ := bp_s h
      refine go_callV (x := 341) (mi := 204) (n := 2) (ci := 13) (as := [v1, v3]) (rest := []) (by decide +kernel) (by decide +kernel) rfl rfl (q_sum8 _ (Nat.le_of_ble_eq_true rfl)) R f0 (fx_k (c := 13) R (by decide +kernel)) (om_X12_kindAt (Nat.le_trans (by decide) hd) R f0 f1 f3 hc_34) (fun _ S_39 q_42 => ?_) (fun _ _ qq => kr_x qq)
      refine kr_z (by decide) q_42 fun v_37 f_38 R_40 E_41 => ?_
      refine go_istore (n := 4) (by decide +kernel) (by decide +kernel) f_38 fun L_43 l_44 kp_45 => ?_
      have l_46 := kp_45 0 _ l0 (by decide) (Or.inl (by decide))
      have l_47 := kp_45 1 _ l1 (by decide) (Or.inl (by decide))
      have l_48 := kp_45 2 _ l2 (by decide) (Or.inl (by decide))
      have l_49 := kp_45 3 _ l3 (by decide) (Or.inr (q_is_cat f3 (Or.inl rfl)))
      refine go_iload (n := 4) (by decide +kernel) l_44 f_38 ?_
      refine go_bipush (n := 8) (z := 8) (by decide +kernel) (by decide) fun v_50 f_51 => ?_
      refine go_icmp (c := .ne) (o := 32) (t := 63) (P := ¬ (x_35 = 8)) (by decide +kernel) (by decide +kernel) f_38 f_51 (Iff.rfl) (fun hp_52 => ?_) (fun hp_52 => ?_)
      · have h := it_f hp_52 h
        exact oj_X12_beginsAnew_63 hd R_40 l_46 f0 l_47 f1 l_48 f2 l_49 f3 l_44 f_38 (fun mq b => ih mq (Ext.tr E b)) (fun b => hQ (Ext.tr E b)) h
      · have h := it_n hp_52 h
        refine go_aload_n (n := 0) (by decide +kernel) l_46 f0 ?_
        refine go_iload_n (n := 3) (by decide +kernel) l_49 f3 ?_
        obtain ⟨x_148, hc_147, h⟩ := bp_s h
        refine go_callV (x := 667) (mi := 298) (n := 1) (ci := 13) (as := [v3]) (rest := []) (by decide +kernel) (by decide +kernel) rfl rfl (q_sum8 _ (Nat.le_of_ble_eq_true rfl)) R_40 f0 (fx_k (c := 13) R_40 (by decide +kernel)) (om_X12_isBack (Nat.le_trans (by decide) hd) R_40 f0 f3 hc_147) (fun _ S_152 q_155 => ?_) (fun _ _ qq => kr_x qq)
        refine kr_z (by decide) q_155 fun v_150 f_151 R_153 E_154 => ?_
        refine go_if (c := .ne) (o := 24) (t := 63) (P := ¬ (x_148 = 0)) (by decide +kernel) (by decide +kernel) f_151 (Iff.rfl) (fun hp_156 => ?_) (fun hp_156 => ?_)
        · have h := it_f hp_156 h
          exact oj_X12_beginsAnew_63 hd R_153 l_46 f0 l_47 f1 l_48 f2 l_49 f3 l_44 f_38 (fun mq b => ih mq (Ext.tr E b)) (fun b => hQ (Ext.tr E b)) h
        · have h := it_n hp_156 h
          refine go_aload_n (n := 0) (by decide +kernel) l_46 f0 ?_
          refine go_iload_n (n := 1) (by decide +kernel) l_47 f1 ?_
          refine go_iload_n (n := 3) (by decide +kernel) l_49 f3 ?_
          refine go_aload_n (n := 0) (by decide +kernel) l_46 f0 ?_
          refine go_iload_n (n := 1) (by decide +kernel) l_47 f1 ?_
          refine go_iload_n (n := 3) (by decide +kernel) l_49 f3 ?_
          obtain ⟨x_158, hc_157, h⟩ := bp_s h
          refine go_callV (x := 344) (mi := 206) (n := 2) (ci := 13) (as := [v1, v3]) (rest := [v3, v1, v0]) (by decide +kernel) (by decide +kernel) rfl rfl (q_sum8 _ (Nat.le_of_ble_eq_true rfl)) R_153 f0 (fx_k (c := 13) R_153 (by decide +kernel)) (om_X12_xAt (Nat.le_trans (by decide) hd) R_153 f0 f1 f3 hc_157) (fun _ S_162 q_165 => ?_) (fun _ _ qq => kr_x qq)
          refine kr_z (by decide) q_165 fun v_160 f_161 R_163 E_164 => ?_
          refine go_aload_n (n := 0) (by decide +kernel) l_46 f0 ?_
          refine go_iload_n (n := 1) (by decide +kernel) l_47 f1 ?_
          refine go_iload_n (n := 3) (by decide +kernel) l_49 f3 ?_
          obtain ⟨x_167, hc_166, h⟩ := bp_s h
          refine go_callV (x := 397) (mi := 205) (n := 2) (ci := 13) (as := [v1, v3]) (rest := [v_160, v3, v1, v0]) (by decide +kernel) (by decide +kernel) rfl rfl (q_sum8 _ (Nat.le_of_ble_eq_true rfl)) R_163 f0 (fx_k (c := 13) R_163 (by decide +kernel)) (om_X12_yAt (Nat.le_trans (by decide) hd) R_163 f0 f1 f3 hc_166) (fun _ S_171 q_174 => ?_) (fun _ _ qq => kr_x qq)
          refine kr_z (by decide) q_174 fun v_169 f_170 R_172 E_173 => ?_
          obtain ⟨x_176, m_177, hc_175, h⟩ := bd_s h
          refine go_callV (x := 623) (mi := 251) (n := 4) (ci := 13) (as := [v1, v3, v_160, v_169]) (rest := []) (by decide +kernel) (by decide +kernel) rfl rfl (q_sum8 _ (Nat.le_of_ble_eq_true rfl)) R_172 f0 (fx_k (c := 13) R_172 (by decide +kernel)) (om_X12_makesActivity (Nat.le_trans (by decide) hd) R_172 f0 f1 f3 f_161 f_170 hc_175) (fun _ S_180 q_183 => ?_) (fun _ _ qq => kr_x qq)
          refine kr_v q_183 fun R_181 E_182 => ?_
          have E_184 := Ext.tr E E_182
          refine go_goto (o := 46) (t := 106) (by decide +kernel) (by decide +kernel) ?_
          refine go_iinc (n := 3) (c := 1) (c' := 1) (by decide +kernel) (by decide +kernel) l_49 f3 (by decide) fun L_185 v_186 f_187 l_188 kp_189 => ?_
          obtain ⟨x_190, e_191, h⟩ := lx_s h
          have f_192 := q_is_eq f_187 e_191
          have l_193 := kp_189 0 _ l_46 (by decide) (Or.inl (by decide))
          have l_194 := kp_189 1 _ l_47 (by decide) (Or.inl (by decide))
          have l_195 := kp_189 2 _ l_48 (by decide) (Or.inr (q_is_cat f2 (Or.inl rfl)))
          refine go_goto (o := (-95)) (t := 14) (by decide +kernel) (by decide +kernel) ?_
          exact ih m_177 E_184 h R_181 l_193 f0 l_194 f1 l_195 f2 l_188 f_192
noncomputable def fm_X12_beginsAnew (p1 : Int) (m0 : MM) : Option (Int × MM) := gd (0 ≤ p1 ∧ p1 < 30) <| lx (m0 86 p1) fun x_8 =>
bd (fm_X12_marks p1 m0) fun x_16 m_17 =>
fl_X12_beginsAnew_14 p1 x_8  BIG 0 m_17
set_option maxHeartbeats 4000000 in
theorem om_X12_beginsAnew {xs : List Int32} {d : Nat} {S : QS} {m0 : MM} {p1 : Int} {v0 : Value} {v1 : Value} {rz : Int} {rm : MM}
  (hd : 5 ≤ d) (R : Rp S m0) (f0 : q_is 2 v0 68) (f1 : q_is 0 v1 p1)
  (h : fm_X12_beginsAnew p1 m0 = some (rz, rm)) : Mt xs d 299 [v0, v1] S (Cr 9 m0 rm rz) := by
  obtain ⟨d, rfl⟩ : ∃ e, d = e + 1 := ⟨d - 1, by omega⟩
  have hd : 4 ≤ d := Nat.le_of_succ_le_succ hd
  refine Mt.of (M := qM_X12_beginsAnew) rfl (by rw [sl_1 (q_is_cat f0 (Or.inr rfl)), sl_1 (q_is_cat f1 (Or.inl rfl)), sl_0]; decide) ?_
  rw [la_1 (q_is_cat f0 (Or.inr rfl)), la_1 (q_is_cat f1 (Or.inl rfl)), la_0]
  obtain ⟨L, hL⟩ : ∃ L : QL, L = [(0, v0), (0 + 1, v1)] := ⟨_, rfl⟩
  rw [← hL]
  have l0 : q_lo L 0 = some v0 := by rw [hL]; rfl
  have l1 : q_lo L 1 = some v1 := by rw [hL]; rfl
  have hQ : Ext m0 rm → ∀ o S1, Rp S1 rm → q_out 9 o rz → (Cr 9 m0 rm rz) o S1 := fun a o S1 b e => ⟨b, a, e⟩
  unfold fm_X12_beginsAnew at h
  refine go_aload_n (n := 0) (by decide +kernel) l0 f0 ?_
  refine go_getf (x := 61) (ci := 13) (kf := 19) (fin := 1) (t := 2) (by decide +kernel) (by decide +kernel) (by decide +kernel) R f0 (fx_k (c := 13) R (by decide +kernel)) fun v_1 f_2 => ?_
  have f_3 := q_is_eq (b := 86) f_2 (fx_v R (by decide +kernel)).symm
  refine go_iload_n (n := 1) (by decide +kernel) l1 f1 ?_
  obtain ⟨g_6, h⟩ := gd_s h
  obtain ⟨x_8, e_9, h⟩ := lx_s h
  refine go_iald (kd := 100) (by decide +kernel) rfl R f_3 f1 (fx_k (c := 100) R (by decide +kernel)) (fx_x (a := 86) (ln := 30) R (by decide +kernel) g_6) fun v_4 f_5 => ?_
  have f_7 := q_is_eq f_5 e_9
  refine go_istore_n (n := 2) (by decide +kernel) (by decide +kernel) f_7 fun L_10 l_11 kp_12 => ?_
  have l_13 := kp_12 0 _ l0 (by decide) (Or.inl (by decide))
  have l_14 := kp_12 1 _ l1 (by decide) (Or.inr (q_is_cat f1 (Or.inl rfl)))
  refine go_aload_n (n := 0) (by decide +kernel) l_13 f0 ?_
  refine go_iload_n (n := 1) (by decide +kernel) l_14 f1 ?_
  obtain ⟨x_16, m_17, hc_15, h⟩ := bd_s h
  refine go_callV (x := 664) (mi := 297) (n := 1) (ci := 13) (as := [v1]) (rest := []) (by decide +kernel) (by decide +kernel) rfl rfl (q_sum8 _ (Nat.le_of_ble_eq_true rfl)) R f0 (fx_k (c := 13) R (by decide +kernel)) (om_X12_marks (Nat.le_trans (by decide) hd) R f0 f1 hc_15) (fun _ S_20 q_23 => ?_) (fun _ _ qq => kr_x qq)
  refine kr_v q_23 fun R_21 E_22 => ?_
  have E_24 := E_22
  refine go_iconst (n := 0) (z := 0) (by decide +kernel) (by decide) fun v_25 f_26 => ?_
  refine go_istore_n (n := 3) (by decide +kernel) (by decide +kernel) f_26 fun L_27 l_28 kp_29 => ?_
  have l_30 := kp_29 0 _ l_13 (by decide) (Or.inl (by decide))
  have l_31 := kp_29 1 _ l_14 (by decide) (Or.inl (by decide))
  have l_32 := kp_29 2 _ l_11 (by decide) (Or.inr (q_is_cat f_7 (Or.inl rfl)))
  refine ol_X12_beginsAnew_14 hd   (fun b => hQ (Ext.tr E_24 b)) BIG (Ext.rf _) h R_21 l_30 f0 l_31 f1 l_32 f_7 l_28 f_26
end DF44
