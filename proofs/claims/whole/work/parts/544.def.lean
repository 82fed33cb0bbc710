/-! Methods as functions (written by wip/whole/dec.py), 44: X12_isVersion, X12_un_safe, X12_move, X12_marks, X12_isBack, X12_beginsAnew. -/
section DF44
noncomputable def fm_X12_isVersion (p1 p2 : Int) (m0 : MM) : Option Int := bp (fm_X12_isType p1 m0) fun x_2 =>
if x_2 = 0 then
some 0
else
gd (0 ≤ p1 ∧ p1 < 4) <| lx (m0 69 p1) fun x_22 =>
bp (fm_X12_isIn p2 0 (w32 (x_22 - 1)) m0) fun x_29 =>
if x_29 = 0 then
some 0
else
some 1
set_option maxHeartbeats 4000000 in
theorem om_X12_isVersion {xs : List Int32} {d : Nat} {S : QS} {m0 : MM} {p1 p2 : Int} {v0 : Value} {v1 : Value} {v2 : Value} {rz : Int}
  (hd : 3 ≤ d) (R : Rp S m0) (f0 : q_is 2 v0 68) (f1 : q_is 0 v1 p1) (f2 : q_is 0 v2 p2)
  (h : fm_X12_isVersion p1 p2 m0 = some rz) : Mt xs d 294 [v0, v1, v2] S (Cr 0 m0 m0 rz) := by
  obtain ⟨d, rfl⟩ : ∃ e, d = e + 1 := ⟨d - 1, by omega⟩
  have hd : 2 ≤ d := Nat.le_of_succ_le_succ hd
  refine Mt.of (M := qM_X12_isVersion) rfl (by rw [sl_1 (q_is_cat f0 (Or.inr rfl)), sl_1 (q_is_cat f1 (Or.inl rfl)), sl_1 (q_is_cat f2 (Or.inl rfl)), sl_0]; decide) ?_
  rw [la_1 (q_is_cat f0 (Or.inr rfl)), la_1 (q_is_cat f1 (Or.inl rfl)), la_1 (q_is_cat f2 (Or.inl rfl)), la_0]
  obtain ⟨L, hL⟩ : ∃ L : QL, L = [(0, v0), (0 + 1, v1), (0 + 1 + 1, v2)] := ⟨_, rfl⟩
  rw [← hL]
  have l0 : q_lo L 0 = some v0 := by rw [hL]; rfl
  have l1 : q_lo L 1 = some v1 := by rw [hL]; rfl
  have l2 : q_lo L 2 = some v2 := by rw [hL]; rfl
  have hQ : ∀ o S1, Rp S1 m0 → q_out 0 o rz → (Cr 0 m0 m0 rz) o S1 := fun o S1 a b => ⟨a, Ext.rf _, b⟩
  unfold fm_X12_isVersion at h
  refine go_iload_n (n := 1) (by decide +kernel) l1 f1 ?_
  obtain ⟨x_2, hc_1, h⟩ := bp_s h
  refine go_callS (x := 313) (mi := 191) (n := 1) (b := 0) (as := [v1]) (rest := []) (by decide +kernel) (by decide +kernel) rfl rfl (q_sum8 _ (Nat.le_of_ble_eq_true rfl)) (om_X12_isType (Nat.le_trans (by decide) hd) R f1 hc_1) (fun _ S_6 q_9 => ?_) (fun _ _ qq => kr_x qq)
  refine kr_z (by decide) q_9 fun v_4 f_5 R_7 E_8 => ?_
  refine go_if (c := .eq) (o := 23) (t := 27) (P := x_2 = 0) (by decide +kernel) (by decide +kernel) f_5 (Iff.rfl) (fun hp_10 => ?_) (fun hp_10 => ?_)
  · have h := it_t hp_10 h
    refine go_iconst (n := 0) (z := 0) (by decide +kernel) (by decide) fun v_11 f_12 => ?_
    cases h
    exact go_iret (by decide +kernel) rfl (Or.inr ⟨rfl, by decide⟩) f_12 (hQ _ _ R_7 (q_out_v (by decide) f_12))
  · have h := it_f hp_10 h
    refine go_iload_n (n := 2) (by decide +kernel) l2 f2 ?_
    refine go_iconst (n := 0) (z := 0) (by decide +kernel) (by decide) fun v_13 f_14 => ?_
    refine go_aload_n (n := 0) (by decide +kernel) l0 f0 ?_
    refine go_getf (x := 7) (ci := 13) (kf := 1) (fin := 1) (t := 2) (by decide +kernel) (by decide +kernel) (by decide +kernel) R_7 f0 (fx_k (c := 13) R_7 (by decide +kernel)) fun v_15 f_16 => ?_
    have f_17 := q_is_eq (b := 69) f_16 (fx_v R_7 (by decide +kernel)).symm
    refine go_iload_n (n := 1) (by decide +kernel) l1 f1 ?_
    obtain ⟨g_20, h⟩ := gd_s h
    obtain ⟨x_22, e_23, h⟩ := lx_s h
    refine go_iald (kd := 100) (by decide +kernel) rfl R_7 f_17 f1 (fx_k (c := 100) R_7 (by decide +kernel)) (fx_x (a := 69) (ln := 4) R_7 (by decide +kernel) g_20) fun v_18 f_19 => ?_
    have f_21 := q_is_eq f_19 e_23
    refine go_iconst (n := 1) (z := 1) (by decide +kernel) (by decide) fun v_24 f_25 => ?_
    refine go_isub (by decide +kernel) f_21 f_25 fun v_26 f_27 => ?_
    obtain ⟨x_29, hc_28, h⟩ := bp_s h
    refine go_callS (x := 306) (mi := 188) (n := 3) (b := 0) (as := [v2, v_13, v_26]) (rest := []) (by decide +kernel) (by decide +kernel) rfl rfl (q_sum8 _ (Nat.le_of_ble_eq_true rfl)) (om_X12_isIn (Nat.le_trans (by decide) hd) R_7 f2 f_14 f_27 hc_28) (fun _ S_33 q_36 => ?_) (fun _ _ qq => kr_x qq)
    refine kr_z (by decide) q_36 fun v_31 f_32 R_34 E_35 => ?_
    refine go_if (c := .eq) (o := 7) (t := 27) (P := x_29 = 0) (by decide +kernel) (by decide +kernel) f_32 (Iff.rfl) (fun hp_37 => ?_) (fun hp_37 => ?_)
    · have h := it_t hp_37 h
      refine go_iconst (n := 0) (z := 0) (by decide +kernel) (by decide) fun v_38 f_39 => ?_
      cases h
      exact go_iret (by decide +kernel) rfl (Or.inr ⟨rfl, by decide⟩) f_39 (hQ _ _ R_34 (q_out_v (by decide) f_39))
    · have h := it_f hp_37 h
      refine go_iconst (n := 1) (z := 1) (by decide +kernel) (by decide) fun v_40 f_41 => ?_
      refine go_goto (o := 4) (t := 28) (by decide +kernel) (by decide +kernel) ?_
      cases h
      exact go_iret (by decide +kernel) rfl (Or.inr ⟨rfl, by decide⟩) f_41 (hQ _ _ R_34 (q_out_v (by decide) f_41))
noncomputable def fl_X12_unsafe_28 (y1 y2 : Int) : Nat → Int → Int → MM → Option (Int × MM)
  | 0, _, _, _ => none
  | n + 1, y3, y4, m => lx (m 68 12) fun x_46 =>
if y4 < x_46 then
gd (0 ≤ y4 ∧ y4 < 30) <| lx (m 83 y4) fun x_56 =>
if x_56 = 0 then
lx (m 80 y4) fun x_91 =>
if x_91 = y1 then
bd (fm_X12_isSafe y4 y2 m) fun x_121 m_122 =>
if x_121 = 0 then
lx (w32 (y3 + 1)) fun x_163 =>
lx (w32 (y4 + 1)) fun x_178 =>
fl_X12_unsafe_28 y1 y2 n x_163 x_178 m_122
else
lx (w32 (y3 + 0)) fun x_137 =>
lx (w32 (y4 + 1)) fun x_152 =>
fl_X12_unsafe_28 y1 y2 n x_137 x_152 m_122
else
lx (w32 (y3 + 0)) fun x_98 =>
lx (w32 (y4 + 1)) fun x_113 =>
fl_X12_unsafe_28 y1 y2 n x_98 x_113 m
else
lx (w32 (y3 + 0)) fun x_63 =>
lx (w32 (y4 + 1)) fun x_78 =>
fl_X12_unsafe_28 y1 y2 n x_63 x_78 m
else
some (y3, m)
set_option maxHeartbeats 4000000 in
theorem ol_X12_unsafe_28 {xs : List Int32} {d : Nat} {Q : QO → QS → Prop} {mb : MM} {y1 y2 : Int} {rz : Int} {rm : MM}
  (hd : 15 ≤ d)
  (hQ : Ext mb rm → ∀ o S1, Rp S1 rm → q_out 0 o rz → Q o S1) :
  ∀ (n : Nat) {m : MM} {S : QS} {L : QL} {y3 y4 : Int} {v0 : Value} {v1 : Value} {v2 : Value} {v3 : Value} {v4 : Value} , Ext mb m → fl_X12_unsafe_28 y1 y2 n y3 y4 m = some (rz, rm) → Rp S m → q_lo L 0 = some v0 → q_is 2 v0 68 → q_lo L 1 = some v1 → q_is 0 v1 y1 → q_lo L 2 = some v2 → q_is 0 v2 y2 → q_lo L 3 = some v3 → q_is 0 v3 y3 → q_lo L 4 = some v4 → q_is 0 v4 y4 → Go xs d qM_X12_unsafe 28 L [] S Q := by
  intro n
  induction n with
  | zero => intro m S L y3 y4 v0 v1 v2 v3 v4; intro E h R l0 f0 l1 f1 l2 f2 l3 f3 l4 f4; cases h
  | succ n ih0 =>
    intro m S L y3 y4 v0 v1 v2 v3 v4; intro E h R l0 f0 l1 f1 l2 f2 l3 f3 l4 f4
    have ih : ∀ mq : MM, Ext mb mq → ∀ {z3 : Int} {z4 : Int} {Sq : QS} {Lq : QL} {u0 : Value} {u1 : Value} {u2 : Value} {u3 : Value} {u4 : Value}, fl_X12_unsafe_28 y1 y2 n z3 z4 mq = some (rz, rm) → Rp Sq mq → q_lo Lq 0 = some u0 → q_is 2 u0 68 → q_lo Lq 1 = some u1 → q_is 0 u1 y1 → q_lo Lq 2 = some u2 → q_is 0 u2 y2 → q_lo Lq 3 = some u3 → q_is 0 u3 z3 → q_lo Lq 4 = some u4 → q_is 0 u4 z4 → Go xs d qM_X12_unsafe 28 Lq [] Sq Q := fun mq b => by intros; exact ih0 b ‹_› ‹_› ‹_› ‹_› ‹_› ‹_› ‹_› ‹_› ‹_› ‹_› ‹_› ‹_›
    unfold fl_X12_unsafe_28 at h
    refine go_iload (n := 4) (by decide +kernel) l4 f4 ?_
    refine go_aload_n (n := 0) (by decide +kernel) l0 f0 ?_
    obtain ⟨x_46, e_47, h⟩ := lx_s h
    refine go_getf (x := 310) (ci := 13) (kf := 12) (fin := 0) (t := 0) (by decide +kernel) (by decide +kernel) (by decide +kernel) R f0 (fx_k (c := 13) R (by decide +kernel)) fun v_43 f_44 => ?_
    have f_45 := q_is_eq f_44 e_47
    refine go_icmp (c := .ge) (o := 48) (t := 82) (P := ¬ (y4 < x_46)) (by decide +kernel) (by decide +kernel) f4 f_45 (Int.not_lt.symm) (fun hp_48 => ?_) (fun hp_48 => ?_)
    · have h := it_f hp_48 h
      refine go_iload_n (n := 3) (by decide +kernel) l3 f3 ?_
      cases h
      exact go_iret (by decide +kernel) rfl (Or.inl rfl) f3 (hQ E _ _ R (q_out_v (by decide) f3))
    · have h := it_n hp_48 h
      refine go_iload_n (n := 3) (by decide +kernel) l3 f3 ?_
      refine go_aload_n (n := 0) (by decide +kernel) l0 f0 ?_
      refine go_getf (x := 52) (ci := 13) (kf := 16) (fin := 1) (t := 2) (by decide +kernel) (by decide +kernel) (by decide +kernel) R f0 (fx_k (c := 13) R (by decide +kernel)) fun v_49 f_50 => ?_
      have f_51 := q_is_eq (b := 83) f_50 (fx_v R (by decide +kernel)).symm
      refine go_iload (n := 4) (by decide +kernel) l4 f4 ?_
      obtain ⟨g_54, h⟩ := gd_s h
      obtain ⟨x_56, e_57, h⟩ := lx_s h
      refine go_iald (kd := 100) (by decide +kernel) rfl R f_51 f4 (fx_k (c := 100) R (by decide +kernel)) (fx_x (a := 83) (ln := 30) R (by decide +kernel) g_54) fun v_52 f_53 => ?_
      have f_55 := q_is_eq f_53 e_57
      refine go_if (c := .ne) (o := 28) (t := 73) (P := ¬ (x_56 = 0)) (by decide +kernel) (by decide +kernel) f_55 (Iff.rfl) (fun hp_58 => ?_) (fun hp_58 => ?_)
      · have h := it_f hp_58 h
        refine go_iconst (n := 0) (z := 0) (by decide +kernel) (by decide) fun v_59 f_60 => ?_
        refine go_iadd (by decide +kernel) f3 f_60 fun v_61 f_62 => ?_
        obtain ⟨x_63, e_64, h⟩ := lx_s h
        have f_65 := q_is_eq f_62 e_64
        refine go_istore_n (n := 3) (by decide +kernel) (by decide +kernel) f_65 fun L_66 l_67 kp_68 => ?_
        have l_69 := kp_68 0 _ l0 (by decide) (Or.inl (by decide))
        have l_70 := kp_68 1 _ l1 (by decide) (Or.inl (by decide))
        have l_71 := kp_68 2 _ l2 (by decide) (Or.inr (q_is_cat f2 (Or.inl rfl)))
        have l_72 := kp_68 4 _ l4 (by decide) (Or.inl (by decide))
        refine go_iinc (n := 4) (c := 1) (c' := 1) (by decide +kernel) (by decide +kernel) l_72 f4 (by decide) fun L_73 v_74 f_75 l_76 kp_77 => ?_
        obtain ⟨x_78, e_79, h⟩ := lx_s h
        have f_80 := q_is_eq f_75 e_79
        have l_81 := kp_77 0 _ l_69 (by decide) (Or.inl (by decide))
        have l_82 := kp_77 1 _ l_70 (by decide) (Or.inl (by decide))
        have l_83 := kp_77 2 _ l_71 (by decide) (Or.inl (by decide))
        have l_84 := kp_77 3 _ l_67 (by decide) (Or.inr (q_is_cat f_65 (Or.inl rfl)))
        refine go_goto (o := (-51)) (t := 28) (by decide +kernel) (by decide +kernel) ?_
        exact ih m E h R l_81 f0 l_82 f1 l_83 f2 l_84 f_65 l_76 f_80
      · have h := it_n hp_58 h
        refine go_aload_n (n := 0) (by decide +kernel) l0 f0 ?_
        refine go_getf (x := 43) (ci := 13) (kf := 13) (fin := 1) (t := 2) (by decide +kernel) (by decide +kernel) (by decide +kernel) R f0 (fx_k (c := 13) R (by decide +kernel)) fun v_85 f_86 => ?_
        have f_87 := q_is_eq (b := 80) f_86 (fx_v R (by decide +kernel)).symm
        refine go_iload (n := 4) (by decide +kernel) l4 f4 ?_
        obtain ⟨x_91, e_92, h⟩ := lx_s h
        refine go_iald (kd := 100) (by decide +kernel) rfl R f_87 f4 (fx_k (c := 100) R (by decide +kernel)) (fx_x (a := 80) (ln := 30) R (by decide +kernel) g_54) fun v_88 f_89 => ?_
        have f_90 := q_is_eq f_89 e_92
        refine go_iload_n (n := 1) (by decide +kernel) l1 f1 ?_
        refine go_icmp (c := .ne) (o := 17) (t := 73) (P := ¬ (x_91 = y1)) (by decide +kernel) (by decide +kernel) f_90 f1 (Iff.rfl) (fun hp_93 => ?_) (fun hp_93 => ?_)
        · have h := it_f hp_93 h
          refine go_iconst (n := 0) (z := 0) (by decide +kernel) (by decide) fun v_94 f_95 => ?_
          refine go_iadd (by decide +kernel) f3 f_95 fun v_96 f_97 => ?_
          obtain ⟨x_98, e_99, h⟩ := lx_s h
          have f_100 := q_is_eq f_97 e_99
          refine go_istore_n (n := 3) (by decide +kernel) (by decide +kernel) f_100 fun L_101 l_102 kp_103 => ?_
          have l_104 := kp_103 0 _ l0 (by decide) (Or.inl (by decide))
          have l_105 := kp_103 1 _ l1 (by decide) (Or.inl (by decide))
          have l_106 := kp_103 2 _ l2 (by decide) (Or.inr (q_is_cat f2 (Or.inl rfl)))
          have l_107 := kp_103 4 _ l4 (by decide) (Or.inl (by decide))
          refine go_iinc (n := 4) (c := 1) (c' := 1) (by decide +kernel) (by decide +kernel) l_107 f4 (by decide) fun L_108 v_109 f_110 l_111 kp_112 => ?_
          obtain ⟨x_113, e_114, h⟩ := lx_s h
          have f_115 := q_is_eq f_110 e_114
          have l_116 := kp_112 0 _ l_104 (by decide) (Or.inl (by decide))
          have l_117 := kp_112 1 _ l_105 (by decide) (Or.inl (by decide))
          have l_118 := kp_112 2 _ l_106 (by decide) (Or.inl (by decide))
          have l_119 := kp_112 3 _ l_102 (by decide) (Or.inr (q_is_cat f_100 (Or.inl rfl)))
          refine go_goto (o := (-51)) (t := 28) (by decide +kernel) (by decide +kernel) ?_
          exact ih m E h R l_116 f0 l_117 f1 l_118 f2 l_119 f_100 l_111 f_115
        · have h := it_n hp_93 h
          refine go_aload_n (n := 0) (by decide +kernel) l0 f0 ?_
          refine go_iload (n := 4) (by decide +kernel) l4 f4 ?_
          refine go_iload_n (n := 2) (by decide +kernel) l2 f2 ?_
          obtain ⟨x_121, m_122, hc_120, h⟩ := bd_s h
          refine go_callV (x := 586) (mi := 250) (n := 2) (ci := 13) (as := [v4, v2]) (rest := [v3]) (by decide +kernel) (by decide +kernel) rfl rfl (q_sum8 _ (Nat.le_of_ble_eq_true rfl)) R f0 (fx_k (c := 13) R (by decide +kernel)) (om_X12_isSafe (Nat.le_trans (by decide) hd) R f0 f4 f2 hc_120) (fun _ S_125 q_128 => ?_) (fun _ _ qq => kr_x qq)
          refine kr_z (by decide) q_128 fun v_123 f_124 R_126 E_127 => ?_
          have E_131 := Ext.tr E E_127
          refine go_if (c := .ne) (o := 7) (t := 73) (P := ¬ (x_121 = 0)) (by decide +kernel) (by decide +kernel) f_124 (Iff.rfl) (fun hp_132 => ?_) (fun hp_132 => ?_)
          · have h := it_f hp_132 h
            refine go_iconst (n := 0) (z := 0) (by decide +kernel) (by decide) fun v_133 f_134 => ?_
            refine go_iadd (by decide +kernel) f3 f_134 fun v_135 f_136 => ?_
            obtain ⟨x_137, e_138, h⟩ := lx_s h
            have f_139 := q_is_eq f_136 e_138
            refine go_istore_n (n := 3) (by decide +kernel) (by decide +kernel) f_139 fun L_140 l_141 kp_142 => ?_
            have l_143 := kp_142 0 _ l0 (by decide) (Or.inl (by decide))
            have l_144 := kp_142 1 _ l1 (by decide) (Or.inl (by decide))
            have l_145 := kp_142 2 _ l2 (by decide) (Or.inr (q_is_cat f2 (Or.inl rfl)))
            have l_146 := kp_142 4 _ l4 (by decide) (Or.inl (by decide))
            refine go_iinc (n := 4) (c := 1) (c' := 1) (by decide +kernel) (by decide +kernel) l_146 f4 (by decide) fun L_147 v_148 f_149 l_150 kp_151 => ?_
            obtain ⟨x_152, e_153, h⟩ := lx_s h
            have f_154 := q_is_eq f_149 e_153
            have l_155 := kp_151 0 _ l_143 (by decide) (Or.inl (by decide))
            have l_156 := kp_151 1 _ l_144 (by decide) (Or.inl (by decide))
            have l_157 := kp_151 2 _ l_145 (by decide) (Or.inl (by decide))
            have l_158 := kp_151 3 _ l_141 (by decide) (Or.inr (q_is_cat f_139 (Or.inl rfl)))
            refine go_goto (o := (-51)) (t := 28) (by decide +kernel) (by decide +kernel) ?_
            exact ih m_122 E_131 h R_126 l_155 f0 l_156 f1 l_157 f2 l_158 f_139 l_150 f_154
          · have h := it_n hp_132 h
            refine go_iconst (n := 1) (z := 1) (by decide +kernel) (by decide) fun v_159 f_160 => ?_
            refine go_goto (o := 4) (t := 74) (by decide +kernel) (by decide +kernel) ?_
            refine go_iadd (by decide +kernel) f3 f_160 fun v_161 f_162 => ?_
            obtain ⟨x_163, e_164, h⟩ := lx_s h
            have f_165 := q_is_eq f_162 e_164
            refine go_istore_n (n := 3) (by decide +kernel) (by decide +kernel) f_165 fun L_166 l_167 kp_168 => ?_
            have l_169 := kp_168 0 _ l0 (by decide) (Or.inl (by decide))
            have l_170 := kp_168 1 _ l1 (by decide) (Or.inl (by decide))
            have l_171 := kp_168 2 _ l2 (by decide) (Or.inr (q_is_cat f2 (Or.inl rfl)))
            have l_172 := kp_168 4 _ l4 (by decide) (Or.inl (by decide))
            refine go_iinc (n := 4) (c := 1) (c' := 1) (by decide +kernel) (by decide +kernel) l_172 f4 (by decide) fun L_173 v_174 f_175 l_176 kp_177 => ?_
            obtain ⟨x_178, e_179, h⟩ := lx_s h
            have f_180 := q_is_eq f_175 e_179
            have l_181 := kp_177 0 _ l_169 (by decide) (Or.inl (by decide))
            have l_182 := kp_177 1 _ l_170 (by decide) (Or.inl (by decide))
            have l_183 := kp_177 2 _ l_171 (by decide) (Or.inl (by decide))
            have l_184 := kp_177 3 _ l_167 (by decide) (Or.inr (q_is_cat f_165 (Or.inl rfl)))
            refine go_goto (o := (-51)) (t := 28) (by decide +kernel) (by decide +kernel) ?_
            exact ih m_122 E_131 h R_126 l_181 f0 l_182 f1 l_183 f2 l_184 f_165 l_176 f_180
noncomputable def fj_X12_unsafe_15 (y1 y2 s0 : Int) (m : MM) : Option (Int × MM) := bd (fm_X12_fails s0 m) fun x_14 m_15 =>
if x_14 = 0 then
fl_X12_unsafe_28 y1 y2  BIG 0 0 m_15
else
some (0, m_15)
set_option maxHeartbeats 4000000 in
theorem oj_X12_unsafe_15 {xs : List Int32} {d : Nat} {S : QS} {L : QL} {Q : QO → QS → Prop} {m : MM} {y1 y2 s0 : Int} {v0 : Value} {v1 : Value} {v2 : Value} {w0 : Value} {w1 : Value}  {rz : Int} {rm : MM}
  (hd : 15 ≤ d) (R : Rp S m) (l0 : q_lo L 0 = some v0) (f0 : q_is 2 v0 68) (l1 : q_lo L 1 = some v1) (f1 : q_is 0 v1 y1) (l2 : q_lo L 2 = some v2) (f2 : q_is 0 v2 y2) (fs0 : q_is 0 w0 s0) (fs1 : q_is 2 w1 68)
  (hQ : Ext m rm → ∀ o S1, Rp S1 rm → q_out 0 o rz → Q o S1)
  (h : fj_X12_unsafe_15 y1 y2 s0 m = some (rz, rm)) : Go xs d qM_X12_unsafe 15 L [w0, w1] S Q := by
  unfold fj_X12_unsafe_15 at h
  obtain ⟨x_14, m_15, hc_13, h⟩ := bd_s h
  refine go_callV (x := 324) (mi := 186) (n := 1) (ci := 13) (as := [w0]) (rest := []) (by decide +kernel) (by decide +kernel) rfl rfl (q_sum8 _ (Nat.le_of_ble_eq_true rfl)) R fs1 (fx_k (c := 13) R (by decide +kernel)) (om_X12_fails (Nat.le_trans (by decide) hd) R fs1 fs0 hc_13) (fun _ S_18 q_21 => ?_) (fun _ _ qq => kr_x qq)
  refine kr_z (by decide) q_21 fun v_16 f_17 R_19 E_20 => ?_
  have E_24 := E_20
  refine go_if (c := .eq) (o := 5) (t := 23) (P := x_14 = 0) (by decide +kernel) (by decide +kernel) f_17 (Iff.rfl) (fun hp_25 => ?_) (fun hp_25 => ?_)
  · have h := it_t hp_25 h
    refine go_iconst (n := 0) (z := 0) (by decide +kernel) (by decide) fun v_26 f_27 => ?_
    refine go_istore_n (n := 3) (by decide +kernel) (by decide +kernel) f_27 fun L_28 l_29 kp_30 => ?_
    have l_31 := kp_30 0 _ l0 (by decide) (Or.inl (by decide))
    have l_32 := kp_30 1 _ l1 (by decide) (Or.inl (by decide))
    have l_33 := kp_30 2 _ l2 (by decide) (Or.inr (q_is_cat f2 (Or.inl rfl)))
    refine go_iconst (n := 0) (z := 0) (by decide +kernel) (by decide) fun v_34 f_35 => ?_
    refine go_istore (n := 4) (by decide +kernel) (by decide +kernel) f_35 fun L_36 l_37 kp_38 => ?_
    have l_39 := kp_38 0 _ l_31 (by decide) (Or.inl (by decide))
    have l_40 := kp_38 1 _ l_32 (by decide) (Or.inl (by decide))
    have l_41 := kp_38 2 _ l_33 (by decide) (Or.inl (by decide))
    have l_42 := kp_38 3 _ l_29 (by decide) (Or.inr (q_is_cat f_27 (Or.inl rfl)))
    refine ol_X12_unsafe_28 hd   (fun b => hQ (Ext.tr E_24 b)) BIG (Ext.rf _) h R_19 l_39 f0 l_40 f1 l_41 f2 l_42 f_27 l_37 f_35
  · have h := it_f hp_25 h
    refine go_iconst (n := 0) (z := 0) (by decide +kernel) (by decide) fun v_185 f_186 => ?_
    cases h
    exact go_iret (by decide +kernel) rfl (Or.inl rfl) f_186 (hQ E_24 _ _ R_19 (q_out_v (by decide) f_186))
noncomputable def fm_X12_unsafe (p1 p2 : Int) (m0 : MM) : Option (Int × MM) := bp (fm_X12_isVersion p1 p2 m0) fun x_2 =>
if x_2 = 0 then
fj_X12_unsafe_15 p1 p2 1 m0
else
fj_X12_unsafe_15 p1 p2 0 m0
set_option maxHeartbeats 4000000 in
theorem om_X12_unsafe {xs : List Int32} {d : Nat} {S : QS} {m0 : MM} {p1 p2 : Int} {v0 : Value} {v1 : Value} {v2 : Value} {rz : Int} {rm : MM}
  (hd : 16 ≤ d) (R : Rp S m0) (f0 : q_is 2 v0 68) (f1 : q_is 0 v1 p1) (f2 : q_is 0 v2 p2)
  (h : fm_X12_unsafe p1 p2 m0 = some (rz, rm)) : Mt xs d 295 [v0, v1, v2] S (Cr 0 m0 rm rz) := by
  obtain ⟨d, rfl⟩ : ∃ e, d = e + 1 := ⟨d - 1, by omega⟩
  have hd : 15 ≤ d := Nat.le_of_succ_le_succ hd
  refine Mt.of (M := qM_X12_unsafe) rfl (by rw [sl_1 (q_is_cat f0 (Or.inr rfl)), sl_1 (q_is_cat f1 (Or.inl rfl)), sl_1 (q_is_cat f2 (Or.inl rfl)), sl_0]; decide) ?_
  rw [la_1 (q_is_cat f0 (Or.inr rfl)), la_1 (q_is_cat f1 (Or.inl rfl)), la_1 (q_is_cat f2 (Or.inl rfl)), la_0]
  obtain ⟨L, hL⟩ : ∃ L : QL, L = [(0, v0), (0 + 1, v1), (0 + 1 + 1, v2)] := ⟨_, rfl⟩
  rw [← hL]
  have l0 : q_lo L 0 = some v0 := by rw [hL]; rfl
  have l1 : q_lo L 1 = some v1 := by rw [hL]; rfl
  have l2 : q_lo L 2 = some v2 := by rw [hL]; rfl
  have hQ : Ext m0 rm → ∀ o S1, Rp S1 rm → q_out 0 o rz → (Cr 0 m0 rm rz) o S1 := fun a o S1 b e => ⟨b, a, e⟩
  unfold fm_X12_unsafe at h
  refine go_aload_n (n := 0) (by decide +kernel) l0 f0 ?_
  refine go_aload_n (n := 0) (by decide +kernel) l0 f0 ?_
  refine go_iload_n (n := 1) (by decide +kernel) l1 f1 ?_
  refine go_iload_n (n := 2) (by decide +kernel) l2 f2 ?_
  obtain ⟨x_2, hc_1, h⟩ := bp_s h
  refine go_callV (x := 661) (mi := 294) (n := 2) (ci := 13) (as := [v1, v2]) (rest := [v0]) (by decide +kernel) (by decide +kernel) rfl rfl (q_sum8 _ (Nat.le_of_ble_eq_true rfl)) R f0 (fx_k (c := 13) R (by decide +kernel)) (om_X12_isVersion (Nat.le_trans (by decide) hd) R f0 f1 f2 hc_1) (fun _ S_6 q_9 => ?_) (fun _ _ qq => kr_x qq)
  refine kr_z (by decide) q_9 fun v_4 f_5 R_7 E_8 => ?_
  refine go_if (c := .eq) (o := 7) (t := 14) (P := x_2 = 0) (by decide +kernel) (by decide +kernel) f_5 (Iff.rfl) (fun hp_10 => ?_) (fun hp_10 => ?_)
  · have h := it_t hp_10 h
    refine go_iconst (n := 1) (z := 1) (by decide +kernel) (by decide) fun v_11 f_12 => ?_
    exact oj_X12_unsafe_15 hd R_7 l0 f0 l1 f1 l2 f2 f_12 f0 hQ h
  · have h := it_f hp_10 h
    refine go_iconst (n := 0) (z := 0) (by decide +kernel) (by decide) fun v_187 f_188 => ?_
    refine go_goto (o := 4) (t := 15) (by decide +kernel) (by decide +kernel) ?_
    exact oj_X12_unsafe_15 hd R_7 l0 f0 l1 f1 l2 f2 f_188 f0 hQ h
noncomputable def fj_X12_move_50 (y1 y2 s0 : Int) (m : MM) : Option (Int × MM) := bd (fm_X12_fails s0 m) fun x_33 m_34 =>
if x_33 = 0 then
gd (0 ≤ y1 ∧ y1 < 30) <| up m_34 82 y1 y2 fun m_49 =>
up m_49 83 y1 0 fun m_61 =>
bd (fm_X12_isSafe y1 y2 m_61) fun x_69 m_70 =>
gd (x_69 = 0 ∨ x_69 = 1) <| some (x_69, m_70)
else
some (0, m_34)
set_option maxHeartbeats 4000000 in
theorem oj_X12_move_50 {xs : List Int32} {d : Nat} {S : QS} {L : QL} {Q : QO → QS → Prop} {m : MM} {y1 y2 s0 : Int} {v0 : Value} {v1 : Value} {v2 : Value} {w0 : Value} {w1 : Value}  {rz : Int} {rm : MM}
  (hd : 15 ≤ d) (R : Rp S m) (l0 : q_lo L 0 = some v0) (f0 : q_is 2 v0 68) (l1 : q_lo L 1 = some v1) (f1 : q_is 0 v1 y1) (l2 : q_lo L 2 = some v2) (f2 : q_is 0 v2 y2) (fs0 : q_is 0 w0 s0) (fs1 : q_is 2 w1 68)
  (hQ : Ext m rm → ∀ o S1, Rp S1 rm → q_out 0 o rz → Q o S1)
  (h : fj_X12_move_50 y1 y2 s0 m = some (rz, rm)) : Go xs d qM_X12_move 50 L [w0, w1] S Q := by
  unfold fj_X12_move_50 at h
  obtain ⟨x_33, m_34, hc_32, h⟩ := bd_s h
  refine go_callV (x := 324) (mi := 186) (n := 1) (ci := 13) (as := [w0]) (rest := []) (by decide +kernel) (by decide +kernel) rfl rfl (q_sum8 _ (Nat.le_of_ble_eq_true rfl)) R fs1 (fx_k (c := 13) R (by decide +kernel)) (om_X12_fails (Nat.le_trans (by decide) hd) R fs1 fs0 hc_32) (fun _ S_37 q_40 => ?_) (fun _ _ qq => kr_x qq)
  refine kr_z (by decide) q_40 fun v_35 f_36 R_38 E_39 => ?_
  have E_43 := E_39
  refine go_if (c := .eq) (o := 5) (t := 58) (P := x_33 = 0) (by decide +kernel) (by decide +kernel) f_36 (Iff.rfl) (fun hp_44 => ?_) (fun hp_44 => ?_)
  · have h := it_t hp_44 h
    refine go_aload_n (n := 0) (by decide +kernel) l0 f0 ?_
    refine go_getf (x := 49) (ci := 13) (kf := 15) (fin := 1) (t := 2) (by decide +kernel) (by decide +kernel) (by decide +kernel) R_38 f0 (fx_k (c := 13) R_38 (by decide +kernel)) fun v_45 f_46 => ?_
    have f_47 := q_is_eq (b := 82) f_46 (fx_v R_38 (by decide +kernel)).symm
    refine go_iload_n (n := 1) (by decide +kernel) l1 f1 ?_
    refine go_iload_n (n := 2) (by decide +kernel) l2 f2 ?_
    obtain ⟨g_48, h⟩ := gd_s h
    obtain ⟨m_49, e_50, h⟩ := up_s h
    refine go_iast (kd := 100) (by decide +kernel) rfl R_38 f_47 f1 f2 (fx_k (c := 100) R_38 (by decide +kernel)) (fx_x (a := 82) (ln := 30) R_38 (by decide +kernel) g_48) e_50 (fx_a R_38.2 (fx_k (c := 100) R_38 (by decide +kernel)) (And.left (fx_x (a := 82) (ln := 30) R_38 (by decide +kernel) g_48)) (by decide +kernel)) fun S_51 R_52 E_53 => ?_
    have E_55 := Ext.tr E_43 E_53
    refine go_aload_n (n := 0) (by decide +kernel) l0 f0 ?_
    refine go_getf (x := 52) (ci := 13) (kf := 16) (fin := 1) (t := 2) (by decide +kernel) (by decide +kernel) (by decide +kernel) R_52 f0 (fx_k (c := 13) R_52 (by decide +kernel)) fun v_56 f_57 => ?_
    have f_58 := q_is_eq (b := 83) f_57 (fx_v R_52 (by decide +kernel)).symm
    refine go_iload_n (n := 1) (by decide +kernel) l1 f1 ?_
    refine go_iconst (n := 0) (z := 0) (by decide +kernel) (by decide) fun v_59 f_60 => ?_
    obtain ⟨m_61, e_62, h⟩ := up_s h
    refine go_iast (kd := 100) (by decide +kernel) rfl R_52 f_58 f1 f_60 (fx_k (c := 100) R_52 (by decide +kernel)) (fx_x (a := 83) (ln := 30) R_52 (by decide +kernel) g_48) e_62 (fx_a R_52.2 (fx_k (c := 100) R_52 (by decide +kernel)) (And.left (fx_x (a := 83) (ln := 30) R_52 (by decide +kernel) g_48)) (by decide +kernel)) fun S_63 R_64 E_65 => ?_
    have E_67 := Ext.tr E_55 E_65
    refine go_aload_n (n := 0) (by decide +kernel) l0 f0 ?_
    refine go_iload_n (n := 1) (by decide +kernel) l1 f1 ?_
    refine go_iload_n (n := 2) (by decide +kernel) l2 f2 ?_
    obtain ⟨x_69, m_70, hc_68, h⟩ := bd_s h
    refine go_callV (x := 586) (mi := 250) (n := 2) (ci := 13) (as := [v1, v2]) (rest := []) (by decide +kernel) (by decide +kernel) rfl rfl (q_sum8 _ (Nat.le_of_ble_eq_true rfl)) R_64 f0 (fx_k (c := 13) R_64 (by decide +kernel)) (om_X12_isSafe (Nat.le_trans (by decide) hd) R_64 f0 f1 f2 hc_68) (fun _ S_73 q_76 => ?_) (fun _ _ qq => kr_x qq)
    refine kr_z (by decide) q_76 fun v_71 f_72 R_74 E_75 => ?_
    have E_79 := Ext.tr E_67 E_75
    obtain ⟨g_80, h⟩ := gd_s h
    cases h
    exact go_iret (by decide +kernel) rfl (Or.inr ⟨rfl, g_80⟩) f_72 (hQ E_79 _ _ R_74 (q_out_v (by decide) f_72))
  · have h := it_f hp_44 h
    refine go_iconst (n := 0) (z := 0) (by decide +kernel) (by decide) fun v_81 f_82 => ?_
    cases h
    exact go_iret (by decide +kernel) rfl (Or.inr ⟨rfl, by decide⟩) f_82 (hQ E_43 _ _ R_38 (q_out_v (by decide) f_82))
noncomputable def fj_X12_move_27 (y1 y2 s0 : Int) (m : MM) : Option (Int × MM) := if s0 = 0 then
fj_X12_move_50 y1 y2 1 m
else
bp (fm_X12_isAlive y1 m) fun x_21 =>
if x_21 = 0 then
fj_X12_move_50 y1 y2 2 m
else
fj_X12_move_50 y1 y2 0 m
set_option maxHeartbeats 4000000 in
theorem oj_X12_move_27 {xs : List Int32} {d : Nat} {S : QS} {L : QL} {Q : QO → QS → Prop} {m : MM} {y1 y2 s0 : Int} {v0 : Value} {v1 : Value} {v2 : Value} {w0 : Value}  {rz : Int} {rm : MM}
  (hd : 15 ≤ d) (R : Rp S m) (l0 : q_lo L 0 = some v0) (f0 : q_is 2 v0 68) (l1 : q_lo L 1 = some v1) (f1 : q_is 0 v1 y1) (l2 : q_lo L 2 = some v2) (f2 : q_is 0 v2 y2) (fs0 : q_is 0 w0 s0)
  (hQ : Ext m rm → ∀ o S1, Rp S1 rm → q_out 0 o rz → Q o S1)
  (h : fj_X12_move_27 y1 y2 s0 m = some (rz, rm)) : Go xs d qM_X12_move 27 L [w0] S Q := by
  unfold fj_X12_move_27 at h
  refine go_istore_n (n := 3) (by decide +kernel) (by decide +kernel) fs0 fun L_13 l_14 kp_15 => ?_
  have l_16 := kp_15 0 _ l0 (by decide) (Or.inl (by decide))
  have l_17 := kp_15 1 _ l1 (by decide) (Or.inl (by decide))
  have l_18 := kp_15 2 _ l2 (by decide) (Or.inr (q_is_cat f2 (Or.inl rfl)))
  refine go_aload_n (n := 0) (by decide +kernel) l_16 f0 ?_
  refine go_iload_n (n := 3) (by decide +kernel) l_14 fs0 ?_
  refine go_if (c := .ne) (o := 7) (t := 37) (P := ¬ (s0 = 0)) (by decide +kernel) (by decide +kernel) fs0 (Iff.rfl) (fun hp_19 => ?_) (fun hp_19 => ?_)
  · have h := it_f hp_19 h
    refine go_aload_n (n := 0) (by decide +kernel) l_16 f0 ?_
    refine go_iload_n (n := 1) (by decide +kernel) l_17 f1 ?_
    obtain ⟨x_21, hc_20, h⟩ := bp_s h
    refine go_callV (x := 561) (mi := 213) (n := 1) (ci := 13) (as := [v1]) (rest := [v0]) (by decide +kernel) (by decide +kernel) rfl rfl (q_sum8 _ (Nat.le_of_ble_eq_true rfl)) R f0 (fx_k (c := 13) R (by decide +kernel)) (om_X12_isAlive (Nat.le_trans (by decide) hd) R f0 f1 hc_20) (fun _ S_25 q_28 => ?_) (fun _ _ qq => kr_x qq)
    refine kr_z (by decide) q_28 fun v_23 f_24 R_26 E_27 => ?_
    refine go_if (c := .eq) (o := 7) (t := 49) (P := x_21 = 0) (by decide +kernel) (by decide +kernel) f_24 (Iff.rfl) (fun hp_29 => ?_) (fun hp_29 => ?_)
    · have h := it_t hp_29 h
      refine go_iconst (n := 2) (z := 2) (by decide +kernel) (by decide) fun v_30 f_31 => ?_
      exact oj_X12_move_50 hd R_26 l_16 f0 l_17 f1 l_18 f2 f_31 f0 hQ h
    · have h := it_f hp_29 h
      refine go_iconst (n := 0) (z := 0) (by decide +kernel) (by decide) fun v_83 f_84 => ?_
      refine go_goto (o := 4) (t := 50) (by decide +kernel) (by decide +kernel) ?_
      exact oj_X12_move_50 hd R_26 l_16 f0 l_17 f1 l_18 f2 f_84 f0 hQ h
  · have h := it_n hp_19 h
    refine go_iconst (n := 1) (z := 1) (by decide +kernel) (by decide) fun v_85 f_86 => ?_
    refine go_goto (o := 16) (t := 50) (by decide +kernel) (by decide +kernel) ?_
    exact oj_X12_move_50 hd R l_16 f0 l_17 f1 l_18 f2 f_86 f0 hQ h
noncomputable def fm_X12_move (p1 p2 : Int) (m0 : MM) : Option (Int × MM) := bp (fm_X12_isRun p1 m0) fun x_2 =>
if x_2 = 0 then
fj_X12_move_27 p1 p2 0 m0
else
gd (0 ≤ p1 ∧ p1 < 30) <| lx (m0 80 p1) fun x_94 =>
bp (fm_X12_isVersion x_94 p2 m0) fun x_97 =>
if x_97 = 0 then
fj_X12_move_27 p1 p2 0 m0
else
fj_X12_move_27 p1 p2 1 m0
set_option maxHeartbeats 4000000 in
theorem om_X12_move {xs : List Int32} {d : Nat} {S : QS} {m0 : MM} {p1 p2 : Int} {v0 : Value} {v1 : Value} {v2 : Value} {rz : Int} {rm : MM}
  (hd : 16 ≤ d) (R : Rp S m0) (f0 : q_is 2 v0 68) (f1 : q_is 0 v1 p1) (f2 : q_is 0 v2 p2)
  (h : fm_X12_move p1 p2 m0 = some (rz, rm)) : Mt xs d 296 [v0, v1, v2] S (Cr 0 m0 rm rz) := by
  obtain ⟨d, rfl⟩ : ∃ e, d = e + 1 := ⟨d - 1, by omega⟩
  have hd : 15 ≤ d := Nat.le_of_succ_le_succ hd
  refine Mt.of (M := qM_X12_move) rfl (by rw [sl_1 (q_is_cat f0 (Or.inr rfl)), sl_1 (q_is_cat f1 (Or.inl rfl)), sl_1 (q_is_cat f2 (Or.inl rfl)), sl_0]; decide) ?_
  rw [la_1 (q_is_cat f0 (Or.inr rfl)), la_1 (q_is_cat f1 (Or.inl rfl)), la_1 (q_is_cat f2 (Or.inl rfl)), la_0]
  obtain ⟨L, hL⟩ : ∃ L : QL, L = [(0, v0), (0 + 1, v1), (0 + 1 + 1, v2)] := ⟨_, rfl⟩
  rw [← hL]
  have l0 : q_lo L 0 = some v0 := by rw [hL]; rfl
  have l1 : q_lo L 1 = some v1 := by rw [hL]; rfl
  have l2 : q_lo L 2 = some v2 := by rw [hL]; rfl
  have hQ : Ext m0 rm → ∀ o S1, Rp S1 rm → q_out 0 o rz → (Cr 0 m0 rm rz) o S1 := fun a o S1 b e => ⟨b, a, e⟩
  unfold fm_X12_move at h
  refine go_aload_n (n := 0) (by decide +kernel) l0 f0 ?_
  refine go_iload_n (n := 1) (by decide +kernel) l1 f1 ?_
  obtain ⟨x_2, hc_1, h⟩ := bp_s h
  refine go_callV (x := 580) (mi := 193) (n := 1) (ci := 13) (as := [v1]) (rest := []) (by decide +kernel) (by decide +kernel) rfl rfl (q_sum8 _ (Nat.le_of_ble_eq_true rfl)) R f0 (fx_k (c := 13) R (by decide +kernel)) (om_X12_isRun (Nat.le_trans (by decide) hd) R f0 f1 hc_1) (fun _ S_6 q_9 => ?_) (fun _ _ qq => kr_x qq)
  refine kr_z (by decide) q_9 fun v_4 f_5 R_7 E_8 => ?_
  refine go_if (c := .eq) (o := 21) (t := 26) (P := x_2 = 0) (by decide +kernel) (by decide +kernel) f_5 (Iff.rfl) (fun hp_10 => ?_) (fun hp_10 => ?_)
  · have h := it_t hp_10 h
    refine go_iconst (n := 0) (z := 0) (by decide +kernel) (by decide) fun v_11 f_12 => ?_
    exact oj_X12_move_27 hd R_7 l0 f0 l1 f1 l2 f2 f_12 hQ h
  · have h := it_f hp_10 h
    refine go_aload_n (n := 0) (by decide +kernel) l0 f0 ?_
    refine go_aload_n (n := 0) (by decide +kernel) l0 f0 ?_
    refine go_getf (x := 43) (ci := 13) (kf := 13) (fin := 1) (t := 2) (by decide +kernel) (by decide +kernel) (by decide +kernel) R_7 f0 (fx_k (c := 13) R_7 (by decide +kernel)) fun v_87 f_88 => ?_
    have f_89 := q_is_eq (b := 80) f_88 (fx_v R_7 (by decide +kernel)).symm
    refine go_iload_n (n := 1) (by decide +kernel) l1 f1 ?_
    obtain ⟨g_92, h⟩ := gd_s h
    obtain ⟨x_94, e_95, h⟩ := lx_s h
    refine go_iald (kd := 100) (by decide +kernel) rfl R_7 f_89 f1 (fx_k (c := 100) R_7 (by decide +kernel)) (fx_x (a := 80) (ln := 30) R_7 (by decide +kernel) g_92) fun v_90 f_91 => ?_
    have f_93 := q_is_eq f_91 e_95
    refine go_iload_n (n := 2) (by decide +kernel) l2 f2 ?_
    obtain ⟨x_97, hc_96, h⟩ := bp_s h
    refine go_callV (x := 661) (mi := 294) (n := 2) (ci := 13) (as := [v_90, v2]) (rest := []) (by decide +kernel) (by decide +kernel) rfl rfl (q_sum8 _ (Nat.le_of_ble_eq_true rfl)) R_7 f0 (fx_k (c := 13) R_7 (by decide +kernel)) (om_X12_isVersion (Nat.le_trans (by decide) hd) R_7 f0 f_93 f2 hc_96) (fun _ S_101 q_104 => ?_) (fun _ _ qq => kr_x qq)
    refine kr_z (by decide) q_104 fun v_99 f_100 R_102 E_103 => ?_
    refine go_if (c := .eq) (o := 7) (t := 26) (P := x_97 = 0) (by decide +kernel) (by decide +kernel) f_100 (Iff.rfl) (fun hp_105 => ?_) (fun hp_105 => ?_)
    · have h := it_t hp_105 h
      refine go_iconst (n := 0) (z := 0) (by decide +kernel) (by decide) fun v_106 f_107 => ?_
      exact oj_X12_move_27 hd R_102 l0 f0 l1 f1 l2 f2 f_107 hQ h
    · have h := it_f hp_105 h
      refine go_iconst (n := 1) (z := 1) (by decide +kernel) (by decide) fun v_108 f_109 => ?_
      refine go_goto (o := 4) (t := 27) (by decide +kernel) (by decide +kernel) ?_
      exact oj_X12_move_27 hd R_102 l0 f0 l1 f1 l2 f2 f_109 hQ h
noncomputable def fl_X12_marks_2 (y1 : Int) (k28 : MM → Option (Int × MM)) : Nat → Int → MM → Option (Int × MM)
  | 0, _, _ => none
  | n + 1, y2, m => gd (0 ≤ y1 ∧ y1 < 30) <| lx (m 86 y1) fun x_15 =>
if w32 (Int.tdiv x_15 32) < y2 then
k28 m
else
gd (0 ≤ y2 ∧ y2 < 16384) <| up m 97 y2 0 fun m_28 =>
lx (w32 (y2 + 1)) fun x_40 =>
fl_X12_marks_2 y1 k28 n x_40 m_28
set_option maxHeartbeats 4000000 in
theorem ol_X12_marks_2 {xs : List Int32} {d : Nat} {Q : QO → QS → Prop} {mb : MM} {y1 : Int} {k28 : MM → Option (Int × MM)} {rz : Int} {rm : MM}
  (hd : 2 ≤ d)
  (hk28 : ∀ mq : MM, Ext mb mq → ∀ {Sq : QS} {Lq : QL} {u0 : Value} {u1 : Value}, k28 mq = some (rz, rm) → Rp Sq mq → q_lo Lq 0 = some u0 → q_is 2 u0 68 → q_lo Lq 1 = some u1 → q_is 0 u1 y1 → Go xs d qM_X12_marks 28 Lq [] Sq Q)
  (hQ : Ext mb rm → ∀ o S1, Rp S1 rm → q_out 9 o rz → Q o S1) :
  ∀ (n : Nat) {m : MM} {S : QS} {L : QL} {y2 : Int} {v0 : Value} {v1 : Value} {v2 : Value} , Ext mb m → fl_X12_marks_2 y1 k28 n y2 m = some (rz, rm) → Rp S m → q_lo L 0 = some v0 → q_is 2 v0 68 → q_lo L 1 = some v1 → q_is 0 v1 y1 → q_lo L 2 = some v2 → q_is 0 v2 y2 → Go xs d qM_X12_marks 2 L [] S Q := by
  intro n
  induction n with
  | zero => intro m S L y2 v0 v1 v2; intro E h R l0 f0 l1 f1 l2 f2; cases h
  | succ n ih0 =>
    intro m S L y2 v0 v1 v2; intro E h R l0 f0 l1 f1 l2 f2
    have ih : ∀ mq : MM, Ext mb mq → ∀ {z2 : Int} {Sq : QS} {Lq : QL} {u0 : Value} {u1 : Value} {u2 : Value}, fl_X12_marks_2 y1 k28 n z2 mq = some (rz, rm) → Rp Sq mq → q_lo Lq 0 = some u0 → q_is 2 u0 68 → q_lo Lq 1 = some u1 → q_is 0 u1 y1 → q_lo Lq 2 = some u2 → q_is 0 u2 z2 → Go xs d qM_X12_marks 2 Lq [] Sq Q := fun mq b => by intros; exact ih0 b ‹_› ‹_› ‹_› ‹_› ‹_› ‹_› ‹_› ‹_›
    unfold fl_X12_marks_2 at h
    refine go_iload_n (n := 2) (by decide +kernel) l2 f2 ?_
    refine go_aload_n (n := 0) (by decide +kernel) l0 f0 ?_
    refine go_getf (x := 61) (ci := 13) (kf := 19) (fin := 1) (t := 2) (by decide +kernel) (by decide +kernel) (by decide +kernel) R f0 (fx_k (c := 13) R (by decide +kernel)) fun v_8 f_9 => ?_
    have f_10 := q_is_eq (b := 86) f_9 (fx_v R (by decide +kernel)).symm
    refine go_iload_n (n := 1) (by decide +kernel) l1 f1 ?_
    obtain ⟨g_13, h⟩ := gd_s h
    obtain ⟨x_15, e_16, h⟩ := lx_s h
    refine go_iald (kd := 100) (by decide +kernel) rfl R f_10 f1 (fx_k (c := 100) R (by decide +kernel)) (fx_x (a := 86) (ln := 30) R (by decide +kernel) g_13) fun v_11 f_12 => ?_
    have f_14 := q_is_eq f_12 e_16
    refine go_bipush (n := 32) (z := 32) (by decide +kernel) (by decide) fun v_17 f_18 => ?_
    refine go_idiv (by decide +kernel) f_14 f_18 (by decide) fun v_19 f_20 => ?_
    refine go_icmp (c := .gt) (o := 16) (t := 28) (P := w32 (Int.tdiv x_15 32) < y2) (by decide +kernel) (by decide +kernel) f2 f_20 (Iff.rfl) (fun hp_21 => ?_) (fun hp_21 => ?_)
    · have h := it_t hp_21 h
      exact hk28 m E h R l0 f0 l1 f1
    · have h := it_f hp_21 h
      refine go_aload_n (n := 0) (by decide +kernel) l0 f0 ?_
      refine go_getf (x := 101) (ci := 13) (kf := 33) (fin := 1) (t := 2) (by decide +kernel) (by decide +kernel) (by decide +kernel) R f0 (fx_k (c := 13) R (by decide +kernel)) fun v_22 f_23 => ?_
      have f_24 := q_is_eq (b := 97) f_23 (fx_v R (by decide +kernel)).symm
      refine go_iload_n (n := 2) (by decide +kernel) l2 f2 ?_
      refine go_iconst (n := 0) (z := 0) (by decide +kernel) (by decide) fun v_25 f_26 => ?_
      obtain ⟨g_27, h⟩ := gd_s h
      obtain ⟨m_28, e_29, h⟩ := up_s h
      refine go_iast (kd := 100) (by decide +kernel) rfl R f_24 f2 f_26 (fx_k (c := 100) R (by decide +kernel)) (fx_x (a := 97) (ln := 16384) R (by decide +kernel) g_27) e_29 (fx_a R.2 (fx_k (c := 100) R (by decide +kernel)) (And.left (fx_x (a := 97) (ln := 16384) R (by decide +kernel) g_27)) (by decide +kernel)) fun S_30 R_31 E_32 => ?_
      have E_34 := Ext.tr E E_32
      refine go_iinc (n := 2) (c := 1) (c' := 1) (by decide +kernel) (by decide +kernel) l2 f2 (by decide) fun L_35 v_36 f_37 l_38 kp_39 => ?_
      obtain ⟨x_40, e_41, h⟩ := lx_s h
      have f_42 := q_is_eq f_37 e_41
      have l_43 := kp_39 0 _ l0 (by decide) (Or.inl (by decide))
      have l_44 := kp_39 1 _ l1 (by decide) (Or.inr (q_is_cat f1 (Or.inl rfl)))
      refine go_goto (o := (-23)) (t := 2) (by decide +kernel) (by decide +kernel) ?_
      exact ih m_28 E_34 h R_31 l_43 f0 l_44 f1 l_38 f_42
noncomputable def fj_X12_marks_68 (c : Int → MM → Option (Int × MM)) (y1 y2 : Int) (m : MM) : Option (Int × MM) := bp (fm_X12_xAt y1 y2 m) fun x_95 =>
lx (w32 (Int.tdiv x_95 32)) fun x_116 =>
gd (0 ≤ x_116 ∧ x_116 < 16384) <| lx (m 97 x_116) fun x_123 =>
up m 97 x_116 (iOr x_123 (iShl 1 (Int.tmod x_95 32))) fun m_135 =>
lx (w32 (y2 + 1)) fun x_147 =>
c x_147 m_135
set_option maxHeartbeats 4000000 in
theorem oj_X12_marks_68 {xs : List Int32} {d : Nat} {S : QS} {L : QL} {Q : QO → QS → Prop} {m : MM} {y1 y2 : Int} {v0 : Value} {v1 : Value} {v2 : Value}  {rz : Int} {rm : MM} {c : Int → MM → Option (Int × MM)} 
  (hd : 2 ≤ d) (R : Rp S m) (l0 : q_lo L 0 = some v0) (f0 : q_is 2 v0 68) (l1 : q_lo L 1 = some v1) (f1 : q_is 0 v1 y1) (l2 : q_lo L 2 = some v2) (f2 : q_is 0 v2 y2)
  (hc : ∀ mq : MM, Ext m mq → ∀ {z2 : Int} {Sq : QS} {Lq : QL} {u0 : Value} {u1 : Value} {u2 : Value}, c z2 mq = some (rz, rm) → Rp Sq mq → q_lo Lq 0 = some u0 → q_is 2 u0 68 → q_lo Lq 1 = some u1 → q_is 0 u1 y1 → q_lo Lq 2 = some u2 → q_is 0 u2 z2 → Go xs d qM_X12_marks 30 Lq [] Sq Q)
  (hQ : Ext m rm → ∀ o S1, Rp S1 rm → q_out 9 o rz → Q o S1)
  (h : fj_X12_marks_68 c y1 y2 m = some (rz, rm)) : Go xs d qM_X12_marks 68 L [] S Q := by
  unfold fj_X12_marks_68 at h
  refine go_aload_n (n := 0) (by decide +kernel) l0 f0 ?_
  refine go_iload_n (n := 1) (by decide +kernel) l1 f1 ?_
  refine go_iload_n (n := 2) (by decide +kernel) l2 f2 ?_
  obtain ⟨x_95, hc_94, h⟩ := bp_s h
  refine go_callV (x := 344) (mi := 206) (n := 2) (ci := 13) (as := [v1, v2]) (rest := []) (by decide +kernel) (by decide +kernel) rfl rfl (q_sum8 _ (Nat.le_of_ble_eq_true rfl)) R f0 (fx_k (c := 13) R (by decide +kernel)) (om_X12_xAt (Nat.le_trans (by decide) hd) R f0 f1 f2 hc_94) (fun _ S_99 q_102 => ?_) (fun _ _ qq => kr_x qq)
  refine kr_z (by decide) q_102 fun v_97 f_98 R_100 E_101 => ?_
  refine go_istore (n := 4) (by decide +kernel) (by decide +kernel) f_98 fun L_103 l_104 kp_105 => ?_
  have l_106 := kp_105 0 _ l0 (by decide) (Or.inl (by decide))
  have l_107 := kp_105 1 _ l1 (by decide) (Or.inl (by decide))
  have l_108 := kp_105 2 _ l2 (by decide) (Or.inl (by decide))
  refine go_aload_n (n := 0) (by decide +kernel) l_106 f0 ?_
  refine go_getf (x := 101) (ci := 13) (kf := 33) (fin := 1) (t := 2) (by decide +kernel) (by decide +kernel) (by decide +kernel) R_100 f0 (fx_k (c := 13) R_100 (by decide +kernel)) fun v_109 f_110 => ?_
  have f_111 := q_is_eq (b := 97) f_110 (fx_v R_100 (by decide +kernel)).symm
  refine go_iload (n := 4) (by decide +kernel) l_104 f_98 ?_
  refine go_bipush (n := 32) (z := 32) (by decide +kernel) (by decide) fun v_112 f_113 => ?_
  refine go_idiv (by decide +kernel) f_98 f_113 (by decide) fun v_114 f_115 => ?_
  obtain ⟨x_116, e_117, h⟩ := lx_s h
  have f_118 := q_is_eq f_115 e_117
  refine go_dup2 (by decide +kernel) f_118 (Or.inl rfl) f_111 (Or.inr rfl) ?_
  obtain ⟨g_121, h⟩ := gd_s h
  obtain ⟨x_123, e_124, h⟩ := lx_s h
  refine go_iald (kd := 100) (by decide +kernel) rfl R_100 f_111 f_118 (fx_k (c := 100) R_100 (by decide +kernel)) (fx_x (a := 97) (ln := 16384) R_100 (by decide +kernel) g_121) fun v_119 f_120 => ?_
  have f_122 := q_is_eq f_120 e_124
  refine go_iconst (n := 1) (z := 1) (by decide +kernel) (by decide) fun v_125 f_126 => ?_
  refine go_iload (n := 4) (by decide +kernel) l_104 f_98 ?_
  refine go_bipush (n := 32) (z := 32) (by decide +kernel) (by decide) fun v_127 f_128 => ?_
  refine go_irem (by decide +kernel) f_98 f_128 (by decide) fun v_129 f_130 => ?_
  refine go_ishl (by decide +kernel) f_126 f_130 fun v_131 f_132 => ?_
  refine go_ior (by decide +kernel) f_122 f_132 fun v_133 f_134 => ?_
  obtain ⟨m_135, e_136, h⟩ := up_s h
  refine go_iast (kd := 100) (by decide +kernel) rfl R_100 f_111 f_118 f_134 (fx_k (c := 100) R_100 (by decide +kernel)) (fx_x (a := 97) (ln := 16384) R_100 (by decide +kernel) g_121) e_136 (fx_a R_100.2 (fx_k (c := 100) R_100 (by decide +kernel)) (And.left (fx_x (a := 97) (ln := 16384) R_100 (by decide +kernel) g_121)) (by decide +kernel)) fun S_137 R_138 E_139 => ?_
  have E_141 := E_139
  refine go_iinc (n := 2) (c := 1) (c' := 1) (by decide +kernel) (by decide +kernel) l_108 f2 (by decide) fun L_142 v_143 f_144 l_145 kp_146 => ?_
  obtain ⟨x_147, e_148, h⟩ := lx_s h
  have f_149 := q_is_eq f_144 e_148
  have l_150 := kp_146 0 _ l_106 (by decide) (Or.inl (by decide))
  have l_151 := kp_146 1 _ l_107 (by decide) (Or.inr (q_is_cat f1 (Or.inl rfl)))
  refine go_goto (o := (-69)) (t := 30) (by decide +kernel) (by decide +kernel) ?_
  exact hc m_135 E_141 h R_138 l_150 f0 l_151 f1 l_145 f_149
noncomputable def fl_X12_marks_30 (y1 : Int) : Nat → Int → MM → Option (Int × MM)
  | 0, _, _ => none
  | n + 1, y2, m => gd (0 ≤ y1 ∧ y1 < 30) <| lx (m 86 y1) fun x_73 =>
if y2 < x_73 then
bp (fm_X12_kindAt y1 y2 m) fun x_77 =>
if x_77 = 1 then
fj_X12_marks_68 (fl_X12_marks_30 y1 n) y1 y2 m
else
if x_77 = 2 then
fj_X12_marks_68 (fl_X12_marks_30 y1 n) y1 y2 m
else
if x_77 = 3 then
fj_X12_marks_68 (fl_X12_marks_30 y1 n) y1 y2 m
else
if x_77 = 11 then
fj_X12_marks_68 (fl_X12_marks_30 y1 n) y1 y2 m
else
lx (w32 (y2 + 1)) fun x_166 =>
fl_X12_marks_30 y1 n x_166 m
else
some (0, m)
set_option maxHeartbeats 4000000 in
theorem ol_X12_marks_30 {xs : List Int32} {d : Nat} {Q : QO → QS → Prop} {mb : MM} {y1 : Int} {rz : Int} {rm : MM}
  (hd : 2 ≤ d)
  (hQ : Ext mb rm → ∀ o S1, Rp S1 rm → q_out 9 o rz → Q o S1) :
  ∀ (n : Nat) {m : MM} {S : QS} {L : QL} {y2 : Int} {v0 : Value} {v1 : Value} {v2 : Value} , Ext mb m → fl_X12_marks_30 y1 n y2 m = some (rz, rm) → Rp S m → q_lo L 0 = some v0 → q_is 2 v0 68 → q_lo L 1 = some v1 → q_is 0 v1 y1 → q_lo L 2 = some v2 → q_is 0 v2 y2 → Go xs d qM_X12_marks 30 L [] S Q := by
  intro n
  induction n with
  | zero => intro m S L y2 v0 v1 v2; intro E h R l0 f0 l1 f1 l2 f2; cases h
  | succ n ih0 =>
    intro m S L y2 v0 v1 v2; intro E h R l0 f0 l1 f1 l2 f2
    have ih : ∀ mq : MM, Ext mb mq → ∀ {z2 : Int} {Sq : QS} {Lq : QL} {u0 : Value} {u1 : Value} {u2 : Value}, fl_X12_marks_30 y1 n z2 mq = some (rz, rm) → Rp Sq mq → q_lo Lq 0 = some u0 → q_is 2 u0 68 → q_lo Lq 1 = some u1 → q_is 0 u1 y1 → q_lo Lq 2 = some u2 → q_is 0 u2 z2 → Go xs d qM_X12_marks 30 Lq [] Sq Q := fun mq b => by intros; exact ih0 b ‹_› ‹_› ‹_› ‹_› ‹_› ‹_› ‹_› ‹_›
    unfold fl_X12_marks_30 at h
    refine go_iload_n (n := 2) (by decide +kernel) l2 f2 ?_
    refine go_aload_n (n := 0) (by decide +kernel) l0 f0 ?_
    refine go_getf (x := 61) (ci := 13) (kf := 19) (fin := 1) (t := 2) (by decide +kernel) (by decide +kernel) (by decide +kernel) R f0 (fx_k (c := 13) R (by decide +kernel)) fun v_66 f_67 => ?_
    have f_68 := q_is_eq (b := 86) f_67 (fx_v R (by decide +kernel)).symm
    refine go_iload_n (n := 1) (by decide +kernel) l1 f1 ?_
    obtain ⟨g_71, h⟩ := gd_s h
    obtain ⟨x_73, e_74, h⟩ := lx_s h
    refine go_iald (kd := 100) (by decide +kernel) rfl R f_68 f1 (fx_k (c := 100) R (by decide +kernel)) (fx_x (a := 86) (ln := 30) R (by decide +kernel) g_71) fun v_69 f_70 => ?_
    have f_72 := q_is_eq f_70 e_74
    refine go_icmp (c := .ge) (o := 65) (t := 102) (P := ¬ (y2 < x_73)) (by decide +kernel) (by decide +kernel) f2 f_72 (Int.not_lt.symm) (fun hp_75 => ?_) (fun hp_75 => ?_)
    · have h := it_f hp_75 h
      cases h
      exact go_vret (by decide +kernel) rfl (hQ E _ _ R q_out_n)
    · have h := it_n hp_75 h
      refine go_aload_n (n := 0) (by decide +kernel) l0 f0 ?_
      refine go_iload_n (n := 1) (by decide +kernel) l1 f1 ?_
      refine go_iload_n (n := 2) (by decide +kernel) l2 f2 ?_
      obtain ⟨x_77, hc_76, h⟩ := bp_s h
      refine go_callV (x := 341) (mi := 204) (n := 2) (ci := 13) (as := [v1, v2]) (rest := []) (by decide +kernel) (by decide +kernel) rfl rfl (q_sum8 _ (Nat.le_of_ble_eq_true rfl)) R f0 (fx_k (c := 13) R (by decide +kernel)) (om_X12_kindAt (Nat.le_trans (by decide) hd) R f0 f1 f2 hc_76) (fun _ S_81 q_84 => ?_) (fun _ _ qq => kr_x qq)
      refine kr_z (by decide) q_84 fun v_79 f_80 R_82 E_83 => ?_
      refine go_istore_n (n := 3) (by decide +kernel) (by decide +kernel) f_80 fun L_85 l_86 kp_87 => ?_
      have l_88 := kp_87 0 _ l0 (by decide) (Or.inl (by decide))
      have l_89 := kp_87 1 _ l1 (by decide) (Or.inl (by decide))
      have l_90 := kp_87 2 _ l2 (by decide) (Or.inr (q_is_cat f2 (Or.inl rfl)))
      refine go_iload_n (n := 3) (by decide +kernel) l_86 f_80 ?_
      refine go_iconst (n := 1) (z := 1) (by decide +kernel) (by decide) fun v_91 f_92 => ?_
      refine go_icmp (c := .eq) (o := 19) (t := 68) (P := x_77 = 1) (by decide +kernel) (by decide +kernel) f_80 f_92 (Iff.rfl) (fun hp_93 => ?_) (fun hp_93 => ?_)
      · have h := it_t hp_93 h
        exact oj_X12_marks_68 hd R_82 l_88 f0 l_89 f1 l_90 f2 (fun mq b => ih mq (Ext.tr E b)) (fun b => hQ (Ext.tr E b)) h
      · have h := it_f hp_93 h
        refine go_iload_n (n := 3) (by decide +kernel) l_86 f_80 ?_
        refine go_iconst (n := 2) (z := 2) (by decide +kernel) (by decide) fun v_152 f_153 => ?_
        refine go_icmp (c := .eq) (o := 14) (t := 68) (P := x_77 = 2) (by decide +kernel) (by decide +kernel) f_80 f_153 (Iff.rfl) (fun hp_154 => ?_) (fun hp_154 => ?_)
        · have h := it_t hp_154 h
          exact oj_X12_marks_68 hd R_82 l_88 f0 l_89 f1 l_90 f2 (fun mq b => ih mq (Ext.tr E b)) (fun b => hQ (Ext.tr E b)) h
        · have h := it_f hp_154 h
          refine go_iload_n (n := 3) (by decide +kernel) l_86 f_80 ?_
          refine go_iconst (n := 3) (z := 3) (by decide +kernel) (by decide) fun v_155 f_156 => ?_
          refine go_icmp (c := .eq) (o := 9) (t := 68) (P := x_77 = 3) (by decide +kernel) (by decide +kernel) f_80 f_156 (Iff.rfl) (fun hp_157 => ?_) (fun hp_157 => ?_)
          · have h := it_t hp_157 h
            exact oj_X12_marks_68 hd R_82 l_88 f0 l_89 f1 l_90 f2 (fun mq b => ih mq (Ext.tr E b)) (fun b => hQ (Ext.tr E b)) h
          · have h := it_f hp_157 h
            refine go_iload_n (n := 3) (by decide +kernel) l_86 f_80 ?_
            refine go_bipush (n := 11) (z := 11) (by decide +kernel) (by decide) fun v_158 f_159 => ?_
            refine go_icmp (c := .ne) (o := 31) (t := 96) (P := ¬ (x_77 = 11)) (by decide +kernel) (by decide +kernel) f_80 f_159 (Iff.rfl) (fun hp_160 => ?_) (fun hp_160 => ?_)
            · have h := it_f hp_160 h
              refine go_iinc (n := 2) (c := 1) (c' := 1) (by decide +kernel) (by decide +kernel) l_90 f2 (by decide) fun L_161 v_162 f_163 l_164 kp_165 => ?_
              obtain ⟨x_166, e_167, h⟩ := lx_s h
              have f_168 := q_is_eq f_163 e_167
              have l_169 := kp_165 0 _ l_88 (by decide) (Or.inl (by decide))
              have l_170 := kp_165 1 _ l_89 (by decide) (Or.inr (q_is_cat f1 (Or.inl rfl)))
              refine go_goto (o := (-69)) (t := 30) (by decide +kernel) (by decide +kernel) ?_
              exact ih m E h R_82 l_169 f0 l_170 f1 l_164 f_168
            · have h := it_n hp_160 h
              exact oj_X12_marks_68 hd R_82 l_88 f0 l_89 f1 l_90 f2 (fun mq b => ih mq (Ext.tr E b)) (fun b => hQ (Ext.tr E b)) h
noncomputable def fm_X12_marks (p1 : Int) (m0 : MM) : Option (Int × MM) := fl_X12_marks_2 p1 (fun m_54 =>
fl_X12_marks_30 p1  BIG 0 m_54) BIG 0 m0
set_option maxHeartbeats 4000000 in
theorem om_X12_marks {xs : List Int32} {d : Nat} {S : QS} {m0 : MM} {p1 : Int} {v0 : Value} {v1 : Value} {rz : Int} {rm : MM}
  (hd : 3 ≤ d) (R : Rp S m0) (f0 : q_is 2 v0 68) (f1 : q_is 0 v1 p1)
  (h : fm_X12_marks p1 m0 = some (rz, rm)) : Mt xs d 297 [v0, v1] S (Cr 9 m0 rm rz) := by
  obtain ⟨d, rfl⟩ : ∃ e, d = e + 1 := ⟨d - 1, by omega⟩
  have hd : 2 ≤ d := Nat.le_of_succ_le_succ hd
  refine Mt.of (M := qM_X12_marks) rfl (by rw [sl_1 (q_is_cat f0 (Or.inr rfl)), sl_1 (q_is_cat f1 (Or.inl rfl)), sl_0]; decide) ?_
  rw [la_1 (q_is_cat f0 (Or.inr rfl)), la_1 (q_is_cat f1 (Or.inl rfl)), la_0]
  obtain ⟨L, hL⟩ : ∃ L : QL, L = [(0, v0), (0 + 1, v1)] := ⟨_, rfl⟩
  rw [← hL]
  have l0 : q_lo L 0 = some v0 := by rw [hL]; rfl
  have l1 : q_lo L 1 = some v1 := by rw [hL]; rfl
  have hQ : Ext m0 rm → ∀ o S1, Rp S1 rm → q_out 9 o rz → (Cr 9 m0 rm rz) o S1 := fun a o S1 b e => ⟨b, a, e⟩
  unfold fm_X12_marks at h
  refine go_iconst (n := 0) (z := 0) (by decide +kernel) (by decide) fun v_1 f_2 => ?_
  refine go_istore_n (n := 2) (by decide +kernel) (by decide +kernel) f_2 fun L_3 l_4 kp_5 => ?_
  have l_6 := kp_5 0 _ l0 (by decide) (Or.inl (by decide))
  have l_7 := kp_5 1 _ l1 (by decide) (Or.inr (q_is_cat f1 (Or.inl rfl)))
  refine ol_X12_marks_2 hd  ?_ hQ BIG (Ext.rf _) h R l_6 f0 l_7 f1 l_4 f_2
  intro m_54 E_55
  intro S_51 L_52 v_45 v_46
  intro h R_53 l_47 f_49 l_48 f_50
  have E_56 := E_55
  refine go_iconst (n := 0) (z := 0) (by decide +kernel) (by decide) fun v_59 f_60 => ?_
  refine go_istore_n (n := 2) (by decide +kernel) (by decide +kernel) f_60 fun L_61 l_62 kp_63 => ?_
  have l_64 := kp_63 0 _ l_47 (by decide) (Or.inl (by decide))
  have l_65 := kp_63 1 _ l_48 (by decide) (Or.inr (q_is_cat f_50 (Or.inl rfl)))
  refine ol_X12_marks_30 hd   (fun b => hQ (Ext.tr E_56 b)) BIG (Ext.rf _) h R_53 l_64 f_49 l_65 f_50 l_62 f_60
noncomputable def fm_X12_isBack (p1 : Int) (m0 : MM) : Option Int := gd (0 ≤ w32 (Int.tdiv p1 32) ∧ w32 (Int.tdiv p1 32) < 16384) <| lx (m0 97 (w32 (Int.tdiv p1 32))) fun x_12 =>
if iAnd (iShr x_12 (Int.tmod p1 32)) 1 = 1 then
some 1
else
some 0
set_option maxHeartbeats 4000000 in
theorem om_X12_isBack {xs : List Int32} {d : Nat} {S : QS} {m0 : MM} {p1 : Int} {v0 : Value} {v1 : Value} {rz : Int}
  (hd : 1 ≤ d) (R : Rp S m0) (f0 : q_is 2 v0 68) (f1 : q_is 0 v1 p1)
  (h : fm_X12_isBack p1 m0 = some rz) : Mt xs d 298 [v0, v1] S (Cr 0 m0 m0 rz) := by
  obtain ⟨d, rfl⟩ : ∃ e, d = e + 1 := ⟨d - 1, by omega⟩
  have hd : 0 ≤ d := Nat.le_of_succ_le_succ hd
  refine Mt.of (M := qM_X12_isBack) rfl (by rw [sl_1 (q_is_cat f0 (Or.inr rfl)), sl_1 (q_is_cat f1 (Or.inl rfl)), sl_0]; decide) ?_
  rw [la_1 (q_is_cat f0 (Or.inr rfl)), la_1 (q_is_cat f1 (Or.inl rfl)), la_0]
  obtain ⟨L, hL⟩ : ∃ L : QL, L = [(0, v0), (0 + 1, v1)] := ⟨_, rfl⟩
  rw [← hL]
  have l0 : q_lo L 0 = some v0 := by rw [hL]; rfl
  have l1 : q_lo L 1 = some v1 := by rw [hL]; rfl
  have hQ : ∀ o S1, Rp S1 m0 → q_out 0 o rz → (Cr 0 m0 m0 rz) o S1 := fun o S1 a b => ⟨a, Ext.rf _, b⟩
  unfold fm_X12_isBack at h
  refine go_aload_n (n := 0) (by decide +kernel) l0 f0 ?_
  refine go_getf (x := 101) (ci := 13) (kf := 33) (fin := 1) (t := 2) (by decide +kernel) (by decide +kernel) (by decide +kernel) R f0 (fx_k (c := 13) R (by decide +kernel)) fun v_1 f_2 => ?_
  have f_3 := q_is_eq (b := 97) f_2 (fx_v R (by decide +kernel)).symm
  refine go_iload_n (n := 1) (by decide +kernel) l1 f1 ?_
  refine go_bipush (n := 32) (z := 32) (by decide +kernel) (by decide) fun v_4 f_5 => ?_
  refine go_idiv (by decide +kernel) f1 f_5 (by decide) fun v_6 f_7 => ?_
  obtain ⟨g_10, h⟩ := gd_s h
  obtain ⟨x_12, e_13, h⟩ := lx_s h
  refine go_iald (kd := 100) (by decide +kernel) rfl R f_3 f_7 (fx_k (c := 100) R (by decide +kernel)) (fx_x (a := 97) (ln := 16384) R (by decide +kernel) g_10) fun v_8 f_9 => ?_
  have f_11 := q_is_eq f_9 e_13
  refine go_iload_n (n := 1) (by decide +kernel) l1 f1 ?_
  refine go_bipush (n := 32) (z := 32) (by decide +kernel) (by decide) fun v_14 f_15 => ?_
  refine go_irem (by decide +kernel) f1 f_15 (by decide) fun v_16 f_17 => ?_
  refine go_ishr (by decide +kernel) f_11 f_17 fun v_18 f_19 => ?_
  refine go_iconst (n := 1) (z := 1) (by decide +kernel) (by decide) fun v_20 f_21 => ?_
  refine go_iand (by decide +kernel) f_19 f_21 fun v_22 f_23 => ?_
  refine go_iconst (n := 1) (z := 1) (by decide +kernel) (by decide) fun v_24 f_25 => ?_
  refine go_icmp (c := .ne) (o := 7) (t := 24) (P := ¬ (iAnd (iShr x_12 (Int.tmod p1 32)) 1 = 1)) (by decide +kernel) (by decide +kernel) f_23 f_25 (Iff.rfl) (fun hp_26 => ?_) (fun hp_26 => ?_)
  · have h := it_f hp_26 h
    refine go_iconst (n := 0) (z := 0) (by decide +kernel) (by decide) fun v_27 f_28 => ?_
    cases h
    exact go_iret (by decide +kernel) rfl (Or.inr ⟨rfl, by decide⟩) f_28 (hQ _ _ R (q_out_v (by decide) f_28))
  · have h := it_n hp_26 h
    refine go_iconst (n := 1) (z := 1) (by decide +kernel) (by decide) fun v_29 f_30 => ?_
    refine go_goto (o := 4) (t := 25) (by decide +kernel) (by decide +kernel) ?_
    cases h
    exact go_iret (by decide +kernel) rfl (Or.inr ⟨rfl, by decide⟩) f_30 (hQ _ _ R (q_out_v (by decide) f_30))
noncomputable def fj_X12_beginsAnew_63 (c : Int → MM → Option (Int × MM)) (y1 y2 y3 y4 : Int) (m : MM) : Option (Int × MM) := if y4 = 9 then
bp (fm_X12_isBack y3 m) fun x_70 =>
if x_70 = 0 then
bp (fm_X12_whenAt y1 y3 m) fun x_91 =>
bp (fm_X12_xAt y1 y3 m) fun x_100 =>
lx (m 68 0) fun x_113 =>
bp (fm_X12_most (w32 (x_91 + x_100)) (w32 (x_113 + 1)) m) fun x_120 =>
bd (fm_X12_makesTimer y1 y3 x_120 m) fun x_129 m_130 =>
lx (w32 (y3 + 1)) fun x_145 =>
c x_145 m_130
else
lx (w32 (y3 + 1)) fun x_84 =>
c x_84 m
else
lx (w32 (y3 + 1)) fun x_63 =>
c x_63 m
set_option maxHeartbeats 4000000 in
theorem oj_X12_beginsAnew_63 {xs : List Int32} {d : Nat} {S : QS} {L : QL} {Q : QO → QS → Prop} {m : MM} {y1 y2 y3 y4 : Int} {v0 : Value} {v1 : Value} {v2 : Value} {v3 : Value} {v4 : Value}  {rz : Int} {rm : MM} {c : Int → MM → Option (Int × MM)} 
  (hd : 4 ≤ d) (R : Rp S m) (l0 : q_lo L 0 = some v0) (f0 : q_is 2 v0 68) (l1 : q_lo L 1 = some v1) (f1 : q_is 0 v1 y1) (l2 : q_lo L 2 = some v2) (f2 : q_is 0 v2 y2) (l3 : q_lo L 3 = some v3) (f3 : q_is 0 v3 y3) (l4 : q_lo L 4 = some v4) (f4 : q_is 0 v4 y4)
  (hc : ∀ mq : MM, Ext m mq → ∀ {z3 : Int} {Sq : QS} {Lq : QL} {u0 : Value} {u1 : Value} {u2 : Value} {u3 : Value}, c z3 mq = some (rz, rm) → Rp Sq mq → q_lo Lq 0 = some u0 → q_is 2 u0 68 → q_lo Lq 1 = some u1 → q_is 0 u1 y1 → q_lo Lq 2 = some u2 → q_is 0 u2 y2 → q_lo Lq 3 = some u3 → q_is 0 u3 z3 → Go xs d qM_X12_beginsAnew 14 Lq [] Sq Q)
  (hQ : Ext m rm → ∀ o S1, Rp S1 rm → q_out 9 o rz → Q o S1)
  (h : fj_X12_beginsAnew_63 c y1 y2 y3 y4 m = some (rz, rm)) : Go xs d qM_X12_beginsAnew 63 L [] S Q := by
  unfold fj_X12_beginsAnew_63 at h
  refine go_iload (n := 4) (by decide +kernel) l4 f4 ?_
  refine go_bipush (n := 9) (z := 9) (by decide +kernel) (by decide) fun v_55 f_56 => ?_
  refine go_icmp (c := .ne) (o := 39) (t := 106) (P := ¬ (y4 = 9)) (by decide +kernel) (by decide +kernel) f4 f_56 (Iff.rfl) (fun hp_57 => ?_) (fun hp_57 => ?_)
  · have h := it_f hp_57 h
    refine go_iinc (n := 3) (c := 1) (c' := 1) (by decide +kernel) (by decide +kernel) l3 f3 (by decide) fun L_58 v_59 f_60 l_61 kp_62 => ?_
    obtain ⟨x_63, e_64, h⟩ := lx_s h
    have f_65 := q_is_eq f_60 e_64
    have l_66 := kp_62 0 _ l0 (by decide) (Or.inl (by decide))
    have l_67 := kp_62 1 _ l1 (by decide) (Or.inl (by decide))
    have l_68 := kp_62 2 _ l2 (by decide) (Or.inr (q_is_cat f2 (Or.inl rfl)))
    refine go_goto (o := (-95)) (t := 14) (by decide +kernel) (by decide +kernel) ?_
    exact hc m (Ext.rf _) h R l_66 f0 l_67 f1 l_68 f2 l_61 f_65
  · have h := it_n hp_57 h
    refine go_aload_n (n := 0) (by decide +kernel) l0 f0 ?_
    refine go_iload_n (n := 3) (by decide +kernel) l3 f3 ?_
    obtain ⟨x_70, hc_69, h⟩ := bp_s h
    refine go_callV (x := 667) (mi := 298) (n := 1) (ci := 13) (as := [v3]) (rest := []) (by decide +kernel) (by decide +kernel) rfl rfl (q_sum8 _ (Nat.le_of_ble_eq_true rfl)) R f0 (fx_k (c := 13) R (by decide +kernel)) (om_X12_isBack (Nat.le_trans (by decide) hd) R f0 f3 hc_69) (fun _ S_74 q_77 => ?_) (fun _ _ qq => kr_x qq)
    refine kr_z (by decide) q_77 fun v_72 f_73 R_75 E_76 => ?_
    refine go_if (c := .ne) (o := 31) (t := 106) (P := ¬ (x_70 = 0)) (by decide +kernel) (by decide +kernel) f_73 (Iff.rfl) (fun hp_78 => ?_) (fun hp_78 => ?_)
    · have h := it_f hp_78 h
      refine go_iinc (n := 3) (c := 1) (c' := 1) (by decide +kernel) (by decide +kernel) l3 f3 (by decide) fun L_79 v_80 f_81 l_82 kp_83 => ?_
      obtain ⟨x_84, e_85, h⟩ := lx_s h
      have f_86 := q_is_eq f_81 e_85
      have l_87 := kp_83 0 _ l0 (by decide) (Or.inl (by decide))
      have l_88 := kp_83 1 _ l1 (by decide) (Or.inl (by decide))
      have l_89 := kp_83 2 _ l2 (by decide) (Or.inr (q_is_cat f2 (Or.inl rfl)))
      refine go_goto (o := (-95)) (t := 14) (by decide +kernel) (by decide +kernel) ?_
      exact hc m (Ext.rf _) h R_75 l_87 f0 l_88 f1 l_89 f2 l_82 f_86
    · have h := it_n hp_78 h
      refine go_aload_n (n := 0) (by decide +kernel) l0 f0 ?_
      refine go_iload_n (n := 1) (by decide +kernel) l1 f1 ?_
      refine go_iload_n (n := 3) (by decide +kernel) l3 f3 ?_
      refine go_aload_n (n := 0) (by decide +kernel) l0 f0 ?_
      refine go_iload_n (n := 1) (by decide +kernel) l1 f1 ?_
      refine go_iload_n (n := 3) (by decide +kernel) l3 f3 ?_
      obtain ⟨x_91, hc_90, h⟩ := bp_s h
      refine go_callV (x := 521) (mi := 207) (n := 2) (ci := 13) (as := [v1, v3]) (rest := [v3, v1, v0]) (by decide +kernel) (by decide +kernel) rfl rfl (q_sum8 _ (Nat.le_of_ble_eq_true rfl)) R_75 f0 (fx_k (c := 13) R_75 (by decide +kernel)) (om_X12_whenAt (Nat.le_trans (by decide) hd) R_75 f0 f1 f3 hc_90) (fun _ S_95 q_98 => ?_) (fun _ _ qq => kr_x qq)
      refine kr_z (by decide) q_98 fun v_93 f_94 R_96 E_97 => ?_
      refine go_aload_n (n := 0) (by decide +kernel) l0 f0 ?_
      refine go_iload_n (n := 1) (by decide +kernel) l1 f1 ?_
      refine go_iload_n (n := 3) (by decide +kernel) l3 f3 ?_
      obtain ⟨x_100, hc_99, h⟩ := bp_s h
      refine go_callV (x := 344) (mi := 206) (n := 2) (ci := 13) (as := [v1, v3]) (rest := [v_93, v3, v1, v0]) (by decide +kernel) (by decide +kernel) rfl rfl (q_sum8 _ (Nat.le_of_ble_eq_true rfl)) R_96 f0 (fx_k (c := 13) R_96 (by decide +kernel)) (om_X12_xAt (Nat.le_trans (by decide) hd) R_96 f0 f1 f3 hc_99) (fun _ S_104 q_107 => ?_) (fun _ _ qq => kr_x qq)
      refine kr_z (by decide) q_107 fun v_102 f_103 R_105 E_106 => ?_
      refine go_iadd (by decide +kernel) f_94 f_103 fun v_108 f_109 => ?_
      refine go_aload_n (n := 0) (by decide +kernel) l0 f0 ?_
      obtain ⟨x_113, e_114, h⟩ := lx_s h
      refine go_getf (x := 357) (ci := 13) (kf := 0) (fin := 0) (t := 0) (by decide +kernel) (by decide +kernel) (by decide +kernel) R_105 f0 (fx_k (c := 13) R_105 (by decide +kernel)) fun v_110 f_111 => ?_
      have f_112 := q_is_eq f_111 e_114
      refine go_iconst (n := 1) (z := 1) (by decide +kernel) (by decide) fun v_115 f_116 => ?_
      refine go_iadd (by decide +kernel) f_112 f_116 fun v_117 f_118 => ?_
      obtain ⟨x_120, hc_119, h⟩ := bp_s h
      refine go_callS (x := 338) (mi := 190) (n := 2) (b := 0) (as := [v_108, v_117]) (rest := [v3, v1, v0]) (by decide +kernel) (by decide +kernel) rfl rfl (q_sum8 _ (Nat.le_of_ble_eq_true rfl)) (om_X12_most (Nat.le_trans (by decide) hd) R_105 f_109 f_118 hc_119) (fun _ S_124 q_127 => ?_) (fun _ _ qq => kr_x qq)
      refine kr_z (by decide) q_127 fun v_122 f_123 R_125 E_126 => ?_
      obtain ⟨x_129, m_130, hc_128, h⟩ := bd_s h
      refine go_callV (x := 626) (mi := 252) (n := 3) (ci := 13) (as := [v1, v3, v_122]) (rest := []) (by decide +kernel) (by decide +kernel) rfl rfl (q_sum8 _ (Nat.le_of_ble_eq_true rfl)) R_125 f0 (fx_k (c := 13) R_125 (by decide +kernel)) (om_X12_makesTimer (Nat.le_trans (by decide) hd) R_125 f0 f1 f3 f_123 hc_128) (fun _ S_133 q_136 => ?_) (fun _ _ qq => kr_x qq)
      refine kr_v q_136 fun R_134 E_135 => ?_
      have E_139 := E_135
      refine go_iinc (n := 3) (c := 1) (c' := 1) (by decide +kernel) (by decide +kernel) l3 f3 (by decide) fun L_140 v_141 f_142 l_143 kp_144 => ?_
      obtain ⟨x_145, e_146, h⟩ := lx_s h
      have f_147 := q_is_eq f_142 e_146
      have l_148 := kp_144 0 _ l0 (by decide) (Or.inl (by decide))
      have l_149 := kp_144 1 _ l1 (by decide) (Or.inl (by decide))
      have l_150 := kp_144 2 _ l2 (by decide) (Or.inr (q_is_cat f2 (Or.inl rfl)))
      refine go_goto (o := (-95)) (t := 14) (by decide +kernel) (by decide +kernel) ?_
      exact hc m_130 E_139 h R_134 l_148 f0 l_149 f1 l_150 f2 l_143 f_147
noncomputable def fl_X12_beginsAnew_14 (y1 y2 : Int) : Nat → Int → MM → Option (Int × MM)
  | 0, _, _ => none
  | n + 1, y3, m => if y3 < y2 then
bp (fm_X12_kindAt y1 y3 m) fun x_37 =>
if x_37 = 8 then
bp (fm_X12_isBack y3 m) fun x_152 =>
if x_152 = 0 then
bp (fm_X12_xAt y1 y3 m) fun x_162 =>
bp (fm_X12_yAt y1 y3 m) fun x_171 =>
bd (fm_X12_makesActivity y1 y3 x_162 x_171 m) fun x_180 m_181 =>
lx (w32 (y3 + 1)) fun x_196 =>
fl_X12_beginsAnew_14 y1 y2 n x_196 m_181
else
fj_X12_beginsAnew_63 (fl_X12_beginsAnew_14 y1 y2 n) y1 y2 y3 x_37 m
else
fj_X12_beginsAnew_63 (fl_X12_beginsAnew_14 y1 y2 n) y1 y2 y3 x_37 m
else
some (0, m)
set_option maxHeartbeats 4000000 in
theorem ol_X12_beginsAnew_14 {xs : List Int32} {d : Nat} {Q : QO → QS → Prop} {mb : MM} {y1 y2 : Int} {rz : Int} {rm : MM}
  (hd : 4 ≤ d)
  (hQ : Ext mb rm → ∀ o S1, Rp S1 rm → q_out 9 o rz → Q o S1) :
  ∀ (n : Nat) {m : MM} {S : QS} {L : QL} {y3 : Int} {v0 : Value} {v1 : Value} {v2 : Value} {v3 : Value} , Ext mb m → fl_X12_beginsAnew_14 y1 y2 n y3 m = some (rz, rm) → Rp S m → q_lo L 0 = some v0 → q_is 2 v0 68 → q_lo L 1 = some v1 → q_is 0 v1 y1 → q_lo L 2 = some v2 → q_is 0 v2 y2 → q_lo L 3 = some v3 → q_is 0 v3 y3 → Go xs d qM_X12_beginsAnew 14 L [] S Q := by
  intro n
  induction n with
  | zero => intro m S L y3 v0 v1 v2 v3; intro E h R l0 f0 l1 f1 l2 f2 l3 f3; cases h
  | succ n ih0 =>
    intro m S L y3 v0 v1 v2 v3; intro E h R l0 f0 l1 f1 l2 f2 l3 f3
    have ih : ∀ mq : MM, Ext mb mq → ∀ {z3 : Int} {Sq : QS} {Lq : QL} {u0 : Value} {u1 : Value} {u2 : Value} {u3 : Value}, fl_X12_beginsAnew_14 y1 y2 n z3 mq = some (rz, rm) → Rp Sq mq → q_lo Lq 0 = some u0 → q_is 2 u0 68 → q_lo Lq 1 = some u1 → q_is 0 u1 y1 → q_lo Lq 2 = some u2 → q_is 0 u2 y2 → q_lo Lq 3 = some u3 → q_is 0 u3 z3 → Go xs d qM_X12_beginsAnew 14 Lq [] Sq Q := fun mq b => by intros; exact ih0 b ‹_› ‹_› ‹_› ‹_› ‹_› ‹_› ‹_› ‹_› ‹_› ‹_›
    unfold fl_X12_beginsAnew_14 at h
    refine go_iload_n (n := 3) (by decide +kernel) l3 f3 ?_
    refine go_iload_n (n := 2) (by decide +kernel) l2 f2 ?_
    refine go_icmp (c := .ge) (o := 96) (t := 112) (P := ¬ (y3 < y2)) (by decide +kernel) (by decide +kernel) f3 f2 (Int.not_lt.symm) (fun hp_35 => ?_) (fun hp_35 => ?_)
    · have h := it_f hp_35 h
      cases h
      exact go_vret (by decide +kernel) rfl (hQ E _ _ R q_out_n)
    · have h := it_n hp_35 h
      refine go_aload_n (n := 0) (by decide +kernel) l0 f0 ?_
      refine go_iload_n (n := 1) (by decide +kernel) l1 f1 ?_
      refine go_iload_n (n := 3) (by decide +kernel) l3 f3 ?_
      obtain ⟨x_37, hc_36, h⟩ := bp_s h
      refine go_callV (x := 341) (mi := 204) (n := 2) (ci := 13) (as := [v1, v3]) (rest := []) (by decide +kernel) (by decide +kernel) rfl rfl (q_sum8 _ (Nat.le_of_ble_eq_true rfl)) R f0 (fx_k (c := 13) R (by decide +kernel)) (om_X12_kindAt (Nat.le_trans (by decide) hd) R f0 f1 f3 hc_36) (fun _ S_41 q_44 => ?_) (fun _ _ qq => kr_x qq)
      refine kr_z (by decide) q_44 fun v_39 f_40 R_42 E_43 => ?_
      refine go_istore (n := 4) (by decide +kernel) (by decide +kernel) f_40 fun L_45 l_46 kp_47 => ?_
      have l_48 := kp_47 0 _ l0 (by decide) (Or.inl (by decide))
      have l_49 := kp_47 1 _ l1 (by decide) (Or.inl (by decide))
      have l_50 := kp_47 2 _ l2 (by decide) (Or.inl (by decide))
      have l_51 := kp_47 3 _ l3 (by decide) (Or.inr (q_is_cat f3 (Or.inl rfl)))
      refine go_iload (n := 4) (by decide +kernel) l_46 f_40 ?_
      refine go_bipush (n := 8) (z := 8) (by decide +kernel) (by decide) fun v_52 f_53 => ?_
      refine go_icmp (c := .ne) (o := 32) (t := 63) (P := ¬ (x_37 = 8)) (by decide +kernel) (by decide +kernel) f_40 f_53 (Iff.rfl) (fun hp_54 => ?_) (fun hp_54 => ?_)
      · have h := it_f hp_54 h
        exact oj_X12_beginsAnew_63 hd R_42 l_48 f0 l_49 f1 l_50 f2 l_51 f3 l_46 f_40 (fun mq b => ih mq (Ext.tr E b)) (fun b => hQ (Ext.tr E b)) h
      · have h := it_n hp_54 h
        refine go_aload_n (n := 0) (by decide +kernel) l_48 f0 ?_
        refine go_iload_n (n := 3) (by decide +kernel) l_51 f3 ?_
        obtain ⟨x_152, hc_151, h⟩ := bp_s h
        refine go_callV (x := 667) (mi := 298) (n := 1) (ci := 13) (as := [v3]) (rest := []) (by decide +kernel) (by decide +kernel) rfl rfl (q_sum8 _ (Nat.le_of_ble_eq_true rfl)) R_42 f0 (fx_k (c := 13) R_42 (by decide +kernel)) (om_X12_isBack (Nat.le_trans (by decide) hd) R_42 f0 f3 hc_151) (fun _ S_156 q_159 => ?_) (fun _ _ qq => kr_x qq)
        refine kr_z (by decide) q_159 fun v_154 f_155 R_157 E_158 => ?_
        refine go_if (c := .ne) (o := 24) (t := 63) (P := ¬ (x_152 = 0)) (by decide +kernel) (by decide +kernel) f_155 (Iff.rfl) (fun hp_160 => ?_) (fun hp_160 => ?_)
        · have h := it_f hp_160 h
          exact oj_X12_beginsAnew_63 hd R_157 l_48 f0 l_49 f1 l_50 f2 l_51 f3 l_46 f_40 (fun mq b => ih mq (Ext.tr E b)) (fun b => hQ (Ext.tr E b)) h
        · have h := it_n hp_160 h
          refine go_aload_n (n := 0) (by decide +kernel) l_48 f0 ?_
          refine go_iload_n (n := 1) (by decide +kernel) l_49 f1 ?_
          refine go_iload_n (n := 3) (by decide +kernel) l_51 f3 ?_
          refine go_aload_n (n := 0) (by decide +kernel) l_48 f0 ?_
          refine go_iload_n (n := 1) (by decide +kernel) l_49 f1 ?_
          refine go_iload_n (n := 3) (by decide +kernel) l_51 f3 ?_
          obtain ⟨x_162, hc_161, h⟩ := bp_s h
          refine go_callV (x := 344) (mi := 206) (n := 2) (ci := 13) (as := [v1, v3]) (rest := [v3, v1, v0]) (by decide +kernel) (by decide +kernel) rfl rfl (q_sum8 _ (Nat.le_of_ble_eq_true rfl)) R_157 f0 (fx_k (c := 13) R_157 (by decide +kernel)) (om_X12_xAt (Nat.le_trans (by decide) hd) R_157 f0 f1 f3 hc_161) (fun _ S_166 q_169 => ?_) (fun _ _ qq => kr_x qq)
          refine kr_z (by decide) q_169 fun v_164 f_165 R_167 E_168 => ?_
          refine go_aload_n (n := 0) (by decide +kernel) l_48 f0 ?_
          refine go_iload_n (n := 1) (by decide +kernel) l_49 f1 ?_
          refine go_iload_n (n := 3) (by decide +kernel) l_51 f3 ?_
          obtain ⟨x_171, hc_170, h⟩ := bp_s h
          refine go_callV (x := 397) (mi := 205) (n := 2) (ci := 13) (as := [v1, v3]) (rest := [v_164, v3, v1, v0]) (by decide +kernel) (by decide +kernel) rfl rfl (q_sum8 _ (Nat.le_of_ble_eq_true rfl)) R_167 f0 (fx_k (c := 13) R_167 (by decide +kernel)) (om_X12_yAt (Nat.le_trans (by decide) hd) R_167 f0 f1 f3 hc_170) (fun _ S_175 q_178 => ?_) (fun _ _ qq => kr_x qq)
          refine kr_z (by decide) q_178 fun v_173 f_174 R_176 E_177 => ?_
          obtain ⟨x_180, m_181, hc_179, h⟩ := bd_s h
          refine go_callV (x := 623) (mi := 251) (n := 4) (ci := 13) (as := [v1, v3, v_164, v_173]) (rest := []) (by decide +kernel) (by decide +kernel) rfl rfl (q_sum8 _ (Nat.le_of_ble_eq_true rfl)) R_176 f0 (fx_k (c := 13) R_176 (by decide +kernel)) (om_X12_makesActivity (Nat.le_trans (by decide) hd) R_176 f0 f1 f3 f_165 f_174 hc_179) (fun _ S_184 q_187 => ?_) (fun _ _ qq => kr_x qq)
          refine kr_v q_187 fun R_185 E_186 => ?_
          have E_190 := Ext.tr E E_186
          refine go_goto (o := 46) (t := 106) (by decide +kernel) (by decide +kernel) ?_
          refine go_iinc (n := 3) (c := 1) (c' := 1) (by decide +kernel) (by decide +kernel) l_51 f3 (by decide) fun L_191 v_192 f_193 l_194 kp_195 => ?_
          obtain ⟨x_196, e_197, h⟩ := lx_s h
          have f_198 := q_is_eq f_193 e_197
          have l_199 := kp_195 0 _ l_48 (by decide) (Or.inl (by decide))
          have l_200 := kp_195 1 _ l_49 (by decide) (Or.inl (by decide))
          have l_201 := kp_195 2 _ l_50 (by decide) (Or.inr (q_is_cat f2 (Or.inl rfl)))
          refine go_goto (o := (-95)) (t := 14) (by decide +kernel) (by decide +kernel) ?_
          exact ih m_181 E_190 h R_185 l_199 f0 l_200 f1 l_201 f2 l_194 f_198
noncomputable def fm_X12_beginsAnew (p1 : Int) (m0 : MM) : Option (Int × MM) := gd (0 ≤ p1 ∧ p1 < 30) <| lx (m0 86 p1) fun x_8 =>
bd (fm_X12_marks p1 m0) fun x_16 m_17 =>
fl_X12_beginsAnew_14 p1 x_8  BIG 0 m_17
set_option maxHeartbeats 4000000 in
theorem om_X12_beginsAnew {xs : List Int32} {d : Nat} {S : QS} {m0 : MM} {p1 : Int} {v0 : Value} {v1 : Value} {rz : Int} {rm : MM}
  (hd : 5 ≤ d) (R : Rp S m0) (f0 : q_is 2 v0 68) (f1 : q_is 0 v1 p1)
  (h : fm_X12_beginsAnew p1 m0 = some (rz, rm)) : Mt xs d 299 [v0, v1] S (Cr 9 m0 rm rz) := by
  obtain ⟨d, rfl⟩ : ∃ e, d = e + 1 := ⟨d - 1, by omega⟩
  have hd : 4 ≤ d := Nat.le_of_succ_le_succ hd
  refine Mt.of (M := qM_X12_beginsAnew) rfl (by rw [sl_1 (q_is_cat f0 (Or.inr rfl)), sl_1 (q_is_cat f1 (Or.inl rfl)), sl_0]; decide) ?_
  rw [la_1 (q_is_cat f0 (Or.inr rfl)), la_1 (q_is_cat f1 (Or.inl rfl)), la_0]
  obtain ⟨L, hL⟩ : ∃ L : QL, L = [(0, v0), (0 + 1, v1)] := ⟨_, rfl⟩
  rw [← hL]
  have l0 : q_lo L 0 = some v0 := by rw [hL]; rfl
  have l1 : q_lo L 1 = some v1 := by rw [hL]; rfl
  have hQ : Ext m0 rm → ∀ o S1, Rp S1 rm → q_out 9 o rz → (Cr 9 m0 rm rz) o S1 := fun a o S1 b e => ⟨b, a, e⟩
  unfold fm_X12_beginsAnew at h
  refine go_aload_n (n := 0) (by decide +kernel) l0 f0 ?_
  refine go_getf (x := 61) (ci := 13) (kf := 19) (fin := 1) (t := 2) (by decide +kernel) (by decide +kernel) (by decide +kernel) R f0 (fx_k (c := 13) R (by decide +kernel)) fun v_1 f_2 => ?_
  have f_3 := q_is_eq (b := 86) f_2 (fx_v R (by decide +kernel)).symm
  refine go_iload_n (n := 1) (by decide +kernel) l1 f1 ?_
  obtain ⟨g_6, h⟩ := gd_s h
  obtain ⟨x_8, e_9, h⟩ := lx_s h
  refine go_iald (kd := 100) (by decide +kernel) rfl R f_3 f1 (fx_k (c := 100) R (by decide +kernel)) (fx_x (a := 86) (ln := 30) R (by decide +kernel) g_6) fun v_4 f_5 => ?_
  have f_7 := q_is_eq f_5 e_9
  refine go_istore_n (n := 2) (by decide +kernel) (by decide +kernel) f_7 fun L_10 l_11 kp_12 => ?_
  have l_13 := kp_12 0 _ l0 (by decide) (Or.inl (by decide))
  have l_14 := kp_12 1 _ l1 (by decide) (Or.inr (q_is_cat f1 (Or.inl rfl)))
  refine go_aload_n (n := 0) (by decide +kernel) l_13 f0 ?_
  refine go_iload_n (n := 1) (by decide +kernel) l_14 f1 ?_
  obtain ⟨x_16, m_17, hc_15, h⟩ := bd_s h
  refine go_callV (x := 664) (mi := 297) (n := 1) (ci := 13) (as := [v1]) (rest := []) (by decide +kernel) (by decide +kernel) rfl rfl (q_sum8 _ (Nat.le_of_ble_eq_true rfl)) R f0 (fx_k (c := 13) R (by decide +kernel)) (om_X12_marks (Nat.le_trans (by decide) hd) R f0 f1 hc_15) (fun _ S_20 q_23 => ?_) (fun _ _ qq => kr_x qq)
  refine kr_v q_23 fun R_21 E_22 => ?_
  have E_26 := E_22
  refine go_iconst (n := 0) (z := 0) (by decide +kernel) (by decide) fun v_27 f_28 => ?_
  refine go_istore_n (n := 3) (by decide +kernel) (by decide +kernel) f_28 fun L_29 l_30 kp_31 => ?_
  have l_32 := kp_31 0 _ l_13 (by decide) (Or.inl (by decide))
  have l_33 := kp_31 1 _ l_14 (by decide) (Or.inl (by decide))
  have l_34 := kp_31 2 _ l_11 (by decide) (Or.inr (q_is_cat f_7 (Or.inl rfl)))
  refine ol_X12_beginsAnew_14 hd   (fun b => hQ (Ext.tr E_26 b)) BIG (Ext.rf _) h R_21 l_32 f0 l_33 f1 l_34 f_7 l_30 f_28
end DF44
