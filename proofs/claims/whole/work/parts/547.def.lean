/-! Methods as functions (written by wip/whole/dec.py), 47: X12_togglePause, X12_backfill, X12_shift, X12_bringIn, X12_search, L_line. -/
section DF47
noncomputable def fj_X12_togglePause_14 (y1 s0 : Int) (m : MM) : Option (Int × MM) := bd (fm_X12_fails s0 m) fun x_14 m_15 =>
if x_14 = 0 then
gd (0 ≤ y1 ∧ y1 < 4) <| lx (m_15 133 y1) fun x_34 =>
if x_34 = 0 then
up m_15 133 y1 1 fun m_56 =>
lx (m_56 133 y1) fun x_68 =>
gd (x_68 = 0 ∨ x_68 = 1) <| some (x_68, m_56)
else
up m_15 133 y1 0 fun m_39 =>
lx (m_39 133 y1) fun x_51 =>
gd (x_51 = 0 ∨ x_51 = 1) <| some (x_51, m_39)
else
some (0, m_15)
set_option maxHeartbeats 4000000 in
theorem oj_X12_togglePause_14 {xs : List Int32} {d : Nat} {S : QS} {L : QL} {Q : QO → QS → Prop} {m : MM} {y1 s0 : Int} {v0 : Value} {v1 : Value} {w0 : Value} {w1 : Value}  {rz : Int} {rm : MM}
  (hd : 2 ≤ d) (R : Rp S m) (l0 : q_lo L 0 = some v0) (f0 : q_is 2 v0 68) (l1 : q_lo L 1 = some v1) (f1 : q_is 0 v1 y1) (fs0 : q_is 0 w0 s0) (fs1 : q_is 2 w1 68)
  (hQ : Ext m rm → ∀ o S1, Rp S1 rm → q_out 0 o rz → Q o S1)
  (h : fj_X12_togglePause_14 y1 s0 m = some (rz, rm)) : Go xs d qM_X12_togglePause 14 L [w0, w1] S Q := by
  unfold fj_X12_togglePause_14 at h
  obtain ⟨x_14, m_15, hc_13, h⟩ := bd_s h
  refine go_callV (x := 324) (mi := 186) (n := 1) (ci := 13) (as := [w0]) (rest := []) (by decide +kernel) (by decide +kernel) rfl rfl (q_sum8 _ (Nat.le_of_ble_eq_true rfl)) R fs1 (fx_k (c := 13) R (by decide +kernel)) (om_X12_fails (Nat.le_trans (by decide) hd) R fs1 fs0 hc_13) (fun _ S_18 q_21 => ?_) (fun _ _ qq => kr_x qq)
  refine kr_z (by decide) q_21 fun v_16 f_17 R_19 E_20 => ?_
  have E_22 := E_20
  refine go_if (c := .eq) (o := 5) (t := 22) (P := x_14 = 0) (by decide +kernel) (by decide +kernel) f_17 (Iff.rfl) (fun hp_23 => ?_) (fun hp_23 => ?_)
  · have h := it_t hp_23 h
    refine go_aload_n (n := 0) (by decide +kernel) l0 f0 ?_
    refine go_getf (x := 213) (ci := 13) (kf := 75) (fin := 1) (t := 2) (by decide +kernel) (by decide +kernel) (by decide +kernel) R_19 f0 (fx_k (c := 13) R_19 (by decide +kernel)) fun v_24 f_25 => ?_
    have f_26 := q_is_eq (b := 133) f_25 (fx_v R_19 (by decide +kernel)).symm
    refine go_iload_n (n := 1) (by decide +kernel) l1 f1 ?_
    refine go_aload_n (n := 0) (by decide +kernel) l0 f0 ?_
    refine go_getf (x := 213) (ci := 13) (kf := 75) (fin := 1) (t := 2) (by decide +kernel) (by decide +kernel) (by decide +kernel) R_19 f0 (fx_k (c := 13) R_19 (by decide +kernel)) fun v_27 f_28 => ?_
    have f_29 := q_is_eq (b := 133) f_28 (fx_v R_19 (by decide +kernel)).symm
    refine go_iload_n (n := 1) (by decide +kernel) l1 f1 ?_
    obtain ⟨g_32, h⟩ := gd_s h
    obtain ⟨x_34, e_35, h⟩ := lx_s h
    refine go_bald (kd := 102) (by decide +kernel) rfl R_19 f_29 f1 (fx_k (c := 102) R_19 (by decide +kernel)) (fx_x (a := 133) (ln := 4) R_19 (by decide +kernel) g_32) fun v_30 f_31 => ?_
    have f_33 := q_is_eq f_31 e_35
    refine go_if (c := .ne) (o := 7) (t := 40) (P := ¬ (x_34 = 0)) (by decide +kernel) (by decide +kernel) f_33 (Iff.rfl) (fun hp_36 => ?_) (fun hp_36 => ?_)
    · have h := it_f hp_36 h
      refine go_iconst (n := 0) (z := 0) (by decide +kernel) (by decide) fun v_37 f_38 => ?_
      obtain ⟨m_39, e_40, h⟩ := up_s h
      refine go_bast (kd := 102) (by decide +kernel) rfl R_19 f_26 f1 f_38 (by decide) (fx_k (c := 102) R_19 (by decide +kernel)) (fx_x (a := 133) (ln := 4) R_19 (by decide +kernel) g_32) e_40 (fx_a R_19.2 (fx_k (c := 102) R_19 (by decide +kernel)) (And.left (fx_x (a := 133) (ln := 4) R_19 (by decide +kernel) g_32)) (by decide +kernel)) fun S_41 R_42 E_43 => ?_
      have E_44 := Ext.tr E_22 E_43
      refine go_aload_n (n := 0) (by decide +kernel) l0 f0 ?_
      refine go_getf (x := 213) (ci := 13) (kf := 75) (fin := 1) (t := 2) (by decide +kernel) (by decide +kernel) (by decide +kernel) R_42 f0 (fx_k (c := 13) R_42 (by decide +kernel)) fun v_45 f_46 => ?_
      have f_47 := q_is_eq (b := 133) f_46 (fx_v R_42 (by decide +kernel)).symm
      refine go_iload_n (n := 1) (by decide +kernel) l1 f1 ?_
      obtain ⟨x_51, e_52, h⟩ := lx_s h
      refine go_bald (kd := 102) (by decide +kernel) rfl R_42 f_47 f1 (fx_k (c := 102) R_42 (by decide +kernel)) (fx_x (a := 133) (ln := 4) R_42 (by decide +kernel) g_32) fun v_48 f_49 => ?_
      have f_50 := q_is_eq f_49 e_52
      obtain ⟨g_53, h⟩ := gd_s h
      cases h
      exact go_iret (by decide +kernel) rfl (Or.inr ⟨rfl, g_53⟩) f_50 (hQ E_44 _ _ R_42 (q_out_v (by decide) f_50))
    · have h := it_n hp_36 h
      refine go_iconst (n := 1) (z := 1) (by decide +kernel) (by decide) fun v_54 f_55 => ?_
      refine go_goto (o := 4) (t := 41) (by decide +kernel) (by decide +kernel) ?_
      obtain ⟨m_56, e_57, h⟩ := up_s h
      refine go_bast (kd := 102) (by decide +kernel) rfl R_19 f_26 f1 f_55 (by decide) (fx_k (c := 102) R_19 (by decide +kernel)) (fx_x (a := 133) (ln := 4) R_19 (by decide +kernel) g_32) e_57 (fx_a R_19.2 (fx_k (c := 102) R_19 (by decide +kernel)) (And.left (fx_x (a := 133) (ln := 4) R_19 (by decide +kernel) g_32)) (by decide +kernel)) fun S_58 R_59 E_60 => ?_
      have E_61 := Ext.tr E_22 E_60
      refine go_aload_n (n := 0) (by decide +kernel) l0 f0 ?_
      refine go_getf (x := 213) (ci := 13) (kf := 75) (fin := 1) (t := 2) (by decide +kernel) (by decide +kernel) (by decide +kernel) R_59 f0 (fx_k (c := 13) R_59 (by decide +kernel)) fun v_62 f_63 => ?_
      have f_64 := q_is_eq (b := 133) f_63 (fx_v R_59 (by decide +kernel)).symm
      refine go_iload_n (n := 1) (by decide +kernel) l1 f1 ?_
      obtain ⟨x_68, e_69, h⟩ := lx_s h
      refine go_bald (kd := 102) (by decide +kernel) rfl R_59 f_64 f1 (fx_k (c := 102) R_59 (by decide +kernel)) (fx_x (a := 133) (ln := 4) R_59 (by decide +kernel) g_32) fun v_65 f_66 => ?_
      have f_67 := q_is_eq f_66 e_69
      obtain ⟨g_70, h⟩ := gd_s h
      cases h
      exact go_iret (by decide +kernel) rfl (Or.inr ⟨rfl, g_70⟩) f_67 (hQ E_61 _ _ R_59 (q_out_v (by decide) f_67))
  · have h := it_f hp_23 h
    refine go_iconst (n := 0) (z := 0) (by decide +kernel) (by decide) fun v_71 f_72 => ?_
    cases h
    exact go_iret (by decide +kernel) rfl (Or.inr ⟨rfl, by decide⟩) f_72 (hQ E_22 _ _ R_19 (q_out_v (by decide) f_72))
noncomputable def fm_X12_togglePause (p1 : Int) (m0 : MM) : Option (Int × MM) := bp (fm_X12_isSchedule p1 m0) fun x_2 =>
if x_2 = 0 then
fj_X12_togglePause_14 p1 1 m0
else
fj_X12_togglePause_14 p1 0 m0
set_option maxHeartbeats 4000000 in
theorem om_X12_togglePause {xs : List Int32} {d : Nat} {S : QS} {m0 : MM} {p1 : Int} {v0 : Value} {v1 : Value} {rz : Int} {rm : MM}
  (hd : 3 ≤ d) (R : Rp S m0) (f0 : q_is 2 v0 68) (f1 : q_is 0 v1 p1)
  (h : fm_X12_togglePause p1 m0 = some (rz, rm)) : Mt xs d 313 [v0, v1] S (Cr 0 m0 rm rz) := by
  obtain ⟨d, rfl⟩ : ∃ e, d = e + 1 := ⟨d - 1, by omega⟩
  have hd : 2 ≤ d := Nat.le_of_succ_le_succ hd
  refine Mt.of (M := qM_X12_togglePause) rfl (by rw [sl_1 (q_is_cat f0 (Or.inr rfl)), sl_1 (q_is_cat f1 (Or.inl rfl)), sl_0]; decide) ?_
  rw [la_1 (q_is_cat f0 (Or.inr rfl)), la_1 (q_is_cat f1 (Or.inl rfl)), la_0]
  obtain ⟨L, hL⟩ : ∃ L : QL, L = [(0, v0), (0 + 1, v1)] := ⟨_, rfl⟩
  rw [← hL]
  have l0 : q_lo L 0 = some v0 := by rw [hL]; rfl
  have l1 : q_lo L 1 = some v1 := by rw [hL]; rfl
  have hQ : Ext m0 rm → ∀ o S1, Rp S1 rm → q_out 0 o rz → (Cr 0 m0 rm rz) o S1 := fun a o S1 b e => ⟨b, a, e⟩
  unfold fm_X12_togglePause at h
  refine go_aload_n (n := 0) (by decide +kernel) l0 f0 ?_
  refine go_aload_n (n := 0) (by decide +kernel) l0 f0 ?_
  refine go_iload_n (n := 1) (by decide +kernel) l1 f1 ?_
  obtain ⟨x_2, hc_1, h⟩ := bp_s h
  refine go_callV (x := 709) (mi := 306) (n := 1) (ci := 13) (as := [v1]) (rest := [v0]) (by decide +kernel) (by decide +kernel) rfl rfl (q_sum8 _ (Nat.le_of_ble_eq_true rfl)) R f0 (fx_k (c := 13) R (by decide +kernel)) (om_X12_isSchedule (Nat.le_trans (by decide) hd) R f0 f1 hc_1) (fun _ S_6 q_9 => ?_) (fun _ _ qq => kr_x qq)
  refine kr_z (by decide) q_9 fun v_4 f_5 R_7 E_8 => ?_
  refine go_if (c := .eq) (o := 7) (t := 13) (P := x_2 = 0) (by decide +kernel) (by decide +kernel) f_5 (Iff.rfl) (fun hp_10 => ?_) (fun hp_10 => ?_)
  · have h := it_t hp_10 h
    refine go_iconst (n := 1) (z := 1) (by decide +kernel) (by decide) fun v_11 f_12 => ?_
    exact oj_X12_togglePause_14 hd R_7 l0 f0 l1 f1 f_12 f0 hQ h
  · have h := it_f hp_10 h
    refine go_iconst (n := 0) (z := 0) (by decide +kernel) (by decide) fun v_73 f_74 => ?_
    refine go_goto (o := 4) (t := 14) (by decide +kernel) (by decide +kernel) ?_
    exact oj_X12_togglePause_14 hd R_7 l0 f0 l1 f1 f_74 f0 hQ h
noncomputable def fl_X12_backfill_77 (y1 y3 : Int) : Nat → Int → Int → MM → Option (Int × MM)
  | 0, _, _, _ => none
  | n + 1, y4, y5, m => if y3 < y5 then
some (y4, m)
else
gd (0 ≤ y1 ∧ y1 < 4) <| lx (m 130 y1) fun x_114 =>
bp (fm_X12_ofThousand (w32 (y5 * x_114)) m) fun x_119 =>
bd (fm_X12_beginsFor y1 x_119 m) fun x_128 m_129 =>
if x_128 = (-1) then
lx (w32 (y4 + 0)) fun x_170 =>
lx (w32 (y5 + 1)) fun x_185 =>
fl_X12_backfill_77 y1 y3 n x_170 x_185 m_129
else
lx (w32 (y4 + 1)) fun x_144 =>
lx (w32 (y5 + 1)) fun x_159 =>
fl_X12_backfill_77 y1 y3 n x_144 x_159 m_129
set_option maxHeartbeats 4000000 in
theorem ol_X12_backfill_77 {xs : List Int32} {d : Nat} {Q : QO → QS → Prop} {mb : MM} {y1 y3 : Int} {rz : Int} {rm : MM}
  (hd : 5 ≤ d)
  (hQ : Ext mb rm → ∀ o S1, Rp S1 rm → q_out 0 o rz → Q o S1) :
  ∀ (n : Nat) {m : MM} {S : QS} {L : QL} {y4 y5 : Int} {v0 : Value} {v1 : Value} {v3 : Value} {v4 : Value} {v5 : Value} , Ext mb m → fl_X12_backfill_77 y1 y3 n y4 y5 m = some (rz, rm) → Rp S m → q_lo L 0 = some v0 → q_is 2 v0 68 → q_lo L 1 = some v1 → q_is 0 v1 y1 → q_lo L 3 = some v3 → q_is 0 v3 y3 → q_lo L 4 = some v4 → q_is 0 v4 y4 → q_lo L 5 = some v5 → q_is 0 v5 y5 → Go xs d qM_X12_backfill 77 L [] S Q := by
  intro n
  induction n with
  | zero => intro m S L y4 y5 v0 v1 v3 v4 v5; intro E h R l0 f0 l1 f1 l3 f3 l4 f4 l5 f5; cases h
  | succ n ih0 =>
    intro m S L y4 y5 v0 v1 v3 v4 v5; intro E h R l0 f0 l1 f1 l3 f3 l4 f4 l5 f5
    have ih : ∀ mq : MM, Ext mb mq → ∀ {z4 : Int} {z5 : Int} {Sq : QS} {Lq : QL} {u0 : Value} {u1 : Value} {u3 : Value} {u4 : Value} {u5 : Value}, fl_X12_backfill_77 y1 y3 n z4 z5 mq = some (rz, rm) → Rp Sq mq → q_lo Lq 0 = some u0 → q_is 2 u0 68 → q_lo Lq 1 = some u1 → q_is 0 u1 y1 → q_lo Lq 3 = some u3 → q_is 0 u3 y3 → q_lo Lq 4 = some u4 → q_is 0 u4 z4 → q_lo Lq 5 = some u5 → q_is 0 u5 z5 → Go xs d qM_X12_backfill 77 Lq [] Sq Q := fun mq b => by intros; exact ih0 b ‹_› ‹_› ‹_› ‹_› ‹_› ‹_› ‹_› ‹_› ‹_› ‹_› ‹_› ‹_›
    unfold fl_X12_backfill_77 at h
    refine go_iload (n := 5) (by decide +kernel) l5 f5 ?_
    refine go_iload_n (n := 3) (by decide +kernel) l3 f3 ?_
    refine go_icmp (c := .gt) (o := 40) (t := 120) (P := y3 < y5) (by decide +kernel) (by decide +kernel) f5 f3 (Iff.rfl) (fun hp_106 => ?_) (fun hp_106 => ?_)
    · have h := it_t hp_106 h
      refine go_iload (n := 4) (by decide +kernel) l4 f4 ?_
      cases h
      exact go_iret (by decide +kernel) rfl (Or.inl rfl) f4 (hQ E _ _ R (q_out_v (by decide) f4))
    · have h := it_f hp_106 h
      refine go_iload (n := 4) (by decide +kernel) l4 f4 ?_
      refine go_aload_n (n := 0) (by decide +kernel) l0 f0 ?_
      refine go_iload_n (n := 1) (by decide +kernel) l1 f1 ?_
      refine go_iload (n := 5) (by decide +kernel) l5 f5 ?_
      refine go_aload_n (n := 0) (by decide +kernel) l0 f0 ?_
      refine go_getf (x := 204) (ci := 13) (kf := 72) (fin := 1) (t := 2) (by decide +kernel) (by decide +kernel) (by decide +kernel) R f0 (fx_k (c := 13) R (by decide +kernel)) fun v_107 f_108 => ?_
      have f_109 := q_is_eq (b := 130) f_108 (fx_v R (by decide +kernel)).symm
      refine go_iload_n (n := 1) (by decide +kernel) l1 f1 ?_
      obtain ⟨g_112, h⟩ := gd_s h
      obtain ⟨x_114, e_115, h⟩ := lx_s h
      refine go_iald (kd := 100) (by decide +kernel) rfl R f_109 f1 (fx_k (c := 100) R (by decide +kernel)) (fx_x (a := 130) (ln := 4) R (by decide +kernel) g_112) fun v_110 f_111 => ?_
      have f_113 := q_is_eq f_111 e_115
      refine go_imul (by decide +kernel) f5 f_113 fun v_116 f_117 => ?_
      obtain ⟨x_119, hc_118, h⟩ := bp_s h
      refine go_callS (x := 703) (mi := 195) (n := 1) (b := 0) (as := [v_116]) (rest := [v1, v0, v4]) (by decide +kernel) (by decide +kernel) rfl rfl (q_sum8 _ (Nat.le_of_ble_eq_true rfl)) (om_X12_ofThousand (Nat.le_trans (by decide) hd) R f_117 hc_118) (fun _ S_123 q_126 => ?_) (fun _ _ qq => kr_x qq)
      refine kr_z (by decide) q_126 fun v_121 f_122 R_124 E_125 => ?_
      obtain ⟨x_128, m_129, hc_127, h⟩ := bd_s h
      refine go_callV (x := 694) (mi := 308) (n := 2) (ci := 13) (as := [v1, v_121]) (rest := [v4]) (by decide +kernel) (by decide +kernel) rfl rfl (q_sum8 _ (Nat.le_of_ble_eq_true rfl)) R_124 f0 (fx_k (c := 13) R_124 (by decide +kernel)) (om_X12_beginsFor (Nat.le_trans (by decide) hd) R_124 f0 f1 f_122 hc_127) (fun _ S_132 q_135 => ?_) (fun _ _ qq => kr_x qq)
      refine kr_z (by decide) q_135 fun v_130 f_131 R_133 E_134 => ?_
      have E_136 := Ext.tr E E_134
      refine go_iconst (n := (-1)) (z := (-1)) (by decide +kernel) (by decide) fun v_137 f_138 => ?_
      refine go_icmp (c := .ne) (o := 7) (t := 110) (P := ¬ (x_128 = (-1))) (by decide +kernel) (by decide +kernel) f_131 f_138 (Iff.rfl) (fun hp_139 => ?_) (fun hp_139 => ?_)
      · have h := it_f hp_139 h
        refine go_iconst (n := 1) (z := 1) (by decide +kernel) (by decide) fun v_140 f_141 => ?_
        refine go_iadd (by decide +kernel) f4 f_141 fun v_142 f_143 => ?_
        obtain ⟨x_144, e_145, h⟩ := lx_s h
        have f_146 := q_is_eq f_143 e_145
        refine go_istore (n := 4) (by decide +kernel) (by decide +kernel) f_146 fun L_147 l_148 kp_149 => ?_
        have l_150 := kp_149 0 _ l0 (by decide) (Or.inl (by decide))
        have l_151 := kp_149 1 _ l1 (by decide) (Or.inl (by decide))
        have l_152 := kp_149 3 _ l3 (by decide) (Or.inr (q_is_cat f3 (Or.inl rfl)))
        have l_153 := kp_149 5 _ l5 (by decide) (Or.inl (by decide))
        refine go_iinc (n := 5) (c := 1) (c' := 1) (by decide +kernel) (by decide +kernel) l_153 f5 (by decide) fun L_154 v_155 f_156 l_157 kp_158 => ?_
        obtain ⟨x_159, e_160, h⟩ := lx_s h
        have f_161 := q_is_eq f_156 e_160
        have l_162 := kp_158 0 _ l_150 (by decide) (Or.inl (by decide))
        have l_163 := kp_158 1 _ l_151 (by decide) (Or.inl (by decide))
        have l_164 := kp_158 3 _ l_152 (by decide) (Or.inl (by decide))
        have l_165 := kp_158 4 _ l_148 (by decide) (Or.inr (q_is_cat f_146 (Or.inl rfl)))
        refine go_goto (o := (-40)) (t := 77) (by decide +kernel) (by decide +kernel) ?_
        exact ih m_129 E_136 h R_133 l_162 f0 l_163 f1 l_164 f3 l_165 f_146 l_157 f_161
      · have h := it_n hp_139 h
        refine go_iconst (n := 0) (z := 0) (by decide +kernel) (by decide) fun v_166 f_167 => ?_
        refine go_goto (o := 4) (t := 111) (by decide +kernel) (by decide +kernel) ?_
        refine go_iadd (by decide +kernel) f4 f_167 fun v_168 f_169 => ?_
        obtain ⟨x_170, e_171, h⟩ := lx_s h
        have f_172 := q_is_eq f_169 e_171
        refine go_istore (n := 4) (by decide +kernel) (by decide +kernel) f_172 fun L_173 l_174 kp_175 => ?_
        have l_176 := kp_175 0 _ l0 (by decide) (Or.inl (by decide))
        have l_177 := kp_175 1 _ l1 (by decide) (Or.inl (by decide))
        have l_178 := kp_175 3 _ l3 (by decide) (Or.inr (q_is_cat f3 (Or.inl rfl)))
        have l_179 := kp_175 5 _ l5 (by decide) (Or.inl (by decide))
        refine go_iinc (n := 5) (c := 1) (c' := 1) (by decide +kernel) (by decide +kernel) l_179 f5 (by decide) fun L_180 v_181 f_182 l_183 kp_184 => ?_
        obtain ⟨x_185, e_186, h⟩ := lx_s h
        have f_187 := q_is_eq f_182 e_186
        have l_188 := kp_184 0 _ l_176 (by decide) (Or.inl (by decide))
        have l_189 := kp_184 1 _ l_177 (by decide) (Or.inl (by decide))
        have l_190 := kp_184 3 _ l_178 (by decide) (Or.inl (by decide))
        have l_191 := kp_184 4 _ l_174 (by decide) (Or.inr (q_is_cat f_172 (Or.inl rfl)))
        refine go_goto (o := (-40)) (t := 77) (by decide +kernel) (by decide +kernel) ?_
        exact ih m_129 E_136 h R_133 l_188 f0 l_189 f1 l_190 f3 l_191 f_172 l_183 f_187
noncomputable def fj_X12_backfill_62 (y1 y2 s0 : Int) (m : MM) : Option (Int × MM) := bp (fm_X12_most 1 (w32 ((w32 (s0 - y2)) + 1)) m) fun x_91 =>
fl_X12_backfill_77 y1 s0  BIG 0 x_91 m
set_option maxHeartbeats 4000000 in
theorem oj_X12_backfill_62 {xs : List Int32} {d : Nat} {S : QS} {L : QL} {Q : QO → QS → Prop} {m : MM} {y1 y2 s0 : Int} {v0 : Value} {v1 : Value} {v2 : Value} {w0 : Value}  {rz : Int} {rm : MM}
  (hd : 5 ≤ d) (R : Rp S m) (l0 : q_lo L 0 = some v0) (f0 : q_is 2 v0 68) (l1 : q_lo L 1 = some v1) (f1 : q_is 0 v1 y1) (l2 : q_lo L 2 = some v2) (f2 : q_is 0 v2 y2) (fs0 : q_is 0 w0 s0)
  (hQ : Ext m rm → ∀ o S1, Rp S1 rm → q_out 0 o rz → Q o S1)
  (h : fj_X12_backfill_62 y1 y2 s0 m = some (rz, rm)) : Go xs d qM_X12_backfill 62 L [w0] S Q := by
  unfold fj_X12_backfill_62 at h
  refine go_istore_n (n := 3) (by decide +kernel) (by decide +kernel) fs0 fun L_67 l_68 kp_69 => ?_
  have l_70 := kp_69 0 _ l0 (by decide) (Or.inl (by decide))
  have l_71 := kp_69 1 _ l1 (by decide) (Or.inl (by decide))
  have l_72 := kp_69 2 _ l2 (by decide) (Or.inr (q_is_cat f2 (Or.inl rfl)))
  refine go_iconst (n := 0) (z := 0) (by decide +kernel) (by decide) fun v_73 f_74 => ?_
  refine go_istore (n := 4) (by decide +kernel) (by decide +kernel) f_74 fun L_75 l_76 kp_77 => ?_
  have l_78 := kp_77 0 _ l_70 (by decide) (Or.inl (by decide))
  have l_79 := kp_77 1 _ l_71 (by decide) (Or.inl (by decide))
  have l_80 := kp_77 2 _ l_72 (by decide) (Or.inl (by decide))
  have l_81 := kp_77 3 _ l_68 (by decide) (Or.inr (q_is_cat fs0 (Or.inl rfl)))
  refine go_iconst (n := 1) (z := 1) (by decide +kernel) (by decide) fun v_82 f_83 => ?_
  refine go_iload_n (n := 3) (by decide +kernel) l_81 fs0 ?_
  refine go_iload_n (n := 2) (by decide +kernel) l_80 f2 ?_
  refine go_isub (by decide +kernel) fs0 f2 fun v_84 f_85 => ?_
  refine go_iconst (n := 1) (z := 1) (by decide +kernel) (by decide) fun v_86 f_87 => ?_
  refine go_iadd (by decide +kernel) f_85 f_87 fun v_88 f_89 => ?_
  obtain ⟨x_91, hc_90, h⟩ := bp_s h
  refine go_callS (x := 338) (mi := 190) (n := 2) (b := 0) (as := [v_82, v_88]) (rest := []) (by decide +kernel) (by decide +kernel) rfl rfl (q_sum8 _ (Nat.le_of_ble_eq_true rfl)) (om_X12_most (Nat.le_trans (by decide) hd) R f_83 f_89 hc_90) (fun _ S_95 q_98 => ?_) (fun _ _ qq => kr_x qq)
  refine kr_z (by decide) q_98 fun v_93 f_94 R_96 E_97 => ?_
  refine go_istore (n := 5) (by decide +kernel) (by decide +kernel) f_94 fun L_99 l_100 kp_101 => ?_
  have l_102 := kp_101 0 _ l_78 (by decide) (Or.inl (by decide))
  have l_103 := kp_101 1 _ l_79 (by decide) (Or.inl (by decide))
  have l_104 := kp_101 3 _ l_81 (by decide) (Or.inl (by decide))
  have l_105 := kp_101 4 _ l_76 (by decide) (Or.inr (q_is_cat f_74 (Or.inl rfl)))
  refine ol_X12_backfill_77 hd   hQ BIG (Ext.rf _) h R_96 l_102 f0 l_103 f1 l_104 fs0 l_105 f_74 l_100 f_94
noncomputable def fj_X12_backfill_27 (y1 y2 s0 : Int) (m : MM) : Option (Int × MM) := bd (fm_X12_fails s0 m) fun x_28 m_29 =>
if x_28 = 0 then
gd (0 ≤ y1 ∧ y1 < 4) <| lx (m_29 132 y1) fun x_45 =>
if x_45 < 1 then
fj_X12_backfill_62 y1 y2 0 m_29
else
lx (m_29 130 y1) fun x_62 =>
gd (x_62 ≠ 0) <| fj_X12_backfill_62 y1 y2 (w32 (Int.tdiv x_45 x_62)) m_29
else
some (0, m_29)
set_option maxHeartbeats 4000000 in
theorem oj_X12_backfill_27 {xs : List Int32} {d : Nat} {S : QS} {L : QL} {Q : QO → QS → Prop} {m : MM} {y1 y2 s0 : Int} {v0 : Value} {v1 : Value} {v2 : Value} {w0 : Value} {w1 : Value}  {rz : Int} {rm : MM}
  (hd : 5 ≤ d) (R : Rp S m) (l0 : q_lo L 0 = some v0) (f0 : q_is 2 v0 68) (l1 : q_lo L 1 = some v1) (f1 : q_is 0 v1 y1) (l2 : q_lo L 2 = some v2) (f2 : q_is 0 v2 y2) (fs0 : q_is 0 w0 s0) (fs1 : q_is 2 w1 68)
  (hQ : Ext m rm → ∀ o S1, Rp S1 rm → q_out 0 o rz → Q o S1)
  (h : fj_X12_backfill_27 y1 y2 s0 m = some (rz, rm)) : Go xs d qM_X12_backfill 27 L [w0, w1] S Q := by
  unfold fj_X12_backfill_27 at h
  obtain ⟨x_28, m_29, hc_27, h⟩ := bd_s h
  refine go_callV (x := 324) (mi := 186) (n := 1) (ci := 13) (as := [w0]) (rest := []) (by decide +kernel) (by decide +kernel) rfl rfl (q_sum8 _ (Nat.le_of_ble_eq_true rfl)) R fs1 (fx_k (c := 13) R (by decide +kernel)) (om_X12_fails (Nat.le_trans (by decide) hd) R fs1 fs0 hc_27) (fun _ S_32 q_35 => ?_) (fun _ _ qq => kr_x qq)
  refine kr_z (by decide) q_35 fun v_30 f_31 R_33 E_34 => ?_
  have E_36 := E_34
  refine go_if (c := .eq) (o := 5) (t := 35) (P := x_28 = 0) (by decide +kernel) (by decide +kernel) f_31 (Iff.rfl) (fun hp_37 => ?_) (fun hp_37 => ?_)
  · have h := it_t hp_37 h
    refine go_aload_n (n := 0) (by decide +kernel) l0 f0 ?_
    refine go_getf (x := 210) (ci := 13) (kf := 74) (fin := 1) (t := 2) (by decide +kernel) (by decide +kernel) (by decide +kernel) R_33 f0 (fx_k (c := 13) R_33 (by decide +kernel)) fun v_38 f_39 => ?_
    have f_40 := q_is_eq (b := 132) f_39 (fx_v R_33 (by decide +kernel)).symm
    refine go_iload_n (n := 1) (by decide +kernel) l1 f1 ?_
    obtain ⟨g_43, h⟩ := gd_s h
    obtain ⟨x_45, e_46, h⟩ := lx_s h
    refine go_iald (kd := 100) (by decide +kernel) rfl R_33 f_40 f1 (fx_k (c := 100) R_33 (by decide +kernel)) (fx_x (a := 132) (ln := 4) R_33 (by decide +kernel) g_43) fun v_41 f_42 => ?_
    have f_44 := q_is_eq f_42 e_46
    refine go_iconst (n := 1) (z := 1) (by decide +kernel) (by decide) fun v_47 f_48 => ?_
    refine go_icmp (c := .ge) (o := 7) (t := 49) (P := ¬ (x_45 < 1)) (by decide +kernel) (by decide +kernel) f_44 f_48 (Int.not_lt.symm) (fun hp_49 => ?_) (fun hp_49 => ?_)
    · have h := it_f hp_49 h
      refine go_aload_n (n := 0) (by decide +kernel) l0 f0 ?_
      refine go_getf (x := 210) (ci := 13) (kf := 74) (fin := 1) (t := 2) (by decide +kernel) (by decide +kernel) (by decide +kernel) R_33 f0 (fx_k (c := 13) R_33 (by decide +kernel)) fun v_50 f_51 => ?_
      have f_52 := q_is_eq (b := 132) f_51 (fx_v R_33 (by decide +kernel)).symm
      refine go_iload_n (n := 1) (by decide +kernel) l1 f1 ?_
      refine go_iald (kd := 100) (by decide +kernel) rfl R_33 f_52 f1 (fx_k (c := 100) R_33 (by decide +kernel)) (fx_x (a := 132) (ln := 4) R_33 (by decide +kernel) g_43) fun v_53 f_54 => ?_
      have f_55 := q_is_eq f_54 e_46
      refine go_aload_n (n := 0) (by decide +kernel) l0 f0 ?_
      refine go_getf (x := 204) (ci := 13) (kf := 72) (fin := 1) (t := 2) (by decide +kernel) (by decide +kernel) (by decide +kernel) R_33 f0 (fx_k (c := 13) R_33 (by decide +kernel)) fun v_56 f_57 => ?_
      have f_58 := q_is_eq (b := 130) f_57 (fx_v R_33 (by decide +kernel)).symm
      refine go_iload_n (n := 1) (by decide +kernel) l1 f1 ?_
      obtain ⟨x_62, e_63, h⟩ := lx_s h
      refine go_iald (kd := 100) (by decide +kernel) rfl R_33 f_58 f1 (fx_k (c := 100) R_33 (by decide +kernel)) (fx_x (a := 130) (ln := 4) R_33 (by decide +kernel) g_43) fun v_59 f_60 => ?_
      have f_61 := q_is_eq f_60 e_63
      obtain ⟨g_66, h⟩ := gd_s h
      refine go_idiv (by decide +kernel) f_55 f_61 g_66 fun v_64 f_65 => ?_
      exact oj_X12_backfill_62 hd R_33 l0 f0 l1 f1 l2 f2 f_65 (fun b => hQ (Ext.tr E_36 b)) h
    · have h := it_n hp_49 h
      refine go_iconst (n := 0) (z := 0) (by decide +kernel) (by decide) fun v_192 f_193 => ?_
      refine go_goto (o := 16) (t := 62) (by decide +kernel) (by decide +kernel) ?_
      exact oj_X12_backfill_62 hd R_33 l0 f0 l1 f1 l2 f2 f_193 (fun b => hQ (Ext.tr E_36 b)) h
  · have h := it_f hp_37 h
    refine go_iconst (n := 0) (z := 0) (by decide +kernel) (by decide) fun v_194 f_195 => ?_
    cases h
    exact go_iret (by decide +kernel) rfl (Or.inl rfl) f_195 (hQ E_36 _ _ R_33 (q_out_v (by decide) f_195))
noncomputable def fm_X12_backfill (p1 p2 : Int) (m0 : MM) : Option (Int × MM) := bp (fm_X12_isSchedule p1 m0) fun x_2 =>
if x_2 = 0 then
fj_X12_backfill_27 p1 p2 1 m0
else
bp (fm_X12_isIn p2 1 5 m0) fun x_16 =>
if x_16 = 0 then
fj_X12_backfill_27 p1 p2 2 m0
else
fj_X12_backfill_27 p1 p2 0 m0
set_option maxHeartbeats 4000000 in
theorem om_X12_backfill {xs : List Int32} {d : Nat} {S : QS} {m0 : MM} {p1 p2 : Int} {v0 : Value} {v1 : Value} {v2 : Value} {rz : Int} {rm : MM}
  (hd : 6 ≤ d) (R : Rp S m0) (f0 : q_is 2 v0 68) (f1 : q_is 0 v1 p1) (f2 : q_is 0 v2 p2)
  (h : fm_X12_backfill p1 p2 m0 = some (rz, rm)) : Mt xs d 314 [v0, v1, v2] S (Cr 0 m0 rm rz) := by
  obtain ⟨d, rfl⟩ : ∃ e, d = e + 1 := ⟨d - 1, by omega⟩
  have hd : 5 ≤ d := Nat.le_of_succ_le_succ hd
  refine Mt.of (M := qM_X12_backfill) rfl (by rw [sl_1 (q_is_cat f0 (Or.inr rfl)), sl_1 (q_is_cat f1 (Or.inl rfl)), sl_1 (q_is_cat f2 (Or.inl rfl)), sl_0]; decide) ?_
  rw [la_1 (q_is_cat f0 (Or.inr rfl)), la_1 (q_is_cat f1 (Or.inl rfl)), la_1 (q_is_cat f2 (Or.inl rfl)), la_0]
  obtain ⟨L, hL⟩ : ∃ L : QL, L = [(0, v0), (0 + 1, v1), (0 + 1 + 1, v2)] := ⟨_, rfl⟩
  rw [← hL]
  have l0 : q_lo L 0 = some v0 := by rw [hL]; rfl
  have l1 : q_lo L 1 = some v1 := by rw [hL]; rfl
  have l2 : q_lo L 2 = some v2 := by rw [hL]; rfl
  have hQ : Ext m0 rm → ∀ o S1, Rp S1 rm → q_out 0 o rz → (Cr 0 m0 rm rz) o S1 := fun a o S1 b e => ⟨b, a, e⟩
  unfold fm_X12_backfill at h
  refine go_aload_n (n := 0) (by decide +kernel) l0 f0 ?_
  refine go_aload_n (n := 0) (by decide +kernel) l0 f0 ?_
  refine go_iload_n (n := 1) (by decide +kernel) l1 f1 ?_
  obtain ⟨x_2, hc_1, h⟩ := bp_s h
  refine go_callV (x := 709) (mi := 306) (n := 1) (ci := 13) (as := [v1]) (rest := [v0]) (by decide +kernel) (by decide +kernel) rfl rfl (q_sum8 _ (Nat.le_of_ble_eq_true rfl)) R f0 (fx_k (c := 13) R (by decide +kernel)) (om_X12_isSchedule (Nat.le_trans (by decide) hd) R f0 f1 hc_1) (fun _ S_6 q_9 => ?_) (fun _ _ qq => kr_x qq)
  refine kr_z (by decide) q_9 fun v_4 f_5 R_7 E_8 => ?_
  refine go_if (c := .ne) (o := 7) (t := 13) (P := ¬ (x_2 = 0)) (by decide +kernel) (by decide +kernel) f_5 (Iff.rfl) (fun hp_10 => ?_) (fun hp_10 => ?_)
  · have h := it_f hp_10 h
    refine go_iload_n (n := 2) (by decide +kernel) l2 f2 ?_
    refine go_iconst (n := 1) (z := 1) (by decide +kernel) (by decide) fun v_11 f_12 => ?_
    refine go_iconst (n := 5) (z := 5) (by decide +kernel) (by decide) fun v_13 f_14 => ?_
    obtain ⟨x_16, hc_15, h⟩ := bp_s h
    refine go_callS (x := 306) (mi := 188) (n := 3) (b := 0) (as := [v2, v_11, v_13]) (rest := [v0]) (by decide +kernel) (by decide +kernel) rfl rfl (q_sum8 _ (Nat.le_of_ble_eq_true rfl)) (om_X12_isIn (Nat.le_trans (by decide) hd) R_7 f2 f_12 f_14 hc_15) (fun _ S_20 q_23 => ?_) (fun _ _ qq => kr_x qq)
    refine kr_z (by decide) q_23 fun v_18 f_19 R_21 E_22 => ?_
    refine go_if (c := .eq) (o := 7) (t := 26) (P := x_16 = 0) (by decide +kernel) (by decide +kernel) f_19 (Iff.rfl) (fun hp_24 => ?_) (fun hp_24 => ?_)
    · have h := it_t hp_24 h
      refine go_iconst (n := 2) (z := 2) (by decide +kernel) (by decide) fun v_25 f_26 => ?_
      exact oj_X12_backfill_27 hd R_21 l0 f0 l1 f1 l2 f2 f_26 f0 hQ h
    · have h := it_f hp_24 h
      refine go_iconst (n := 0) (z := 0) (by decide +kernel) (by decide) fun v_196 f_197 => ?_
      refine go_goto (o := 4) (t := 27) (by decide +kernel) (by decide +kernel) ?_
      exact oj_X12_backfill_27 hd R_21 l0 f0 l1 f1 l2 f2 f_197 f0 hQ h
  · have h := it_n hp_10 h
    refine go_iconst (n := 1) (z := 1) (by decide +kernel) (by decide) fun v_198 f_199 => ?_
    refine go_goto (o := 17) (t := 27) (by decide +kernel) (by decide +kernel) ?_
    exact oj_X12_backfill_27 hd R_7 l0 f0 l1 f1 l2 f2 f_199 f0 hQ h
noncomputable def fj_X12_shift_17 (y1 s0 : Int) (m : MM) : Option (Int × MM) := bd (fm_X12_fails s0 m) fun x_18 m_19 =>
if x_18 = 0 then
lx (m_19 68 68) fun x_31 =>
up m_19 68 68 (w32 (x_31 + y1)) fun m_35 =>
lx (m_35 68 0) fun x_44 =>
lx (m_35 68 68) fun x_49 =>
some (w32 (x_44 + x_49), m_35)
else
some (0, m_19)
set_option maxHeartbeats 4000000 in
theorem oj_X12_shift_17 {xs : List Int32} {d : Nat} {S : QS} {L : QL} {Q : QO → QS → Prop} {m : MM} {y1 s0 : Int} {v0 : Value} {v1 : Value} {w0 : Value} {w1 : Value}  {rz : Int} {rm : MM}
  (hd : 1 ≤ d) (R : Rp S m) (l0 : q_lo L 0 = some v0) (f0 : q_is 2 v0 68) (l1 : q_lo L 1 = some v1) (f1 : q_is 0 v1 y1) (fs0 : q_is 0 w0 s0) (fs1 : q_is 2 w1 68)
  (hQ : Ext m rm → ∀ o S1, Rp S1 rm → q_out 0 o rz → Q o S1)
  (h : fj_X12_shift_17 y1 s0 m = some (rz, rm)) : Go xs d qM_X12_shift 17 L [w0, w1] S Q := by
  unfold fj_X12_shift_17 at h
  obtain ⟨x_18, m_19, hc_17, h⟩ := bd_s h
  refine go_callV (x := 324) (mi := 186) (n := 1) (ci := 13) (as := [w0]) (rest := []) (by decide +kernel) (by decide +kernel) rfl rfl (q_sum8 _ (Nat.le_of_ble_eq_true rfl)) R fs1 (fx_k (c := 13) R (by decide +kernel)) (om_X12_fails (Nat.le_trans (by decide) hd) R fs1 fs0 hc_17) (fun _ S_22 q_25 => ?_) (fun _ _ qq => kr_x qq)
  refine kr_z (by decide) q_25 fun v_20 f_21 R_23 E_24 => ?_
  have E_26 := E_24
  refine go_if (c := .eq) (o := 5) (t := 25) (P := x_18 = 0) (by decide +kernel) (by decide +kernel) f_21 (Iff.rfl) (fun hp_27 => ?_) (fun hp_27 => ?_)
  · have h := it_t hp_27 h
    refine go_aload_n (n := 0) (by decide +kernel) l0 f0 ?_
    refine go_dup (by decide +kernel) f0 (Or.inr rfl) ?_
    obtain ⟨x_31, e_32, h⟩ := lx_s h
    refine go_getf (x := 691) (ci := 13) (kf := 68) (fin := 0) (t := 0) (by decide +kernel) (by decide +kernel) (by decide +kernel) R_23 f0 (fx_k (c := 13) R_23 (by decide +kernel)) fun v_28 f_29 => ?_
    have f_30 := q_is_eq f_29 e_32
    refine go_iload_n (n := 1) (by decide +kernel) l1 f1 ?_
    refine go_iadd (by decide +kernel) f_30 f1 fun v_33 f_34 => ?_
    obtain ⟨m_35, e_36, h⟩ := up_s h
    refine go_putf (x := 691) (ci := 13) (kf := 68) (fin := 0) (zt := 0) (by decide +kernel) (by decide +kernel) (by decide) (by decide +kernel) (by decide) (Or.inl rfl) R_23 f0 f_34 (fun hq => absurd hq (by decide)) (fx_k (c := 13) R_23 (by decide +kernel)) e_36 (fx_f (j := 68) R_23.2 (fx_k (c := 13) R_23 (by decide +kernel)) (by decide +kernel)) fun S_37 R_38 E_39 => ?_
    have E_40 := Ext.tr E_26 E_39
    refine go_aload_n (n := 0) (by decide +kernel) l0 f0 ?_
    obtain ⟨x_44, e_45, h⟩ := lx_s h
    refine go_getf (x := 357) (ci := 13) (kf := 0) (fin := 0) (t := 0) (by decide +kernel) (by decide +kernel) (by decide +kernel) R_38 f0 (fx_k (c := 13) R_38 (by decide +kernel)) fun v_41 f_42 => ?_
    have f_43 := q_is_eq f_42 e_45
    refine go_aload_n (n := 0) (by decide +kernel) l0 f0 ?_
    obtain ⟨x_49, e_50, h⟩ := lx_s h
    refine go_getf (x := 691) (ci := 13) (kf := 68) (fin := 0) (t := 0) (by decide +kernel) (by decide +kernel) (by decide +kernel) R_38 f0 (fx_k (c := 13) R_38 (by decide +kernel)) fun v_46 f_47 => ?_
    have f_48 := q_is_eq f_47 e_50
    refine go_iadd (by decide +kernel) f_43 f_48 fun v_51 f_52 => ?_
    cases h
    exact go_iret (by decide +kernel) rfl (Or.inl rfl) f_52 (hQ E_40 _ _ R_38 (q_out_v (by decide) f_52))
  · have h := it_f hp_27 h
    refine go_iconst (n := 0) (z := 0) (by decide +kernel) (by decide) fun v_53 f_54 => ?_
    cases h
    exact go_iret (by decide +kernel) rfl (Or.inl rfl) f_54 (hQ E_26 _ _ R_23 (q_out_v (by decide) f_54))
noncomputable def fm_X12_shift (p1 : Int) (m0 : MM) : Option (Int × MM) := bp (fm_X12_isIn p1 (-20) 20 m0) fun x_6 =>
if x_6 = 0 then
fj_X12_shift_17 p1 1 m0
else
fj_X12_shift_17 p1 0 m0
set_option maxHeartbeats 4000000 in
theorem om_X12_shift {xs : List Int32} {d : Nat} {S : QS} {m0 : MM} {p1 : Int} {v0 : Value} {v1 : Value} {rz : Int} {rm : MM}
  (hd : 2 ≤ d) (R : Rp S m0) (f0 : q_is 2 v0 68) (f1 : q_is 0 v1 p1)
  (h : fm_X12_shift p1 m0 = some (rz, rm)) : Mt xs d 315 [v0, v1] S (Cr 0 m0 rm rz) := by
  obtain ⟨d, rfl⟩ : ∃ e, d = e + 1 := ⟨d - 1, by omega⟩
  have hd : 1 ≤ d := Nat.le_of_succ_le_succ hd
  refine Mt.of (M := qM_X12_shift) rfl (by rw [sl_1 (q_is_cat f0 (Or.inr rfl)), sl_1 (q_is_cat f1 (Or.inl rfl)), sl_0]; decide) ?_
  rw [la_1 (q_is_cat f0 (Or.inr rfl)), la_1 (q_is_cat f1 (Or.inl rfl)), la_0]
  obtain ⟨L, hL⟩ : ∃ L : QL, L = [(0, v0), (0 + 1, v1)] := ⟨_, rfl⟩
  rw [← hL]
  have l0 : q_lo L 0 = some v0 := by rw [hL]; rfl
  have l1 : q_lo L 1 = some v1 := by rw [hL]; rfl
  have hQ : Ext m0 rm → ∀ o S1, Rp S1 rm → q_out 0 o rz → (Cr 0 m0 rm rz) o S1 := fun a o S1 b e => ⟨b, a, e⟩
  unfold fm_X12_shift at h
  refine go_aload_n (n := 0) (by decide +kernel) l0 f0 ?_
  refine go_iload_n (n := 1) (by decide +kernel) l1 f1 ?_
  refine go_bipush (n := (-20)) (z := (-20)) (by decide +kernel) (by decide) fun v_1 f_2 => ?_
  refine go_bipush (n := 20) (z := 20) (by decide +kernel) (by decide) fun v_3 f_4 => ?_
  obtain ⟨x_6, hc_5, h⟩ := bp_s h
  refine go_callS (x := 306) (mi := 188) (n := 3) (b := 0) (as := [v1, v_1, v_3]) (rest := [v0]) (by decide +kernel) (by decide +kernel) rfl rfl (q_sum8 _ (Nat.le_of_ble_eq_true rfl)) (om_X12_isIn (Nat.le_trans (by decide) hd) R f1 f_2 f_4 hc_5) (fun _ S_10 q_13 => ?_) (fun _ _ qq => kr_x qq)
  refine kr_z (by decide) q_13 fun v_8 f_9 R_11 E_12 => ?_
  refine go_if (c := .eq) (o := 7) (t := 16) (P := x_6 = 0) (by decide +kernel) (by decide +kernel) f_9 (Iff.rfl) (fun hp_14 => ?_) (fun hp_14 => ?_)
  · have h := it_t hp_14 h
    refine go_iconst (n := 1) (z := 1) (by decide +kernel) (by decide) fun v_15 f_16 => ?_
    exact oj_X12_shift_17 hd R_11 l0 f0 l1 f1 f_16 f0 hQ h
  · have h := it_f hp_14 h
    refine go_iconst (n := 0) (z := 0) (by decide +kernel) (by decide) fun v_55 f_56 => ?_
    refine go_goto (o := 4) (t := 17) (by decide +kernel) (by decide +kernel) ?_
    exact oj_X12_shift_17 hd R_11 l0 f0 l1 f1 f_56 f0 hQ h
noncomputable def fl_X12_bringIn_26 (y1 : Int) : Nat → Int → MM → Option (Int × MM)
  | 0, _, _ => none
  | n + 1, y2, m => if y2 < y1 then
lx (m 68 79) fun x_51 =>
lx (m 68 80) fun x_56 =>
if x_51 < x_56 then
gd (0 ≤ x_51 ∧ x_51 < 1048576) <| lx (m 137 x_51) fun x_80 =>
gd (0 ≤ w32 (Int.tdiv x_80 1000) ∧ w32 (Int.tdiv x_80 1000) < 30) <| up m 138 (w32 (Int.tdiv x_80 1000)) (Int.tmod x_80 1000) fun m_100 =>
lx (m_100 68 79) fun x_109 =>
up m_100 68 79 (w32 (x_109 + 1)) fun m_115 =>
lx (w32 (y2 + 1)) fun x_126 =>
fl_X12_bringIn_26 y1 n x_126 m_115
else
some (w32 (x_56 - x_51), m)
else
lx (m 68 80) fun x_39 =>
lx (m 68 79) fun x_44 =>
some (w32 (x_39 - x_44), m)
set_option maxHeartbeats 4000000 in
theorem ol_X12_bringIn_26 {xs : List Int32} {d : Nat} {Q : QO → QS → Prop} {mb : MM} {y1 : Int} {rz : Int} {rm : MM}
  (hd : 1 ≤ d)
  (hQ : Ext mb rm → ∀ o S1, Rp S1 rm → q_out 0 o rz → Q o S1) :
  ∀ (n : Nat) {m : MM} {S : QS} {L : QL} {y2 : Int} {v0 : Value} {v1 : Value} {v2 : Value} , Ext mb m → fl_X12_bringIn_26 y1 n y2 m = some (rz, rm) → Rp S m → q_lo L 0 = some v0 → q_is 2 v0 68 → q_lo L 1 = some v1 → q_is 0 v1 y1 → q_lo L 2 = some v2 → q_is 0 v2 y2 → Go xs d qM_X12_bringIn 26 L [] S Q := by
  intro n
  induction n with
  | zero => intro m S L y2 v0 v1 v2; intro E h R l0 f0 l1 f1 l2 f2; cases h
  | succ n ih0 =>
    intro m S L y2 v0 v1 v2; intro E h R l0 f0 l1 f1 l2 f2
    have ih : ∀ mq : MM, Ext mb mq → ∀ {z2 : Int} {Sq : QS} {Lq : QL} {u0 : Value} {u1 : Value} {u2 : Value}, fl_X12_bringIn_26 y1 n z2 mq = some (rz, rm) → Rp Sq mq → q_lo Lq 0 = some u0 → q_is 2 u0 68 → q_lo Lq 1 = some u1 → q_is 0 u1 y1 → q_lo Lq 2 = some u2 → q_is 0 u2 z2 → Go xs d qM_X12_bringIn 26 Lq [] Sq Q := fun mq b => by intros; exact ih0 b ‹_› ‹_› ‹_› ‹_› ‹_› ‹_› ‹_› ‹_›
    unfold fl_X12_bringIn_26 at h
    refine go_iload_n (n := 2) (by decide +kernel) l2 f2 ?_
    refine go_iload_n (n := 1) (by decide +kernel) l1 f1 ?_
    refine go_icmp (c := .ge) (o := 61) (t := 89) (P := ¬ (y2 < y1)) (by decide +kernel) (by decide +kernel) f2 f1 (Int.not_lt.symm) (fun hp_35 => ?_) (fun hp_35 => ?_)
    · have h := it_f hp_35 h
      refine go_aload_n (n := 0) (by decide +kernel) l0 f0 ?_
      obtain ⟨x_39, e_40, h⟩ := lx_s h
      refine go_getf (x := 632) (ci := 13) (kf := 80) (fin := 0) (t := 0) (by decide +kernel) (by decide +kernel) (by decide +kernel) R f0 (fx_k (c := 13) R (by decide +kernel)) fun v_36 f_37 => ?_
      have f_38 := q_is_eq f_37 e_40
      refine go_aload_n (n := 0) (by decide +kernel) l0 f0 ?_
      obtain ⟨x_44, e_45, h⟩ := lx_s h
      refine go_getf (x := 712) (ci := 13) (kf := 79) (fin := 0) (t := 0) (by decide +kernel) (by decide +kernel) (by decide +kernel) R f0 (fx_k (c := 13) R (by decide +kernel)) fun v_41 f_42 => ?_
      have f_43 := q_is_eq f_42 e_45
      refine go_isub (by decide +kernel) f_38 f_43 fun v_46 f_47 => ?_
      cases h
      exact go_iret (by decide +kernel) rfl (Or.inl rfl) f_47 (hQ E _ _ R (q_out_v (by decide) f_47))
    · have h := it_n hp_35 h
      refine go_aload_n (n := 0) (by decide +kernel) l0 f0 ?_
      obtain ⟨x_51, e_52, h⟩ := lx_s h
      refine go_getf (x := 712) (ci := 13) (kf := 79) (fin := 0) (t := 0) (by decide +kernel) (by decide +kernel) (by decide +kernel) R f0 (fx_k (c := 13) R (by decide +kernel)) fun v_48 f_49 => ?_
      have f_50 := q_is_eq f_49 e_52
      refine go_aload_n (n := 0) (by decide +kernel) l0 f0 ?_
      obtain ⟨x_56, e_57, h⟩ := lx_s h
      refine go_getf (x := 632) (ci := 13) (kf := 80) (fin := 0) (t := 0) (by decide +kernel) (by decide +kernel) (by decide +kernel) R f0 (fx_k (c := 13) R (by decide +kernel)) fun v_53 f_54 => ?_
      have f_55 := q_is_eq f_54 e_57
      refine go_icmp (c := .ge) (o := 50) (t := 89) (P := ¬ (x_51 < x_56)) (by decide +kernel) (by decide +kernel) f_50 f_55 (Int.not_lt.symm) (fun hp_58 => ?_) (fun hp_58 => ?_)
      · have h := it_f hp_58 h
        refine go_aload_n (n := 0) (by decide +kernel) l0 f0 ?_
        refine go_getf (x := 632) (ci := 13) (kf := 80) (fin := 0) (t := 0) (by decide +kernel) (by decide +kernel) (by decide +kernel) R f0 (fx_k (c := 13) R (by decide +kernel)) fun v_59 f_60 => ?_
        have f_61 := q_is_eq f_60 e_57
        refine go_aload_n (n := 0) (by decide +kernel) l0 f0 ?_
        refine go_getf (x := 712) (ci := 13) (kf := 79) (fin := 0) (t := 0) (by decide +kernel) (by decide +kernel) (by decide +kernel) R f0 (fx_k (c := 13) R (by decide +kernel)) fun v_62 f_63 => ?_
        have f_64 := q_is_eq f_63 e_52
        refine go_isub (by decide +kernel) f_61 f_64 fun v_65 f_66 => ?_
        cases h
        exact go_iret (by decide +kernel) rfl (Or.inl rfl) f_66 (hQ E _ _ R (q_out_v (by decide) f_66))
      · have h := it_n hp_58 h
        refine go_aload_n (n := 0) (by decide +kernel) l0 f0 ?_
        refine go_getf (x := 229) (ci := 13) (kf := 82) (fin := 1) (t := 2) (by decide +kernel) (by decide +kernel) (by decide +kernel) R f0 (fx_k (c := 13) R (by decide +kernel)) fun v_67 f_68 => ?_
        have f_69 := q_is_eq (b := 138) f_68 (fx_v R (by decide +kernel)).symm
        refine go_aload_n (n := 0) (by decide +kernel) l0 f0 ?_
        refine go_getf (x := 226) (ci := 13) (kf := 81) (fin := 1) (t := 2) (by decide +kernel) (by decide +kernel) (by decide +kernel) R f0 (fx_k (c := 13) R (by decide +kernel)) fun v_70 f_71 => ?_
        have f_72 := q_is_eq (b := 137) f_71 (fx_v R (by decide +kernel)).symm
        refine go_aload_n (n := 0) (by decide +kernel) l0 f0 ?_
        refine go_getf (x := 712) (ci := 13) (kf := 79) (fin := 0) (t := 0) (by decide +kernel) (by decide +kernel) (by decide +kernel) R f0 (fx_k (c := 13) R (by decide +kernel)) fun v_73 f_74 => ?_
        have f_75 := q_is_eq f_74 e_52
        obtain ⟨g_78, h⟩ := gd_s h
        obtain ⟨x_80, e_81, h⟩ := lx_s h
        refine go_iald (kd := 100) (by decide +kernel) rfl R f_72 f_75 (fx_k (c := 100) R (by decide +kernel)) (fx_x (a := 137) (ln := 1048576) R (by decide +kernel) g_78) fun v_76 f_77 => ?_
        have f_79 := q_is_eq f_77 e_81
        refine go_sipush (n := 1000) (z := 1000) (by decide +kernel) (by decide) fun v_82 f_83 => ?_
        refine go_idiv (by decide +kernel) f_79 f_83 (by decide) fun v_84 f_85 => ?_
        refine go_aload_n (n := 0) (by decide +kernel) l0 f0 ?_
        refine go_getf (x := 226) (ci := 13) (kf := 81) (fin := 1) (t := 2) (by decide +kernel) (by decide +kernel) (by decide +kernel) R f0 (fx_k (c := 13) R (by decide +kernel)) fun v_86 f_87 => ?_
        have f_88 := q_is_eq (b := 137) f_87 (fx_v R (by decide +kernel)).symm
        refine go_aload_n (n := 0) (by decide +kernel) l0 f0 ?_
        refine go_getf (x := 712) (ci := 13) (kf := 79) (fin := 0) (t := 0) (by decide +kernel) (by decide +kernel) (by decide +kernel) R f0 (fx_k (c := 13) R (by decide +kernel)) fun v_89 f_90 => ?_
        have f_91 := q_is_eq f_90 e_52
        refine go_iald (kd := 100) (by decide +kernel) rfl R f_88 f_91 (fx_k (c := 100) R (by decide +kernel)) (fx_x (a := 137) (ln := 1048576) R (by decide +kernel) g_78) fun v_92 f_93 => ?_
        have f_94 := q_is_eq f_93 e_81
        refine go_sipush (n := 1000) (z := 1000) (by decide +kernel) (by decide) fun v_95 f_96 => ?_
        refine go_irem (by decide +kernel) f_94 f_96 (by decide) fun v_97 f_98 => ?_
        obtain ⟨g_99, h⟩ := gd_s h
        obtain ⟨m_100, e_101, h⟩ := up_s h
        refine go_iast (kd := 100) (by decide +kernel) rfl R f_69 f_85 f_98 (fx_k (c := 100) R (by decide +kernel)) (fx_x (a := 138) (ln := 30) R (by decide +kernel) g_99) e_101 (fx_a R.2 (fx_k (c := 100) R (by decide +kernel)) (And.left (fx_x (a := 138) (ln := 30) R (by decide +kernel) g_99)) (by decide +kernel)) fun S_102 R_103 E_104 => ?_
        have E_105 := Ext.tr E E_104
        refine go_aload_n (n := 0) (by decide +kernel) l0 f0 ?_
        refine go_dup (by decide +kernel) f0 (Or.inr rfl) ?_
        obtain ⟨x_109, e_110, h⟩ := lx_s h
        refine go_getf (x := 712) (ci := 13) (kf := 79) (fin := 0) (t := 0) (by decide +kernel) (by decide +kernel) (by decide +kernel) R_103 f0 (fx_k (c := 13) R_103 (by decide +kernel)) fun v_106 f_107 => ?_
        have f_108 := q_is_eq f_107 e_110
        refine go_iconst (n := 1) (z := 1) (by decide +kernel) (by decide) fun v_111 f_112 => ?_
        refine go_iadd (by decide +kernel) f_108 f_112 fun v_113 f_114 => ?_
        obtain ⟨m_115, e_116, h⟩ := up_s h
        refine go_putf (x := 712) (ci := 13) (kf := 79) (fin := 0) (zt := 0) (by decide +kernel) (by decide +kernel) (by decide) (by decide +kernel) (by decide) (Or.inl rfl) R_103 f0 f_114 (fun hq => absurd hq (by decide)) (fx_k (c := 13) R_103 (by decide +kernel)) e_116 (fx_f (j := 79) R_103.2 (fx_k (c := 13) R_103 (by decide +kernel)) (by decide +kernel)) fun S_117 R_118 E_119 => ?_
        have E_120 := Ext.tr E_105 E_119
        refine go_iinc (n := 2) (c := 1) (c' := 1) (by decide +kernel) (by decide +kernel) l2 f2 (by decide) fun L_121 v_122 f_123 l_124 kp_125 => ?_
        obtain ⟨x_126, e_127, h⟩ := lx_s h
        have f_128 := q_is_eq f_123 e_127
        have l_129 := kp_125 0 _ l0 (by decide) (Or.inl (by decide))
        have l_130 := kp_125 1 _ l1 (by decide) (Or.inr (q_is_cat f1 (Or.inl rfl)))
        refine go_goto (o := (-60)) (t := 26) (by decide +kernel) (by decide +kernel) ?_
        exact ih m_115 E_120 h R_118 l_129 f0 l_130 f1 l_124 f_128
noncomputable def fj_X12_bringIn_16 (y1 s0 : Int) (m : MM) : Option (Int × MM) := bd (fm_X12_fails s0 m) fun x_18 m_19 =>
if x_18 = 0 then
fl_X12_bringIn_26 y1  BIG 0 m_19
else
some (0, m_19)
set_option maxHeartbeats 4000000 in
theorem oj_X12_bringIn_16 {xs : List Int32} {d : Nat} {S : QS} {L : QL} {Q : QO → QS → Prop} {m : MM} {y1 s0 : Int} {v0 : Value} {v1 : Value} {w0 : Value} {w1 : Value}  {rz : Int} {rm : MM}
  (hd : 1 ≤ d) (R : Rp S m) (l0 : q_lo L 0 = some v0) (f0 : q_is 2 v0 68) (l1 : q_lo L 1 = some v1) (f1 : q_is 0 v1 y1) (fs0 : q_is 0 w0 s0) (fs1 : q_is 2 w1 68)
  (hQ : Ext m rm → ∀ o S1, Rp S1 rm → q_out 0 o rz → Q o S1)
  (h : fj_X12_bringIn_16 y1 s0 m = some (rz, rm)) : Go xs d qM_X12_bringIn 16 L [w0, w1] S Q := by
  unfold fj_X12_bringIn_16 at h
  obtain ⟨x_18, m_19, hc_17, h⟩ := bd_s h
  refine go_callV (x := 324) (mi := 186) (n := 1) (ci := 13) (as := [w0]) (rest := []) (by decide +kernel) (by decide +kernel) rfl rfl (q_sum8 _ (Nat.le_of_ble_eq_true rfl)) R fs1 (fx_k (c := 13) R (by decide +kernel)) (om_X12_fails (Nat.le_trans (by decide) hd) R fs1 fs0 hc_17) (fun _ S_22 q_25 => ?_) (fun _ _ qq => kr_x qq)
  refine kr_z (by decide) q_25 fun v_20 f_21 R_23 E_24 => ?_
  have E_26 := E_24
  refine go_if (c := .eq) (o := 5) (t := 24) (P := x_18 = 0) (by decide +kernel) (by decide +kernel) f_21 (Iff.rfl) (fun hp_27 => ?_) (fun hp_27 => ?_)
  · have h := it_t hp_27 h
    refine go_iconst (n := 0) (z := 0) (by decide +kernel) (by decide) fun v_28 f_29 => ?_
    refine go_istore_n (n := 2) (by decide +kernel) (by decide +kernel) f_29 fun L_30 l_31 kp_32 => ?_
    have l_33 := kp_32 0 _ l0 (by decide) (Or.inl (by decide))
    have l_34 := kp_32 1 _ l1 (by decide) (Or.inr (q_is_cat f1 (Or.inl rfl)))
    refine ol_X12_bringIn_26 hd   (fun b => hQ (Ext.tr E_26 b)) BIG (Ext.rf _) h R_23 l_33 f0 l_34 f1 l_31 f_29
  · have h := it_f hp_27 h
    refine go_iconst (n := 0) (z := 0) (by decide +kernel) (by decide) fun v_131 f_132 => ?_
    cases h
    exact go_iret (by decide +kernel) rfl (Or.inl rfl) f_132 (hQ E_26 _ _ R_23 (q_out_v (by decide) f_132))
noncomputable def fm_X12_bringIn (p1 : Int) (m0 : MM) : Option (Int × MM) := bp (fm_X12_isIn p1 1 100 m0) fun x_6 =>
if x_6 = 0 then
fj_X12_bringIn_16 p1 1 m0
else
fj_X12_bringIn_16 p1 0 m0
set_option maxHeartbeats 4000000 in
theorem om_X12_bringIn {xs : List Int32} {d : Nat} {S : QS} {m0 : MM} {p1 : Int} {v0 : Value} {v1 : Value} {rz : Int} {rm : MM}
  (hd : 2 ≤ d) (R : Rp S m0) (f0 : q_is 2 v0 68) (f1 : q_is 0 v1 p1)
  (h : fm_X12_bringIn p1 m0 = some (rz, rm)) : Mt xs d 316 [v0, v1] S (Cr 0 m0 rm rz) := by
  obtain ⟨d, rfl⟩ : ∃ e, d = e + 1 := ⟨d - 1, by omega⟩
  have hd : 1 ≤ d := Nat.le_of_succ_le_succ hd
  refine Mt.of (M := qM_X12_bringIn) rfl (by rw [sl_1 (q_is_cat f0 (Or.inr rfl)), sl_1 (q_is_cat f1 (Or.inl rfl)), sl_0]; decide) ?_
  rw [la_1 (q_is_cat f0 (Or.inr rfl)), la_1 (q_is_cat f1 (Or.inl rfl)), la_0]
  obtain ⟨L, hL⟩ : ∃ L : QL, L = [(0, v0), (0 + 1, v1)] := ⟨_, rfl⟩
  rw [← hL]
  have l0 : q_lo L 0 = some v0 := by rw [hL]; rfl
  have l1 : q_lo L 1 = some v1 := by rw [hL]; rfl
  have hQ : Ext m0 rm → ∀ o S1, Rp S1 rm → q_out 0 o rz → (Cr 0 m0 rm rz) o S1 := fun a o S1 b e => ⟨b, a, e⟩
  unfold fm_X12_bringIn at h
  refine go_aload_n (n := 0) (by decide +kernel) l0 f0 ?_
  refine go_iload_n (n := 1) (by decide +kernel) l1 f1 ?_
  refine go_iconst (n := 1) (z := 1) (by decide +kernel) (by decide) fun v_1 f_2 => ?_
  refine go_bipush (n := 100) (z := 100) (by decide +kernel) (by decide) fun v_3 f_4 => ?_
  obtain ⟨x_6, hc_5, h⟩ := bp_s h
  refine go_callS (x := 306) (mi := 188) (n := 3) (b := 0) (as := [v1, v_1, v_3]) (rest := [v0]) (by decide +kernel) (by decide +kernel) rfl rfl (q_sum8 _ (Nat.le_of_ble_eq_true rfl)) (om_X12_isIn (Nat.le_trans (by decide) hd) R f1 f_2 f_4 hc_5) (fun _ S_10 q_13 => ?_) (fun _ _ qq => kr_x qq)
  refine kr_z (by decide) q_13 fun v_8 f_9 R_11 E_12 => ?_
  refine go_if (c := .eq) (o := 7) (t := 15) (P := x_6 = 0) (by decide +kernel) (by decide +kernel) f_9 (Iff.rfl) (fun hp_14 => ?_) (fun hp_14 => ?_)
  · have h := it_t hp_14 h
    refine go_iconst (n := 1) (z := 1) (by decide +kernel) (by decide) fun v_15 f_16 => ?_
    exact oj_X12_bringIn_16 hd R_11 l0 f0 l1 f1 f_16 f0 hQ h
  · have h := it_f hp_14 h
    refine go_iconst (n := 0) (z := 0) (by decide +kernel) (by decide) fun v_133 f_134 => ?_
    refine go_goto (o := 4) (t := 16) (by decide +kernel) (by decide +kernel) ?_
    exact oj_X12_bringIn_16 hd R_11 l0 f0 l1 f1 f_134 f0 hQ h
noncomputable def fl_X12_search_25 (y1 : Int) (m : MM) : Nat → Int → Int → Option (Int × MM)
  | 0, _, _ => none
  | n + 1, y2, y3 => lx (m 68 12) fun x_42 =>
if y3 < x_42 then
gd (0 ≤ y3 ∧ y3 < 30) <| lx (m 138 y3) fun x_52 =>
if x_52 = y1 then
lx (iOr y2 (iShl 1 y3)) fun x_85 =>
lx (w32 (y3 + 1)) fun x_99 =>
fl_X12_search_25 y1 m n x_85 x_99
else
lx (iOr y2 0) fun x_59 =>
lx (w32 (y3 + 1)) fun x_73 =>
fl_X12_search_25 y1 m n x_59 x_73
else
some (y2, m)
set_option maxHeartbeats 4000000 in
theorem ol_X12_search_25 {xs : List Int32} {d : Nat} {Q : QO → QS → Prop} {m : MM} {y1 : Int} {rz : Int} {rm : MM}
  (hd : 2 ≤ d)
  (hQ : Ext m rm → ∀ o S1, Rp S1 rm → q_out 0 o rz → Q o S1) :
  ∀ (n : Nat) {S : QS} {L : QL} {y2 y3 : Int} {v0 : Value} {v1 : Value} {v2 : Value} {v3 : Value} , fl_X12_search_25 y1 m n y2 y3 = some (rz, rm) → Rp S m → q_lo L 0 = some v0 → q_is 2 v0 68 → q_lo L 1 = some v1 → q_is 0 v1 y1 → q_lo L 2 = some v2 → q_is 0 v2 y2 → q_lo L 3 = some v3 → q_is 0 v3 y3 → Go xs d qM_X12_search 25 L [] S Q := by
  intro n
  induction n with
  | zero => intro S L y2 y3 v0 v1 v2 v3; intro h R l0 f0 l1 f1 l2 f2 l3 f3; cases h
  | succ n ih0 =>
    intro S L y2 y3 v0 v1 v2 v3; intro h R l0 f0 l1 f1 l2 f2 l3 f3
    have ih : ∀ {z2 : Int} {z3 : Int} {Sq : QS} {Lq : QL} {u0 : Value} {u1 : Value} {u2 : Value} {u3 : Value}, fl_X12_search_25 y1 m n z2 z3 = some (rz, rm) → Rp Sq m → q_lo Lq 0 = some u0 → q_is 2 u0 68 → q_lo Lq 1 = some u1 → q_is 0 u1 y1 → q_lo Lq 2 = some u2 → q_is 0 u2 z2 → q_lo Lq 3 = some u3 → q_is 0 u3 z3 → Go xs d qM_X12_search 25 Lq [] Sq Q := by intros; exact ih0 ‹_› ‹_› ‹_› ‹_› ‹_› ‹_› ‹_› ‹_› ‹_› ‹_›
    unfold fl_X12_search_25 at h
    refine go_iload_n (n := 3) (by decide +kernel) l3 f3 ?_
    refine go_aload_n (n := 0) (by decide +kernel) l0 f0 ?_
    obtain ⟨x_42, e_43, h⟩ := lx_s h
    refine go_getf (x := 310) (ci := 13) (kf := 12) (fin := 0) (t := 0) (by decide +kernel) (by decide +kernel) (by decide +kernel) R f0 (fx_k (c := 13) R (by decide +kernel)) fun v_39 f_40 => ?_
    have f_41 := q_is_eq f_40 e_43
    refine go_icmp (c := .ge) (o := 29) (t := 59) (P := ¬ (y3 < x_42)) (by decide +kernel) (by decide +kernel) f3 f_41 (Int.not_lt.symm) (fun hp_44 => ?_) (fun hp_44 => ?_)
    · have h := it_f hp_44 h
      refine go_iload_n (n := 2) (by decide +kernel) l2 f2 ?_
      cases h
      exact go_iret (by decide +kernel) rfl (Or.inl rfl) f2 (hQ (Ext.rf _) _ _ R (q_out_v (by decide) f2))
    · have h := it_n hp_44 h
      refine go_iload_n (n := 2) (by decide +kernel) l2 f2 ?_
      refine go_aload_n (n := 0) (by decide +kernel) l0 f0 ?_
      refine go_getf (x := 229) (ci := 13) (kf := 82) (fin := 1) (t := 2) (by decide +kernel) (by decide +kernel) (by decide +kernel) R f0 (fx_k (c := 13) R (by decide +kernel)) fun v_45 f_46 => ?_
      have f_47 := q_is_eq (b := 138) f_46 (fx_v R (by decide +kernel)).symm
      refine go_iload_n (n := 3) (by decide +kernel) l3 f3 ?_
      obtain ⟨g_50, h⟩ := gd_s h
      obtain ⟨x_52, e_53, h⟩ := lx_s h
      refine go_iald (kd := 100) (by decide +kernel) rfl R f_47 f3 (fx_k (c := 100) R (by decide +kernel)) (fx_x (a := 138) (ln := 30) R (by decide +kernel) g_50) fun v_48 f_49 => ?_
      have f_51 := q_is_eq f_49 e_53
      refine go_iload_n (n := 1) (by decide +kernel) l1 f1 ?_
      refine go_icmp (c := .ne) (o := 9) (t := 50) (P := ¬ (x_52 = y1)) (by decide +kernel) (by decide +kernel) f_51 f1 (Iff.rfl) (fun hp_54 => ?_) (fun hp_54 => ?_)
      · have h := it_f hp_54 h
        refine go_iconst (n := 0) (z := 0) (by decide +kernel) (by decide) fun v_55 f_56 => ?_
        refine go_ior (by decide +kernel) f2 f_56 fun v_57 f_58 => ?_
        obtain ⟨x_59, e_60, h⟩ := lx_s h
        have f_61 := q_is_eq f_58 e_60
        refine go_istore_n (n := 2) (by decide +kernel) (by decide +kernel) f_61 fun L_62 l_63 kp_64 => ?_
        have l_65 := kp_64 0 _ l0 (by decide) (Or.inl (by decide))
        have l_66 := kp_64 1 _ l1 (by decide) (Or.inr (q_is_cat f1 (Or.inl rfl)))
        have l_67 := kp_64 3 _ l3 (by decide) (Or.inl (by decide))
        refine go_iinc (n := 3) (c := 1) (c' := 1) (by decide +kernel) (by decide +kernel) l_67 f3 (by decide) fun L_68 v_69 f_70 l_71 kp_72 => ?_
        obtain ⟨x_73, e_74, h⟩ := lx_s h
        have f_75 := q_is_eq f_70 e_74
        have l_76 := kp_72 0 _ l_65 (by decide) (Or.inl (by decide))
        have l_77 := kp_72 1 _ l_66 (by decide) (Or.inl (by decide))
        have l_78 := kp_72 2 _ l_63 (by decide) (Or.inr (q_is_cat f_61 (Or.inl rfl)))
        refine go_goto (o := (-31)) (t := 25) (by decide +kernel) (by decide +kernel) ?_
        exact ih h R l_76 f0 l_77 f1 l_78 f_61 l_71 f_75
      · have h := it_n hp_54 h
        refine go_iconst (n := 1) (z := 1) (by decide +kernel) (by decide) fun v_79 f_80 => ?_
        refine go_iload_n (n := 3) (by decide +kernel) l3 f3 ?_
        refine go_ishl (by decide +kernel) f_80 f3 fun v_81 f_82 => ?_
        refine go_goto (o := 4) (t := 51) (by decide +kernel) (by decide +kernel) ?_
        refine go_ior (by decide +kernel) f2 f_82 fun v_83 f_84 => ?_
        obtain ⟨x_85, e_86, h⟩ := lx_s h
        have f_87 := q_is_eq f_84 e_86
        refine go_istore_n (n := 2) (by decide +kernel) (by decide +kernel) f_87 fun L_88 l_89 kp_90 => ?_
        have l_91 := kp_90 0 _ l0 (by decide) (Or.inl (by decide))
        have l_92 := kp_90 1 _ l1 (by decide) (Or.inr (q_is_cat f1 (Or.inl rfl)))
        have l_93 := kp_90 3 _ l3 (by decide) (Or.inl (by decide))
        refine go_iinc (n := 3) (c := 1) (c' := 1) (by decide +kernel) (by decide +kernel) l_93 f3 (by decide) fun L_94 v_95 f_96 l_97 kp_98 => ?_
        obtain ⟨x_99, e_100, h⟩ := lx_s h
        have f_101 := q_is_eq f_96 e_100
        have l_102 := kp_98 0 _ l_91 (by decide) (Or.inl (by decide))
        have l_103 := kp_98 1 _ l_92 (by decide) (Or.inl (by decide))
        have l_104 := kp_98 2 _ l_89 (by decide) (Or.inr (q_is_cat f_87 (Or.inl rfl)))
        refine go_goto (o := (-31)) (t := 25) (by decide +kernel) (by decide +kernel) ?_
        exact ih h R l_102 f0 l_103 f1 l_104 f_87 l_97 f_101
noncomputable def fj_X12_search_13 (y1 s0 : Int) (m : MM) : Option (Int × MM) := bd (fm_X12_fails s0 m) fun x_14 m_15 =>
if x_14 = 0 then
fl_X12_search_25 y1 m_15  BIG 0 0
else
some (0, m_15)
set_option maxHeartbeats 4000000 in
theorem oj_X12_search_13 {xs : List Int32} {d : Nat} {S : QS} {L : QL} {Q : QO → QS → Prop} {m : MM} {y1 s0 : Int} {v0 : Value} {v1 : Value} {w0 : Value} {w1 : Value}  {rz : Int} {rm : MM}
  (hd : 2 ≤ d) (R : Rp S m) (l0 : q_lo L 0 = some v0) (f0 : q_is 2 v0 68) (l1 : q_lo L 1 = some v1) (f1 : q_is 0 v1 y1) (fs0 : q_is 0 w0 s0) (fs1 : q_is 2 w1 68)
  (hQ : Ext m rm → ∀ o S1, Rp S1 rm → q_out 0 o rz → Q o S1)
  (h : fj_X12_search_13 y1 s0 m = some (rz, rm)) : Go xs d qM_X12_search 13 L [w0, w1] S Q := by
  unfold fj_X12_search_13 at h
  obtain ⟨x_14, m_15, hc_13, h⟩ := bd_s h
  refine go_callV (x := 324) (mi := 186) (n := 1) (ci := 13) (as := [w0]) (rest := []) (by decide +kernel) (by decide +kernel) rfl rfl (q_sum8 _ (Nat.le_of_ble_eq_true rfl)) R fs1 (fx_k (c := 13) R (by decide +kernel)) (om_X12_fails (Nat.le_trans (by decide) hd) R fs1 fs0 hc_13) (fun _ S_18 q_21 => ?_) (fun _ _ qq => kr_x qq)
  refine kr_z (by decide) q_21 fun v_16 f_17 R_19 E_20 => ?_
  have E_22 := E_20
  refine go_if (c := .eq) (o := 5) (t := 21) (P := x_14 = 0) (by decide +kernel) (by decide +kernel) f_17 (Iff.rfl) (fun hp_23 => ?_) (fun hp_23 => ?_)
  · have h := it_t hp_23 h
    refine go_iconst (n := 0) (z := 0) (by decide +kernel) (by decide) fun v_24 f_25 => ?_
    refine go_istore_n (n := 2) (by decide +kernel) (by decide +kernel) f_25 fun L_26 l_27 kp_28 => ?_
    have l_29 := kp_28 0 _ l0 (by decide) (Or.inl (by decide))
    have l_30 := kp_28 1 _ l1 (by decide) (Or.inr (q_is_cat f1 (Or.inl rfl)))
    refine go_iconst (n := 0) (z := 0) (by decide +kernel) (by decide) fun v_31 f_32 => ?_
    refine go_istore_n (n := 3) (by decide +kernel) (by decide +kernel) f_32 fun L_33 l_34 kp_35 => ?_
    have l_36 := kp_35 0 _ l_29 (by decide) (Or.inl (by decide))
    have l_37 := kp_35 1 _ l_30 (by decide) (Or.inl (by decide))
    have l_38 := kp_35 2 _ l_27 (by decide) (Or.inr (q_is_cat f_25 (Or.inl rfl)))
    refine ol_X12_search_25 hd   (fun b => hQ (Ext.tr E_22 b)) BIG h R_19 l_36 f0 l_37 f1 l_38 f_25 l_34 f_32
  · have h := it_f hp_23 h
    refine go_iconst (n := 0) (z := 0) (by decide +kernel) (by decide) fun v_105 f_106 => ?_
    cases h
    exact go_iret (by decide +kernel) rfl (Or.inl rfl) f_106 (hQ E_22 _ _ R_19 (q_out_v (by decide) f_106))
noncomputable def fm_X12_search (p1 : Int) (m0 : MM) : Option (Int × MM) := bp (fm_X12_isValue p1 m0) fun x_2 =>
if x_2 = 0 then
fj_X12_search_13 p1 1 m0
else
fj_X12_search_13 p1 0 m0
set_option maxHeartbeats 4000000 in
theorem om_X12_search {xs : List Int32} {d : Nat} {S : QS} {m0 : MM} {p1 : Int} {v0 : Value} {v1 : Value} {rz : Int} {rm : MM}
  (hd : 3 ≤ d) (R : Rp S m0) (f0 : q_is 2 v0 68) (f1 : q_is 0 v1 p1)
  (h : fm_X12_search p1 m0 = some (rz, rm)) : Mt xs d 317 [v0, v1] S (Cr 0 m0 rm rz) := by
  obtain ⟨d, rfl⟩ : ∃ e, d = e + 1 := ⟨d - 1, by omega⟩
  have hd : 2 ≤ d := Nat.le_of_succ_le_succ hd
  refine Mt.of (M := qM_X12_search) rfl (by rw [sl_1 (q_is_cat f0 (Or.inr rfl)), sl_1 (q_is_cat f1 (Or.inl rfl)), sl_0]; decide) ?_
  rw [la_1 (q_is_cat f0 (Or.inr rfl)), la_1 (q_is_cat f1 (Or.inl rfl)), la_0]
  obtain ⟨L, hL⟩ : ∃ L : QL, L = [(0, v0), (0 + 1, v1)] := ⟨_, rfl⟩
  rw [← hL]
  have l0 : q_lo L 0 = some v0 := by rw [hL]; rfl
  have l1 : q_lo L 1 = some v1 := by rw [hL]; rfl
  have hQ : Ext m0 rm → ∀ o S1, Rp S1 rm → q_out 0 o rz → (Cr 0 m0 rm rz) o S1 := fun a o S1 b e => ⟨b, a, e⟩
  unfold fm_X12_search at h
  refine go_aload_n (n := 0) (by decide +kernel) l0 f0 ?_
  refine go_iload_n (n := 1) (by decide +kernel) l1 f1 ?_
  obtain ⟨x_2, hc_1, h⟩ := bp_s h
  refine go_callS (x := 573) (mi := 194) (n := 1) (b := 0) (as := [v1]) (rest := [v0]) (by decide +kernel) (by decide +kernel) rfl rfl (q_sum8 _ (Nat.le_of_ble_eq_true rfl)) (om_X12_isValue (Nat.le_trans (by decide) hd) R f1 hc_1) (fun _ S_6 q_9 => ?_) (fun _ _ qq => kr_x qq)
  refine kr_z (by decide) q_9 fun v_4 f_5 R_7 E_8 => ?_
  refine go_if (c := .eq) (o := 7) (t := 12) (P := x_2 = 0) (by decide +kernel) (by decide +kernel) f_5 (Iff.rfl) (fun hp_10 => ?_) (fun hp_10 => ?_)
  · have h := it_t hp_10 h
    refine go_iconst (n := 1) (z := 1) (by decide +kernel) (by decide) fun v_11 f_12 => ?_
    exact oj_X12_search_13 hd R_7 l0 f0 l1 f1 f_12 f0 hQ h
  · have h := it_f hp_10 h
    refine go_iconst (n := 0) (z := 0) (by decide +kernel) (by decide) fun v_107 f_108 => ?_
    refine go_goto (o := 4) (t := 13) (by decide +kernel) (by decide +kernel) ?_
    exact oj_X12_search_13 hd R_7 l0 f0 l1 f1 f_108 f0 hQ h
noncomputable def fm_L_line (p1 p2 p3 p4 : Int) (m0 : MM) : Option (Int × MM) := bx (fm_X11_line p1 p2 p3 p4 m0) (fun q_12 m_5 =>
if q_12 = 0 then
some (1, m_5)
else if q_12 = 1 then
some (2, m_5)
else if q_12 = 2 then
some (3, m_5)
else none) fun x_4 m_5 =>
up m_5 162 0 x_4 fun m_32 =>
some (0, m_32)
set_option maxHeartbeats 4000000 in
theorem om_L_line {xs : List Int32} {d : Nat} {S : QS} {m0 : MM} {p1 p2 p3 p4 : Int} {v0 : Value} {v1 : Value} {v2 : Value} {v3 : Value} {v4 : Value} {v5 : Value} {rz : Int} {rm : MM}
  (hd : 3 ≤ d) (R : Rp S m0) (f0 : q_is 2 v0 4) (f1 : q_is 0 v1 p1) (f2 : q_is 0 v2 p2) (f3 : q_is 0 v3 p3) (f4 : q_is 0 v4 p4) (f5 : q_is 2 v5 162)
  (h : fm_L_line p1 p2 p3 p4 m0 = some (rz, rm)) : Mt xs d 340 [v0, v1, v2, v3, v4, v5] S (Cr 0 m0 rm rz) := by
  obtain ⟨d, rfl⟩ : ∃ e, d = e + 1 := ⟨d - 1, by omega⟩
  have hd : 2 ≤ d := Nat.le_of_succ_le_succ hd
  refine Mt.of (M := qM_L_line) rfl (by rw [sl_1 (q_is_cat f0 (Or.inr rfl)), sl_1 (q_is_cat f1 (Or.inl rfl)), sl_1 (q_is_cat f2 (Or.inl rfl)), sl_1 (q_is_cat f3 (Or.inl rfl)), sl_1 (q_is_cat f4 (Or.inl rfl)), sl_1 (q_is_cat f5 (Or.inr rfl)), sl_0]; decide) ?_
  rw [la_1 (q_is_cat f0 (Or.inr rfl)), la_1 (q_is_cat f1 (Or.inl rfl)), la_1 (q_is_cat f2 (Or.inl rfl)), la_1 (q_is_cat f3 (Or.inl rfl)), la_1 (q_is_cat f4 (Or.inl rfl)), la_1 (q_is_cat f5 (Or.inr rfl)), la_0]
  obtain ⟨L, hL⟩ : ∃ L : QL, L = [(0, v0), (0 + 1, v1), (0 + 1 + 1, v2), (0 + 1 + 1 + 1, v3), (0 + 1 + 1 + 1 + 1, v4), (0 + 1 + 1 + 1 + 1 + 1, v5)] := ⟨_, rfl⟩
  rw [← hL]
  have l0 : q_lo L 0 = some v0 := by rw [hL]; rfl
  have l1 : q_lo L 1 = some v1 := by rw [hL]; rfl
  have l2 : q_lo L 2 = some v2 := by rw [hL]; rfl
  have l3 : q_lo L 3 = some v3 := by rw [hL]; rfl
  have l4 : q_lo L 4 = some v4 := by rw [hL]; rfl
  have l5 : q_lo L 5 = some v5 := by rw [hL]; rfl
  have hQ : Ext m0 rm → ∀ o S1, Rp S1 rm → q_out 0 o rz → (Cr 0 m0 rm rz) o S1 := fun a o S1 b e => ⟨b, a, e⟩
  unfold fm_L_line at h
  refine go_aload (n := 5) (by decide +kernel) l5 f5 ?_
  refine go_iconst (n := 0) (z := 0) (by decide +kernel) (by decide) fun v_1 f_2 => ?_
  refine go_aload_n (n := 0) (by decide +kernel) l0 f0 ?_
  refine go_iload_n (n := 1) (by decide +kernel) l1 f1 ?_
  refine go_iload_n (n := 2) (by decide +kernel) l2 f2 ?_
  refine go_iload_n (n := 3) (by decide +kernel) l3 f3 ?_
  refine go_iload (n := 4) (by decide +kernel) l4 f4 ?_
  obtain ⟨rr5, m_5, hc_3, h⟩ := bx_s h
  rcases h with ⟨q_12, rfl, h⟩ | ⟨x_4, rfl, h⟩
  · refine go_callV (x := 7) (mi := 100) (n := 4) (ci := 12) (as := [v1, v2, v3, v4]) (rest := [v_1, v5]) (by decide +kernel) (by decide +kernel) rfl rfl (q_sum8 _ (Nat.le_of_ble_eq_true rfl)) R f0 (fx_k (c := 12) R (by decide +kernel)) (om_X11_line (Nat.le_trans (by decide) hd) R f0 f1 f2 f3 f4 hc_3) (fun _ _ qq => kx_lx qq) (fun _ _ qq => ?_)
    obtain ⟨rfl, Rq, Eq⟩ := kx_e qq
    by_cases hp_14 : q_12 = 0
    · have h := it_t hp_14 h
      subst hp_14
      refine Or.inr ⟨by decide, _, _, q_hand_n (n := 6) (h := (0, 14, 17, 13)) (by decide +kernel) (by decide +kernel) (by decide), ?_⟩
      refine go_iconst (n := 1) (z := 1) (by decide +kernel) (by decide) fun v_17 f_18 => ?_
      cases h
      exact go_iret (by decide +kernel) rfl (Or.inl rfl) f_18 (hQ Eq _ _ Rq (q_out_v (by decide) f_18))
    have h := it_f hp_14 h
    by_cases hp_19 : q_12 = 1
    · have h := it_t hp_19 h
      subst hp_19
      refine Or.inr ⟨by decide, _, _, q_hand_n (n := 6) (h := (0, 14, 21, 15)) (by decide +kernel) (by decide +kernel) (by decide), ?_⟩
      refine go_iconst (n := 2) (z := 2) (by decide +kernel) (by decide) fun v_22 f_23 => ?_
      cases h
      exact go_iret (by decide +kernel) rfl (Or.inl rfl) f_23 (hQ Eq _ _ Rq (q_out_v (by decide) f_23))
    have h := it_f hp_19 h
    by_cases hp_24 : q_12 = 2
    · have h := it_t hp_24 h
      subst hp_24
      refine Or.inr ⟨by decide, _, _, q_hand_n (n := 6) (h := (0, 14, 25, 17)) (by decide +kernel) (by decide +kernel) (by decide), ?_⟩
      refine go_iconst (n := 3) (z := 3) (by decide +kernel) (by decide) fun v_27 f_28 => ?_
      cases h
      exact go_iret (by decide +kernel) rfl (Or.inl rfl) f_28 (hQ Eq _ _ Rq (q_out_v (by decide) f_28))
    have h := it_f hp_24 h
    cases h
  refine go_callV (x := 7) (mi := 100) (n := 4) (ci := 12) (as := [v1, v2, v3, v4]) (rest := [v_1, v5]) (by decide +kernel) (by decide +kernel) rfl rfl (q_sum8 _ (Nat.le_of_ble_eq_true rfl)) R f0 (fx_k (c := 12) R (by decide +kernel)) (om_X11_line (Nat.le_trans (by decide) hd) R f0 f1 f2 f3 f4 hc_3) (fun _ S_8 q_11 => ?_) (fun _ _ qq => kr_x (kx_l qq))
  have q_11 := kx_l q_11
  refine kr_z (by decide) q_11 fun v_6 f_7 R_9 E_10 => ?_
  have E_29 := E_10
  refine go_i2l (by decide +kernel) f_7 fun v_30 f_31 => ?_
  obtain ⟨m_32, e_33, h⟩ := up_s h
  refine go_last (kd := 101) (by decide +kernel) rfl R_9 f5 f_2 f_31 (fx_k (c := 101) R_9 (by decide +kernel)) (fx_x (a := 162) (ln := 1) R_9 (by decide +kernel) (by decide)) e_33 (fx_a R_9.2 (fx_k (c := 101) R_9 (by decide +kernel)) (And.left (fx_x (a := 162) (ln := 1) R_9 (by decide +kernel) (by decide))) (by decide +kernel)) fun S_34 R_35 E_36 => ?_
  have E_37 := Ext.tr E_29 E_36
  refine go_goto (o := 15) (t := 29) (by decide +kernel) (by decide +kernel) ?_
  refine go_iconst (n := 0) (z := 0) (by decide +kernel) (by decide) fun v_38 f_39 => ?_
  cases h
  exact go_iret (by decide +kernel) rfl (Or.inl rfl) f_39 (hQ E_37 _ _ R_35 (q_out_v (by decide) f_39))
end DF47
