/-! Methods as functions (written by wip/whole/dec.py), 47: X12_togglePause, X12_backfill, X12_shift, X12_bringIn, X12_search, L_line. -/
section DF47
noncomputable def fj_X12_togglePause_14 (y1 s0 : Int) (m : MM) : Option (Int × MM) := bd (fm_X12_fails s0 m) fun x_14 m_15 =>
if x_14 = 0 then
gd (0 ≤ y1 ∧ y1 < 4) <| lx (m_15 133 y1) fun x_36 =>
if x_36 = 0 then
up m_15 133 y1 1 fun m_59 =>
lx (m_59 133 y1) fun x_72 =>
gd (x_72 = 0 ∨ x_72 = 1) <| some (x_72, m_59)
else
up m_15 133 y1 0 fun m_41 =>
lx (m_41 133 y1) fun x_54 =>
gd (x_54 = 0 ∨ x_54 = 1) <| some (x_54, m_41)
else
some (0, m_15)
set_option maxHeartbeats 4000000 in
theorem oj_X12_togglePause_14 {xs : List Int32} {d : Nat} {S : QS} {L : QL} {Q : QO → QS → Prop} {m : MM} {y1 s0 : Int} {v0 : Value} {v1 : Value} {w0 : Value} {w1 : Value}  {rz : Int} {rm : MM}
  (hd : 2 ≤ d) (R : Rp S m) (l0 : q_lo L 0 = some v0) (f0 : q_is 2 v0 68) (l1 : q_lo L 1 = some v1) (f1 : q_is 0 v1 y1) (fs0 : q_is 0 w0 s0) (fs1 : q_is 2 w1 68)
  (hQ : Ext m rm → ∀ o S1, Rp S1 rm → q_out 0 o rz → Q o S1)
  (h : fj_X12_togglePause_14 y1 s0 m = some (rz, rm)) : Go xs d qM_X12_togglePause 14 L [w0, w1] S Q := by
  unfold fj_X12_togglePause_14 at h
  obtain ⟨x_14, m_15, hc_13, h⟩ := bd_s h
  refine go_callV (x := 324) (mi := 186) (n := 1) (ci := 13) (as := [w0]) (rest := []) (by decide +kernel) (by decide +kernel) rfl rfl (q_sum8 _ (Nat.le_of_ble_eq_true rfl)) R fs1 (fx_k (c := 13) R (by decide +kernel)) (om_X12_fails (Nat.le_trans (by decide) hd) R fs1 fs0 hc_13) (fun _ S_18 q_21 => ?_) (fun _ _ qq => kr_x qq)
  refine kr_z (by decide) q_21 fun v_16 f_17 R_19 E_20 => ?_
  have E_24 := E_20
  refine go_if (c := .eq) (o := 5) (t := 22) (P := x_14 = 0) (by decide +kernel) (by decide +kernel) f_17 (Iff.rfl) (fun hp_25 => ?_) (fun hp_25 => ?_)
  · have h := it_t hp_25 h
    refine go_aload_n (n := 0) (by decide +kernel) l0 f0 ?_
    refine go_getf (x := 213) (ci := 13) (kf := 75) (fin := 1) (t := 2) (by decide +kernel) (by decide +kernel) (by decide +kernel) R_19 f0 (fx_k (c := 13) R_19 (by decide +kernel)) fun v_26 f_27 => ?_
    have f_28 := q_is_eq (b := 133) f_27 (fx_v R_19 (by decide +kernel)).symm
    refine go_iload_n (n := 1) (by decide +kernel) l1 f1 ?_
    refine go_aload_n (n := 0) (by decide +kernel) l0 f0 ?_
    refine go_getf (x := 213) (ci := 13) (kf := 75) (fin := 1) (t := 2) (by decide +kernel) (by decide +kernel) (by decide +kernel) R_19 f0 (fx_k (c := 13) R_19 (by decide +kernel)) fun v_29 f_30 => ?_
    have f_31 := q_is_eq (b := 133) f_30 (fx_v R_19 (by decide +kernel)).symm
    refine go_iload_n (n := 1) (by decide +kernel) l1 f1 ?_
    obtain ⟨g_34, h⟩ := gd_s h
    obtain ⟨x_36, e_37, h⟩ := lx_s h
    refine go_bald (kd := 102) (by decide +kernel) rfl R_19 f_31 f1 (fx_k (c := 102) R_19 (by decide +kernel)) (fx_x (a := 133) (ln := 4) R_19 (by decide +kernel) g_34) fun v_32 f_33 => ?_
    have f_35 := q_is_eq f_33 e_37
    refine go_if (c := .ne) (o := 7) (t := 40) (P := ¬ (x_36 = 0)) (by decide +kernel) (by decide +kernel) f_35 (Iff.rfl) (fun hp_38 => ?_) (fun hp_38 => ?_)
    · have h := it_f hp_38 h
      refine go_iconst (n := 0) (z := 0) (by decide +kernel) (by decide) fun v_39 f_40 => ?_
      obtain ⟨m_41, e_42, h⟩ := up_s h
      refine go_bast (kd := 102) (by decide +kernel) rfl R_19 f_28 f1 f_40 (by decide) (fx_k (c := 102) R_19 (by decide +kernel)) (fx_x (a := 133) (ln := 4) R_19 (by decide +kernel) g_34) e_42 (fx_a R_19.2 (fx_k (c := 102) R_19 (by decide +kernel)) (And.left (fx_x (a := 133) (ln := 4) R_19 (by decide +kernel) g_34)) (by decide +kernel)) fun S_43 R_44 E_45 => ?_
      have E_47 := Ext.tr E_24 E_45
      refine go_aload_n (n := 0) (by decide +kernel) l0 f0 ?_
      refine go_getf (x := 213) (ci := 13) (kf := 75) (fin := 1) (t := 2) (by decide +kernel) (by decide +kernel) (by decide +kernel) R_44 f0 (fx_k (c := 13) R_44 (by decide +kernel)) fun v_48 f_49 => ?_
      have f_50 := q_is_eq (b := 133) f_49 (fx_v R_44 (by decide +kernel)).symm
      refine go_iload_n (n := 1) (by decide +kernel) l1 f1 ?_
      obtain ⟨x_54, e_55, h⟩ := lx_s h
      refine go_bald (kd := 102) (by decide +kernel) rfl R_44 f_50 f1 (fx_k (c := 102) R_44 (by decide +kernel)) (fx_x (a := 133) (ln := 4) R_44 (by decide +kernel) g_34) fun v_51 f_52 => ?_
      have f_53 := q_is_eq f_52 e_55
      obtain ⟨g_56, h⟩ := gd_s h
      cases h
      exact go_iret (by decide +kernel) rfl (Or.inr ⟨rfl, g_56⟩) f_53 (hQ E_47 _ _ R_44 (q_out_v (by decide) f_53))
    · have h := it_n hp_38 h
      refine go_iconst (n := 1) (z := 1) (by decide +kernel) (by decide) fun v_57 f_58 => ?_
      refine go_goto (o := 4) (t := 41) (by decide +kernel) (by decide +kernel) ?_
      obtain ⟨m_59, e_60, h⟩ := up_s h
      refine go_bast (kd := 102) (by decide +kernel) rfl R_19 f_28 f1 f_58 (by decide) (fx_k (c := 102) R_19 (by decide +kernel)) (fx_x (a := 133) (ln := 4) R_19 (by decide +kernel) g_34) e_60 (fx_a R_19.2 (fx_k (c := 102) R_19 (by decide +kernel)) (And.left (fx_x (a := 133) (ln := 4) R_19 (by decide +kernel) g_34)) (by decide +kernel)) fun S_61 R_62 E_63 => ?_
      have E_65 := Ext.tr E_24 E_63
      refine go_aload_n (n := 0) (by decide +kernel) l0 f0 ?_
      refine go_getf (x := 213) (ci := 13) (kf := 75) (fin := 1) (t := 2) (by decide +kernel) (by decide +kernel) (by decide +kernel) R_62 f0 (fx_k (c := 13) R_62 (by decide +kernel)) fun v_66 f_67 => ?_
      have f_68 := q_is_eq (b := 133) f_67 (fx_v R_62 (by decide +kernel)).symm
      refine go_iload_n (n := 1) (by decide +kernel) l1 f1 ?_
      obtain ⟨x_72, e_73, h⟩ := lx_s h
      refine go_bald (kd := 102) (by decide +kernel) rfl R_62 f_68 f1 (fx_k (c := 102) R_62 (by decide +kernel)) (fx_x (a := 133) (ln := 4) R_62 (by decide +kernel) g_34) fun v_69 f_70 => ?_
      have f_71 := q_is_eq f_70 e_73
      obtain ⟨g_74, h⟩ := gd_s h
      cases h
      exact go_iret (by decide +kernel) rfl (Or.inr ⟨rfl, g_74⟩) f_71 (hQ E_65 _ _ R_62 (q_out_v (by decide) f_71))
  · have h := it_f hp_25 h
    refine go_iconst (n := 0) (z := 0) (by decide +kernel) (by decide) fun v_75 f_76 => ?_
    cases h
    exact go_iret (by decide +kernel) rfl (Or.inr ⟨rfl, by decide⟩) f_76 (hQ E_24 _ _ R_19 (q_out_v (by decide) f_76))
noncomputable def fm_X12_togglePause (p1 : Int) (m0 : MM) : Option (Int × MM) := bp (fm_X12_isSchedule p1 m0) fun x_2 =>
if x_2 = 0 then
fj_X12_togglePause_14 p1 1 m0
else
fj_X12_togglePause_14 p1 0 m0
set_option maxHeartbeats 4000000 in
theorem om_X12_togglePause {xs : List Int32} {d : Nat} {S : QS} {m0 : MM} {p1 : Int} {v0 : Value} {v1 : Value} {rz : Int} {rm : MM}
  (hd : 3 ≤ d) (R : Rp S m0) (f0 : q_is 2 v0 68) (f1 : q_is 0 v1 p1)
  (h : fm_X12_togglePause p1 m0 = some (rz, rm)) : Mt xs d 313 [v0, v1] S (Cr 0 m0 rm rz) := by
  obtain ⟨d, rfl⟩ : ∃ e, d = e + 1 := ⟨d - 1, by omega⟩
  have hd : 2 ≤ d := Nat.le_of_succ_le_succ hd
  refine Mt.of (M := qM_X12_togglePause) rfl (by rw [sl_1 (q_is_cat f0 (Or.inr rfl)), sl_1 (q_is_cat f1 (Or.inl rfl)), sl_0]; decide) ?_
  rw [la_1 (q_is_cat f0 (Or.inr rfl)), la_1 (q_is_cat f1 (Or.inl rfl)), la_0]
  obtain ⟨L, hL⟩ : ∃ L : QL, L = [(0, v0), (0 + 1, v1)] := ⟨_, rfl⟩
  rw [← hL]
  have l0 : q_lo L 0 = some v0 := by rw [hL]; rfl
  have l1 : q_lo L 1 = some v1 := by rw [hL]; rfl
  have hQ : Ext m0 rm → ∀ o S1, Rp S1 rm → q_out 0 o rz → (Cr 0 m0 rm rz) o S1 := fun a o S1 b e => ⟨b, a, e⟩
  unfold fm_X12_togglePause at h
  refine go_aload_n (n := 0) (by decide +kernel) l0 f0 ?_
  refine go_aload_n (n := 0) (by decide +kernel) l0 f0 ?_
  refine go_iload_n (n := 1) (by decide +kernel) l1 f1 ?_
  obtain ⟨x_2, hc_1, h⟩ := bp_s h
  refine go_callV (x := 709) (mi := 306) (n := 1) (ci := 13) (as := [v1]) (rest := [v0]) (by decide +kernel) (by decide +kernel) rfl rfl (q_sum8 _ (Nat.le_of_ble_eq_true rfl)) R f0 (fx_k (c := 13) R (by decide +kernel)) (om_X12_isSchedule (Nat.le_trans (by decide) hd) R f0 f1 hc_1) (fun _ S_6 q_9 => ?_) (fun _ _ qq => kr_x qq)
  refine kr_z (by decide) q_9 fun v_4 f_5 R_7 E_8 => ?_
  refine go_if (c := .eq) (o := 7) (t := 13) (P := x_2 = 0) (by decide +kernel) (by decide +kernel) f_5 (Iff.rfl) (fun hp_10 => ?_) (fun hp_10 => ?_)
  · have h := it_t hp_10 h
    refine go_iconst (n := 1) (z := 1) (by decide +kernel) (by decide) fun v_11 f_12 => ?_
    exact oj_X12_togglePause_14 hd R_7 l0 f0 l1 f1 f_12 f0 hQ h
  · have h := it_f hp_10 h
    refine go_iconst (n := 0) (z := 0) (by decide +kernel) (by decide) fun v_77 f_78 => ?_
    refine go_goto (o := 4) (t := 14) (by decide +kernel) (by decide +kernel) ?_
    exact oj_X12_togglePause_14 hd R_7 l0 f0 l1 f1 f_78 f0 hQ h
noncomputable def fl_X12_backfill_77 (y1 y3 : Int) : Nat → Int → Int → MM → Option (Int × MM)
  | 0, _, _, _ => none
  | n + 1, y4, y5, m => if y3 < y5 then
some (y4, m)
else
gd (0 ≤ y1 ∧ y1 < 4) <| lx (m 130 y1) fun x_116 =>
bp (fm_X12_ofThousand (w32 (y5 * x_116)) m) fun x_121 =>
bd (fm_X12_beginsFor y1 x_121 m) fun x_130 m_131 =>
if x_130 = (-1) then
lx (w32 (y4 + 0)) fun x_174 =>
lx (w32 (y5 + 1)) fun x_189 =>
fl_X12_backfill_77 y1 y3 n x_174 x_189 m_131
else
lx (w32 (y4 + 1)) fun x_148 =>
lx (w32 (y5 + 1)) fun x_163 =>
fl_X12_backfill_77 y1 y3 n x_148 x_163 m_131
set_option maxHeartbeats 4000000 in
theorem ol_X12_backfill_77 {xs : List Int32} {d : Nat} {Q : QO → QS → Prop} {mb : MM} {y1 y3 : Int} {rz : Int} {rm : MM}
  (hd : 5 ≤ d)
  (hQ : Ext mb rm → ∀ o S1, Rp S1 rm → q_out 0 o rz → Q o S1) :
  ∀ (n : Nat) {m : MM} {S : QS} {L : QL} {y4 y5 : Int} {v0 : Value} {v1 : Value} {v3 : Value} {v4 : Value} {v5 : Value} , Ext mb m → fl_X12_backfill_77 y1 y3 n y4 y5 m = some (rz, rm) → Rp S m → q_lo L 0 = some v0 → q_is 2 v0 68 → q_lo L 1 = some v1 → q_is 0 v1 y1 → q_lo L 3 = some v3 → q_is 0 v3 y3 → q_lo L 4 = some v4 → q_is 0 v4 y4 → q_lo L 5 = some v5 → q_is 0 v5 y5 → Go xs d qM_X12_backfill 77 L [] S Q := by
  intro n
  induction n with
  | zero => intro m S L y4 y5 v0 v1 v3 v4 v5; intro E h R l0 f0 l1 f1 l3 f3 l4 f4 l5 f5; cases h
  | succ n ih0 =>
    intro m S L y4 y5 v0 v1 v3 v4 v5; intro E h R l0 f0 l1 f1 l3 f3 l4 f4 l5 f5
    have ih : ∀ mq : MM, Ext mb mq → ∀ {z4 : Int} {z5 : Int} {Sq : QS} {Lq : QL} {u0 : Value} {u1 : Value} {u3 : Value} {u4 : Value} {u5 : Value}, fl_X12_backfill_77 y1 y3 n z4 z5 mq = some (rz, rm) → Rp Sq mq → q_lo Lq 0 = some u0 → q_is 2 u0 68 → q_lo Lq 1 = some u1 → q_is 0 u1 y1 → q_lo Lq 3 = some u3 → q_is 0 u3 y3 → q_lo Lq 4 = some u4 → q_is 0 u4 z4 → q_lo Lq 5 = some u5 → q_is 0 u5 z5 → Go xs d qM_X12_backfill 77 Lq [] Sq Q := fun mq b => by intros; exact ih0 b ‹_› ‹_› ‹_› ‹_› ‹_› ‹_› ‹_› ‹_› ‹_› ‹_› ‹_› ‹_›
    unfold fl_X12_backfill_77 at h
    refine go_iload (n := 5) (by decide +kernel) l5 f5 ?_
    refine go_iload_n (n := 3) (by decide +kernel) l3 f3 ?_
    refine go_icmp (c := .gt) (o := 40) (t := 120) (P := y3 < y5) (by decide +kernel) (by decide +kernel) f5 f3 (Iff.rfl) (fun hp_108 => ?_) (fun hp_108 => ?_)
    · have h := it_t hp_108 h
      refine go_iload (n := 4) (by decide +kernel) l4 f4 ?_
      cases h
      exact go_iret (by decide +kernel) rfl (Or.inl rfl) f4 (hQ E _ _ R (q_out_v (by decide) f4))
    · have h := it_f hp_108 h
      refine go_iload (n := 4) (by decide +kernel) l4 f4 ?_
      refine go_aload_n (n := 0) (by decide +kernel) l0 f0 ?_
      refine go_iload_n (n := 1) (by decide +kernel) l1 f1 ?_
      refine go_iload (n := 5) (by decide +kernel) l5 f5 ?_
      refine go_aload_n (n := 0) (by decide +kernel) l0 f0 ?_
      refine go_getf (x := 204) (ci := 13) (kf := 72) (fin := 1) (t := 2) (by decide +kernel) (by decide +kernel) (by decide +kernel) R f0 (fx_k (c := 13) R (by decide +kernel)) fun v_109 f_110 => ?_
      have f_111 := q_is_eq (b := 130) f_110 (fx_v R (by decide +kernel)).symm
      refine go_iload_n (n := 1) (by decide +kernel) l1 f1 ?_
      obtain ⟨g_114, h⟩ := gd_s h
      obtain ⟨x_116, e_117, h⟩ := lx_s h
      refine go_iald (kd := 100) (by decide +kernel) rfl R f_111 f1 (fx_k (c := 100) R (by decide +kernel)) (fx_x (a := 130) (ln := 4) R (by decide +kernel) g_114) fun v_112 f_113 => ?_
      have f_115 := q_is_eq f_113 e_117
      refine go_imul (by decide +kernel) f5 f_115 fun v_118 f_119 => ?_
      obtain ⟨x_121, hc_120, h⟩ := bp_s h
      refine go_callS (x := 703) (mi := 195) (n := 1) (b := 0) (as := [v_118]) (rest := [v1, v0, v4]) (by decide +kernel) (by decide +kernel) rfl rfl (q_sum8 _ (Nat.le_of_ble_eq_true rfl)) (om_X12_ofThousand (Nat.le_trans (by decide) hd) R f_119 hc_120) (fun _ S_125 q_128 => ?_) (fun _ _ qq => kr_x qq)
      refine kr_z (by decide) q_128 fun v_123 f_124 R_126 E_127 => ?_
      obtain ⟨x_130, m_131, hc_129, h⟩ := bd_s h
      refine go_callV (x := 694) (mi := 308) (n := 2) (ci := 13) (as := [v1, v_123]) (rest := [v4]) (by decide +kernel) (by decide +kernel) rfl rfl (q_sum8 _ (Nat.le_of_ble_eq_true rfl)) R_126 f0 (fx_k (c := 13) R_126 (by decide +kernel)) (om_X12_beginsFor (Nat.le_trans (by decide) hd) R_126 f0 f1 f_124 hc_129) (fun _ S_134 q_137 => ?_) (fun _ _ qq => kr_x qq)
      refine kr_z (by decide) q_137 fun v_132 f_133 R_135 E_136 => ?_
      have E_140 := Ext.tr E E_136
      refine go_iconst (n := (-1)) (z := (-1)) (by decide +kernel) (by decide) fun v_141 f_142 => ?_
      refine go_icmp (c := .ne) (o := 7) (t := 110) (P := ¬ (x_130 = (-1))) (by decide +kernel) (by decide +kernel) f_133 f_142 (Iff.rfl) (fun hp_143 => ?_) (fun hp_143 => ?_)
      · have h := it_f hp_143 h
        refine go_iconst (n := 1) (z := 1) (by decide +kernel) (by decide) fun v_144 f_145 => ?_
        refine go_iadd (by decide +kernel) f4 f_145 fun v_146 f_147 => ?_
        obtain ⟨x_148, e_149, h⟩ := lx_s h
        have f_150 := q_is_eq f_147 e_149
        refine go_istore (n := 4) (by decide +kernel) (by decide +kernel) f_150 fun L_151 l_152 kp_153 => ?_
        have l_154 := kp_153 0 _ l0 (by decide) (Or.inl (by decide))
        have l_155 := kp_153 1 _ l1 (by decide) (Or.inl (by decide))
        have l_156 := kp_153 3 _ l3 (by decide) (Or.inr (q_is_cat f3 (Or.inl rfl)))
        have l_157 := kp_153 5 _ l5 (by decide) (Or.inl (by decide))
        refine go_iinc (n := 5) (c := 1) (c' := 1) (by decide +kernel) (by decide +kernel) l_157 f5 (by decide) fun L_158 v_159 f_160 l_161 kp_162 => ?_
        obtain ⟨x_163, e_164, h⟩ := lx_s h
        have f_165 := q_is_eq f_160 e_164
        have l_166 := kp_162 0 _ l_154 (by decide) (Or.inl (by decide))
        have l_167 := kp_162 1 _ l_155 (by decide) (Or.inl (by decide))
        have l_168 := kp_162 3 _ l_156 (by decide) (Or.inl (by decide))
        have l_169 := kp_162 4 _ l_152 (by decide) (Or.inr (q_is_cat f_150 (Or.inl rfl)))
        refine go_goto (o := (-40)) (t := 77) (by decide +kernel) (by decide +kernel) ?_
        exact ih m_131 E_140 h R_135 l_166 f0 l_167 f1 l_168 f3 l_169 f_150 l_161 f_165
      · have h := it_n hp_143 h
        refine go_iconst (n := 0) (z := 0) (by decide +kernel) (by decide) fun v_170 f_171 => ?_
        refine go_goto (o := 4) (t := 111) (by decide +kernel) (by decide +kernel) ?_
        refine go_iadd (by decide +kernel) f4 f_171 fun v_172 f_173 => ?_
        obtain ⟨x_174, e_175, h⟩ := lx_s h
        have f_176 := q_is_eq f_173 e_175
        refine go_istore (n := 4) (by decide +kernel) (by decide +kernel) f_176 fun L_177 l_178 kp_179 => ?_
        have l_180 := kp_179 0 _ l0 (by decide) (Or.inl (by decide))
        have l_181 := kp_179 1 _ l1 (by decide) (Or.inl (by decide))
        have l_182 := kp_179 3 _ l3 (by decide) (Or.inr (q_is_cat f3 (Or.inl rfl)))
        have l_183 := kp_179 5 _ l5 (by decide) (Or.inl (by decide))
        refine go_iinc (n := 5) (c := 1) (c' := 1) (by decide +kernel) (by decide +kernel) l_183 f5 (by decide) fun L_184 v_185 f_186 l_187 kp_188 => ?_
        obtain ⟨x_189, e_190, h⟩ := lx_s h
        have f_191 := q_is_eq f_186 e_190
        have l_192 := kp_188 0 _ l_180 (by decide) (Or.inl (by decide))
        have l_193 := kp_188 1 _ l_181 (by decide) (Or.inl (by decide))
        have l_194 := kp_188 3 _ l_182 (by decide) (Or.inl (by decide))
        have l_195 := kp_188 4 _ l_178 (by decide) (Or.inr (q_is_cat f_176 (Or.inl rfl)))
        refine go_goto (o := (-40)) (t := 77) (by decide +kernel) (by decide +kernel) ?_
        exact ih m_131 E_140 h R_135 l_192 f0 l_193 f1 l_194 f3 l_195 f_176 l_187 f_191
noncomputable def fj_X12_backfill_62 (y1 y2 s0 : Int) (m : MM) : Option (Int × MM) := bp (fm_X12_most 1 (w32 ((w32 (s0 - y2)) + 1)) m) fun x_93 =>
fl_X12_backfill_77 y1 s0  BIG 0 x_93 m
set_option maxHeartbeats 4000000 in
theorem oj_X12_backfill_62 {xs : List Int32} {d : Nat} {S : QS} {L : QL} {Q : QO → QS → Prop} {m : MM} {y1 y2 s0 : Int} {v0 : Value} {v1 : Value} {v2 : Value} {w0 : Value}  {rz : Int} {rm : MM}
  (hd : 5 ≤ d) (R : Rp S m) (l0 : q_lo L 0 = some v0) (f0 : q_is 2 v0 68) (l1 : q_lo L 1 = some v1) (f1 : q_is 0 v1 y1) (l2 : q_lo L 2 = some v2) (f2 : q_is 0 v2 y2) (fs0 : q_is 0 w0 s0)
  (hQ : Ext m rm → ∀ o S1, Rp S1 rm → q_out 0 o rz → Q o S1)
  (h : fj_X12_backfill_62 y1 y2 s0 m = some (rz, rm)) : Go xs d qM_X12_backfill 62 L [w0] S Q := by
  unfold fj_X12_backfill_62 at h
  refine go_istore_n (n := 3) (by decide +kernel) (by decide +kernel) fs0 fun L_69 l_70 kp_71 => ?_
  have l_72 := kp_71 0 _ l0 (by decide) (Or.inl (by decide))
  have l_73 := kp_71 1 _ l1 (by decide) (Or.inl (by decide))
  have l_74 := kp_71 2 _ l2 (by decide) (Or.inr (q_is_cat f2 (Or.inl rfl)))
  refine go_iconst (n := 0) (z := 0) (by decide +kernel) (by decide) fun v_75 f_76 => ?_
  refine go_istore (n := 4) (by decide +kernel) (by decide +kernel) f_76 fun L_77 l_78 kp_79 => ?_
  have l_80 := kp_79 0 _ l_72 (by decide) (Or.inl (by decide))
  have l_81 := kp_79 1 _ l_73 (by decide) (Or.inl (by decide))
  have l_82 := kp_79 2 _ l_74 (by decide) (Or.inl (by decide))
  have l_83 := kp_79 3 _ l_70 (by decide) (Or.inr (q_is_cat fs0 (Or.inl rfl)))
  refine go_iconst (n := 1) (z := 1) (by decide +kernel) (by decide) fun v_84 f_85 => ?_
  refine go_iload_n (n := 3) (by decide +kernel) l_83 fs0 ?_
  refine go_iload_n (n := 2) (by decide +kernel) l_82 f2 ?_
  refine go_isub (by decide +kernel) fs0 f2 fun v_86 f_87 => ?_
  refine go_iconst (n := 1) (z := 1) (by decide +kernel) (by decide) fun v_88 f_89 => ?_
  refine go_iadd (by decide +kernel) f_87 f_89 fun v_90 f_91 => ?_
  obtain ⟨x_93, hc_92, h⟩ := bp_s h
  refine go_callS (x := 338) (mi := 190) (n := 2) (b := 0) (as := [v_84, v_90]) (rest := []) (by decide +kernel) (by decide +kernel) rfl rfl (q_sum8 _ (Nat.le_of_ble_eq_true rfl)) (om_X12_most (Nat.le_trans (by decide) hd) R f_85 f_91 hc_92) (fun _ S_97 q_100 => ?_) (fun _ _ qq => kr_x qq)
  refine kr_z (by decide) q_100 fun v_95 f_96 R_98 E_99 => ?_
  refine go_istore (n := 5) (by decide +kernel) (by decide +kernel) f_96 fun L_101 l_102 kp_103 => ?_
  have l_104 := kp_103 0 _ l_80 (by decide) (Or.inl (by decide))
  have l_105 := kp_103 1 _ l_81 (by decide) (Or.inl (by decide))
  have l_106 := kp_103 3 _ l_83 (by decide) (Or.inl (by decide))
  have l_107 := kp_103 4 _ l_78 (by decide) (Or.inr (q_is_cat f_76 (Or.inl rfl)))
  refine ol_X12_backfill_77 hd   hQ BIG (Ext.rf _) h R_98 l_104 f0 l_105 f1 l_106 fs0 l_107 f_76 l_102 f_96
noncomputable def fj_X12_backfill_27 (y1 y2 s0 : Int) (m : MM) : Option (Int × MM) := bd (fm_X12_fails s0 m) fun x_28 m_29 =>
if x_28 = 0 then
gd (0 ≤ y1 ∧ y1 < 4) <| lx (m_29 132 y1) fun x_47 =>
if x_47 < 1 then
fj_X12_backfill_62 y1 y2 0 m_29
else
lx (m_29 130 y1) fun x_64 =>
gd (x_64 ≠ 0) <| fj_X12_backfill_62 y1 y2 (w32 (Int.tdiv x_47 x_64)) m_29
else
some (0, m_29)
set_option maxHeartbeats 4000000 in
theorem oj_X12_backfill_27 {xs : List Int32} {d : Nat} {S : QS} {L : QL} {Q : QO → QS → Prop} {m : MM} {y1 y2 s0 : Int} {v0 : Value} {v1 : Value} {v2 : Value} {w0 : Value} {w1 : Value}  {rz : Int} {rm : MM}
  (hd : 5 ≤ d) (R : Rp S m) (l0 : q_lo L 0 = some v0) (f0 : q_is 2 v0 68) (l1 : q_lo L 1 = some v1) (f1 : q_is 0 v1 y1) (l2 : q_lo L 2 = some v2) (f2 : q_is 0 v2 y2) (fs0 : q_is 0 w0 s0) (fs1 : q_is 2 w1 68)
  (hQ : Ext m rm → ∀ o S1, Rp S1 rm → q_out 0 o rz → Q o S1)
  (h : fj_X12_backfill_27 y1 y2 s0 m = some (rz, rm)) : Go xs d qM_X12_backfill 27 L [w0, w1] S Q := by
  unfold fj_X12_backfill_27 at h
  obtain ⟨x_28, m_29, hc_27, h⟩ := bd_s h
  refine go_callV (x := 324) (mi := 186) (n := 1) (ci := 13) (as := [w0]) (rest := []) (by decide +kernel) (by decide +kernel) rfl rfl (q_sum8 _ (Nat.le_of_ble_eq_true rfl)) R fs1 (fx_k (c := 13) R (by decide +kernel)) (om_X12_fails (Nat.le_trans (by decide) hd) R fs1 fs0 hc_27) (fun _ S_32 q_35 => ?_) (fun _ _ qq => kr_x qq)
  refine kr_z (by decide) q_35 fun v_30 f_31 R_33 E_34 => ?_
  have E_38 := E_34
  refine go_if (c := .eq) (o := 5) (t := 35) (P := x_28 = 0) (by decide +kernel) (by decide +kernel) f_31 (Iff.rfl) (fun hp_39 => ?_) (fun hp_39 => ?_)
  · have h := it_t hp_39 h
    refine go_aload_n (n := 0) (by decide +kernel) l0 f0 ?_
    refine go_getf (x := 210) (ci := 13) (kf := 74) (fin := 1) (t := 2) (by decide +kernel) (by decide +kernel) (by decide +kernel) R_33 f0 (fx_k (c := 13) R_33 (by decide +kernel)) fun v_40 f_41 => ?_
    have f_42 := q_is_eq (b := 132) f_41 (fx_v R_33 (by decide +kernel)).symm
    refine go_iload_n (n := 1) (by decide +kernel) l1 f1 ?_
    obtain ⟨g_45, h⟩ := gd_s h
    obtain ⟨x_47, e_48, h⟩ := lx_s h
    refine go_iald (kd := 100) (by decide +kernel) rfl R_33 f_42 f1 (fx_k (c := 100) R_33 (by decide +kernel)) (fx_x (a := 132) (ln := 4) R_33 (by decide +kernel) g_45) fun v_43 f_44 => ?_
    have f_46 := q_is_eq f_44 e_48
    refine go_iconst (n := 1) (z := 1) (by decide +kernel) (by decide) fun v_49 f_50 => ?_
    refine go_icmp (c := .ge) (o := 7) (t := 49) (P := ¬ (x_47 < 1)) (by decide +kernel) (by decide +kernel) f_46 f_50 (Int.not_lt.symm) (fun hp_51 => ?_) (fun hp_51 => ?_)
    · have h := it_f hp_51 h
      refine go_aload_n (n := 0) (by decide +kernel) l0 f0 ?_
      refine go_getf (x := 210) (ci := 13) (kf := 74) (fin := 1) (t := 2) (by decide +kernel) (by decide +kernel) (by decide +kernel) R_33 f0 (fx_k (c := 13) R_33 (by decide +kernel)) fun v_52 f_53 => ?_
      have f_54 := q_is_eq (b := 132) f_53 (fx_v R_33 (by decide +kernel)).symm
      refine go_iload_n (n := 1) (by decide +kernel) l1 f1 ?_
      refine go_iald (kd := 100) (by decide +kernel) rfl R_33 f_54 f1 (fx_k (c := 100) R_33 (by decide +kernel)) (fx_x (a := 132) (ln := 4) R_33 (by decide +kernel) g_45) fun v_55 f_56 => ?_
      have f_57 := q_is_eq f_56 e_48
      refine go_aload_n (n := 0) (by decide +kernel) l0 f0 ?_
      refine go_getf (x := 204) (ci := 13) (kf := 72) (fin := 1) (t := 2) (by decide +kernel) (by decide +kernel) (by decide +kernel) R_33 f0 (fx_k (c := 13) R_33 (by decide +kernel)) fun v_58 f_59 => ?_
      have f_60 := q_is_eq (b := 130) f_59 (fx_v R_33 (by decide +kernel)).symm
      refine go_iload_n (n := 1) (by decide +kernel) l1 f1 ?_
      obtain ⟨x_64, e_65, h⟩ := lx_s h
      refine go_iald (kd := 100) (by decide +kernel) rfl R_33 f_60 f1 (fx_k (c := 100) R_33 (by decide +kernel)) (fx_x (a := 130) (ln := 4) R_33 (by decide +kernel) g_45) fun v_61 f_62 => ?_
      have f_63 := q_is_eq f_62 e_65
      obtain ⟨g_68, h⟩ := gd_s h
      refine go_idiv (by decide +kernel) f_57 f_63 g_68 fun v_66 f_67 => ?_
      exact oj_X12_backfill_62 hd R_33 l0 f0 l1 f1 l2 f2 f_67 (fun b => hQ (Ext.tr E_38 b)) h
    · have h := it_n hp_51 h
      refine go_iconst (n := 0) (z := 0) (by decide +kernel) (by decide) fun v_196 f_197 => ?_
      refine go_goto (o := 16) (t := 62) (by decide +kernel) (by decide +kernel) ?_
      exact oj_X12_backfill_62 hd R_33 l0 f0 l1 f1 l2 f2 f_197 (fun b => hQ (Ext.tr E_38 b)) h
  · have h := it_f hp_39 h
    refine go_iconst (n := 0) (z := 0) (by decide +kernel) (by decide) fun v_198 f_199 => ?_
    cases h
    exact go_iret (by decide +kernel) rfl (Or.inl rfl) f_199 (hQ E_38 _ _ R_33 (q_out_v (by decide) f_199))
noncomputable def fm_X12_backfill (p1 p2 : Int) (m0 : MM) : Option (Int × MM) := bp (fm_X12_isSchedule p1 m0) fun x_2 =>
if x_2 = 0 then
fj_X12_backfill_27 p1 p2 1 m0
else
bp (fm_X12_isIn p2 1 5 m0) fun x_16 =>
if x_16 = 0 then
fj_X12_backfill_27 p1 p2 2 m0
else
fj_X12_backfill_27 p1 p2 0 m0
set_option maxHeartbeats 4000000 in
theorem om_X12_backfill {xs : List Int32} {d : Nat} {S : QS} {m0 : MM} {p1 p2 : Int} {v0 : Value} {v1 : Value} {v2 : Value} {rz : Int} {rm : MM}
  (hd : 6 ≤ d) (R : Rp S m0) (f0 : q_is 2 v0 68) (f1 : q_is 0 v1 p1) (f2 : q_is 0 v2 p2)
  (h : fm_X12_backfill p1 p2 m0 = some (rz, rm)) : Mt xs d 314 [v0, v1, v2] S (Cr 0 m0 rm rz) := by
  obtain ⟨d, rfl⟩ : ∃ e, d = e + 1 := ⟨d - 1, by omega⟩
  have hd : 5 ≤ d := Nat.le_of_succ_le_succ hd
  refine Mt.of (M := qM_X12_backfill) rfl (by rw [sl_1 (q_is_cat f0 (Or.inr rfl)), sl_1 (q_is_cat f1 (Or.inl rfl)), sl_1 (q_is_cat f2 (Or.inl rfl)), sl_0]; decide) ?_
  rw [la_1 (q_is_cat f0 (Or.inr rfl)), la_1 (q_is_cat f1 (Or.inl rfl)), la_1 (q_is_cat f2 (Or.inl rfl)), la_0]
  obtain ⟨L, hL⟩ : ∃ L : QL, L = [(0, v0), (0 + 1, v1), (0 + 1 + 1, v2)] := ⟨_, rfl⟩
  rw [← hL]
  have l0 : q_lo L 0 = some v0 := by rw [hL]; rfl
  have l1 : q_lo L 1 = some v1 := by rw [hL]; rfl
  have l2 : q_lo L 2 = some v2 := by rw [hL]; rfl
  have hQ : Ext m0 rm → ∀ o S1, Rp S1 rm → q_out 0 o rz → (Cr 0 m0 rm rz) o S1 := fun a o S1 b e => ⟨b, a, e⟩
  unfold fm_X12_backfill at h
  refine go_aload_n (n := 0) (by decide +kernel) l0 f0 ?_
  refine go_aload_n (n := 0) (by decide +kernel) l0 f0 ?_
  refine go_iload_n (n := 1) (by decide +kernel) l1 f1 ?_
  obtain ⟨x_2, hc_1, h⟩ := bp_s h
  refine go_callV (x := 709) (mi := 306) (n := 1) (ci := 13) (as := [v1]) (rest := [v0]) (by decide +kernel) (by decide +kernel) rfl rfl (q_sum8 _ (Nat.le_of_ble_eq_true rfl)) R f0 (fx_k (c := 13) R (by decide +kernel)) (om_X12_isSchedule (Nat.le_trans (by decide) hd) R f0 f1 hc_1) (fun _ S_6 q_9 => ?_) (fun _ _ qq => kr_x qq)
  refine kr_z (by decide) q_9 fun v_4 f_5 R_7 E_8 => ?_
  refine go_if (c := .ne) (o := 7) (t := 13) (P := ¬ (x_2 = 0)) (by decide +kernel) (by decide +kernel) f_5 (Iff.rfl) (fun hp_10 => ?_) (fun hp_10 => ?_)
  · have h := it_f hp_10 h
    refine go_iload_n (n := 2) (by decide +kernel) l2 f2 ?_
    refine go_iconst (n := 1) (z := 1) (by decide +kernel) (by decide) fun v_11 f_12 => ?_
    refine go_iconst (n := 5) (z := 5) (by decide +kernel) (by decide) fun v_13 f_14 => ?_
    obtain ⟨x_16, hc_15, h⟩ := bp_s h
    refine go_callS (x := 306) (mi := 188) (n := 3) (b := 0) (as := [v2, v_11, v_13]) (rest := [v0]) (by decide +kernel) (by decide +kernel) rfl rfl (q_sum8 _ (Nat.le_of_ble_eq_true rfl)) (om_X12_isIn (Nat.le_trans (by decide) hd) R_7 f2 f_12 f_14 hc_15) (fun _ S_20 q_23 => ?_) (fun _ _ qq => kr_x qq)
    refine kr_z (by decide) q_23 fun v_18 f_19 R_21 E_22 => ?_
    refine go_if (c := .eq) (o := 7) (t := 26) (P := x_16 = 0) (by decide +kernel) (by decide +kernel) f_19 (Iff.rfl) (fun hp_24 => ?_) (fun hp_24 => ?_)
    · have h := it_t hp_24 h
      refine go_iconst (n := 2) (z := 2) (by decide +kernel) (by decide) fun v_25 f_26 => ?_
      exact oj_X12_backfill_27 hd R_21 l0 f0 l1 f1 l2 f2 f_26 f0 hQ h
    · have h := it_f hp_24 h
      refine go_iconst (n := 0) (z := 0) (by decide +kernel) (by decide) fun v_200 f_201 => ?_
      refine go_goto (o := 4) (t := 27) (by decide +kernel) (by decide +kernel) ?_
      exact oj_X12_backfill_27 hd R_21 l0 f0 l1 f1 l2 f2 f_201 f0 hQ h
  · have h := it_n hp_10 h
    refine go_iconst (n := 1) (z := 1) (by decide +kernel) (by decide) fun v_202 f_203 => ?_
    refine go_goto (o := 17) (t := 27) (by decide +kernel) (by decide +kernel) ?_
    exact oj_X12_backfill_27 hd R_7 l0 f0 l1 f1 l2 f2 f_203 f0 hQ h
noncomputable def fj_X12_shift_17 (y1 s0 : Int) (m : MM) : Option (Int × MM) := bd (fm_X12_fails s0 m) fun x_18 m_19 =>
if x_18 = 0 then
lx (m_19 68 68) fun x_33 =>
up m_19 68 68 (w32 (x_33 + y1)) fun m_37 =>
lx (m_37 68 0) fun x_47 =>
lx (m_37 68 68) fun x_52 =>
some (w32 (x_47 + x_52), m_37)
else
some (0, m_19)
set_option maxHeartbeats 4000000 in
theorem oj_X12_shift_17 {xs : List Int32} {d : Nat} {S : QS} {L : QL} {Q : QO → QS → Prop} {m : MM} {y1 s0 : Int} {v0 : Value} {v1 : Value} {w0 : Value} {w1 : Value}  {rz : Int} {rm : MM}
  (hd : 1 ≤ d) (R : Rp S m) (l0 : q_lo L 0 = some v0) (f0 : q_is 2 v0 68) (l1 : q_lo L 1 = some v1) (f1 : q_is 0 v1 y1) (fs0 : q_is 0 w0 s0) (fs1 : q_is 2 w1 68)
  (hQ : Ext m rm → ∀ o S1, Rp S1 rm → q_out 0 o rz → Q o S1)
  (h : fj_X12_shift_17 y1 s0 m = some (rz, rm)) : Go xs d qM_X12_shift 17 L [w0, w1] S Q := by
  unfold fj_X12_shift_17 at h
  obtain ⟨x_18, m_19, hc_17, h⟩ := bd_s h
  refine go_callV (x := 324) (mi := 186) (n := 1) (ci := 13) (as := [w0]) (rest := []) (by decide +kernel) (by decide +kernel) rfl rfl (q_sum8 _ (Nat.le_of_ble_eq_true rfl)) R fs1 (fx_k (c := 13) R (by decide +kernel)) (om_X12_fails (Nat.le_trans (by decide) hd) R fs1 fs0 hc_17) (fun _ S_22 q_25 => ?_) (fun _ _ qq => kr_x qq)
  refine kr_z (by decide) q_25 fun v_20 f_21 R_23 E_24 => ?_
  have E_28 := E_24
  refine go_if (c := .eq) (o := 5) (t := 25) (P := x_18 = 0) (by decide +kernel) (by decide +kernel) f_21 (Iff.rfl) (fun hp_29 => ?_) (fun hp_29 => ?_)
  · have h := it_t hp_29 h
    refine go_aload_n (n := 0) (by decide +kernel) l0 f0 ?_
    refine go_dup (by decide +kernel) f0 (Or.inr rfl) ?_
    obtain ⟨x_33, e_34, h⟩ := lx_s h
    refine go_getf (x := 691) (ci := 13) (kf := 68) (fin := 0) (t := 0) (by decide +kernel) (by decide +kernel) (by decide +kernel) R_23 f0 (fx_k (c := 13) R_23 (by decide +kernel)) fun v_30 f_31 => ?_
    have f_32 := q_is_eq f_31 e_34
    refine go_iload_n (n := 1) (by decide +kernel) l1 f1 ?_
    refine go_iadd (by decide +kernel) f_32 f1 fun v_35 f_36 => ?_
    obtain ⟨m_37, e_38, h⟩ := up_s h
    refine go_putf (x := 691) (ci := 13) (kf := 68) (fin := 0) (zt := 0) (by decide +kernel) (by decide +kernel) (by decide) (by decide +kernel) (by decide) (Or.inl rfl) R_23 f0 f_36 (fun hq => absurd hq (by decide)) (fx_k (c := 13) R_23 (by decide +kernel)) e_38 (fx_f (j := 68) R_23.2 (fx_k (c := 13) R_23 (by decide +kernel)) (by decide +kernel)) fun S_39 R_40 E_41 => ?_
    have E_43 := Ext.tr E_28 E_41
    refine go_aload_n (n := 0) (by decide +kernel) l0 f0 ?_
    obtain ⟨x_47, e_48, h⟩ := lx_s h
    refine go_getf (x := 357) (ci := 13) (kf := 0) (fin := 0) (t := 0) (by decide +kernel) (by decide +kernel) (by decide +kernel) R_40 f0 (fx_k (c := 13) R_40 (by decide +kernel)) fun v_44 f_45 => ?_
    have f_46 := q_is_eq f_45 e_48
    refine go_aload_n (n := 0) (by decide +kernel) l0 f0 ?_
    obtain ⟨x_52, e_53, h⟩ := lx_s h
    refine go_getf (x := 691) (ci := 13) (kf := 68) (fin := 0) (t := 0) (by decide +kernel) (by decide +kernel) (by decide +kernel) R_40 f0 (fx_k (c := 13) R_40 (by decide +kernel)) fun v_49 f_50 => ?_
    have f_51 := q_is_eq f_50 e_53
    refine go_iadd (by decide +kernel) f_46 f_51 fun v_54 f_55 => ?_
    cases h
    exact go_iret (by decide +kernel) rfl (Or.inl rfl) f_55 (hQ E_43 _ _ R_40 (q_out_v (by decide) f_55))
  · have h := it_f hp_29 h
    refine go_iconst (n := 0) (z := 0) (by decide +kernel) (by decide) fun v_56 f_57 => ?_
    cases h
    exact go_iret (by decide +kernel) rfl (Or.inl rfl) f_57 (hQ E_28 _ _ R_23 (q_out_v (by decide) f_57))
noncomputable def fm_X12_shift (p1 : Int) (m0 : MM) : Option (Int × MM) := bp (fm_X12_isIn p1 (-20) 20 m0) fun x_6 =>
if x_6 = 0 then
fj_X12_shift_17 p1 1 m0
else
fj_X12_shift_17 p1 0 m0
set_option maxHeartbeats 4000000 in
theorem om_X12_shift {xs : List Int32} {d : Nat} {S : QS} {m0 : MM} {p1 : Int} {v0 : Value} {v1 : Value} {rz : Int} {rm : MM}
  (hd : 2 ≤ d) (R : Rp S m0) (f0 : q_is 2 v0 68) (f1 : q_is 0 v1 p1)
  (h : fm_X12_shift p1 m0 = some (rz, rm)) : Mt xs d 315 [v0, v1] S (Cr 0 m0 rm rz) := by
  obtain ⟨d, rfl⟩ : ∃ e, d = e + 1 := ⟨d - 1, by omega⟩
  have hd : 1 ≤ d := Nat.le_of_succ_le_succ hd
  refine Mt.of (M := qM_X12_shift) rfl (by rw [sl_1 (q_is_cat f0 (Or.inr rfl)), sl_1 (q_is_cat f1 (Or.inl rfl)), sl_0]; decide) ?_
  rw [la_1 (q_is_cat f0 (Or.inr rfl)), la_1 (q_is_cat f1 (Or.inl rfl)), la_0]
  obtain ⟨L, hL⟩ : ∃ L : QL, L = [(0, v0), (0 + 1, v1)] := ⟨_, rfl⟩
  rw [← hL]
  have l0 : q_lo L 0 = some v0 := by rw [hL]; rfl
  have l1 : q_lo L 1 = some v1 := by rw [hL]; rfl
  have hQ : Ext m0 rm → ∀ o S1, Rp S1 rm → q_out 0 o rz → (Cr 0 m0 rm rz) o S1 := fun a o S1 b e => ⟨b, a, e⟩
  unfold fm_X12_shift at h
  refine go_aload_n (n := 0) (by decide +kernel) l0 f0 ?_
  refine go_iload_n (n := 1) (by decide +kernel) l1 f1 ?_
  refine go_bipush (n := (-20)) (z := (-20)) (by decide +kernel) (by decide) fun v_1 f_2 => ?_
  refine go_bipush (n := 20) (z := 20) (by decide +kernel) (by decide) fun v_3 f_4 => ?_
  obtain ⟨x_6, hc_5, h⟩ := bp_s h
  refine go_callS (x := 306) (mi := 188) (n := 3) (b := 0) (as := [v1, v_1, v_3]) (rest := [v0]) (by decide +kernel) (by decide +kernel) rfl rfl (q_sum8 _ (Nat.le_of_ble_eq_true rfl)) (om_X12_isIn (Nat.le_trans (by decide) hd) R f1 f_2 f_4 hc_5) (fun _ S_10 q_13 => ?_) (fun _ _ qq => kr_x qq)
  refine kr_z (by decide) q_13 fun v_8 f_9 R_11 E_12 => ?_
  refine go_if (c := .eq) (o := 7) (t := 16) (P := x_6 = 0) (by decide +kernel) (by decide +kernel) f_9 (Iff.rfl) (fun hp_14 => ?_) (fun hp_14 => ?_)
  · have h := it_t hp_14 h
    refine go_iconst (n := 1) (z := 1) (by decide +kernel) (by decide) fun v_15 f_16 => ?_
    exact oj_X12_shift_17 hd R_11 l0 f0 l1 f1 f_16 f0 hQ h
  · have h := it_f hp_14 h
    refine go_iconst (n := 0) (z := 0) (by decide +kernel) (by decide) fun v_58 f_59 => ?_
    refine go_goto (o := 4) (t := 17) (by decide +kernel) (by decide +kernel) ?_
    exact oj_X12_shift_17 hd R_11 l0 f0 l1 f1 f_59 f0 hQ h
noncomputable def fl_X12_bringIn_26 (y1 : Int) : Nat → Int → MM → Option (Int × MM)
  | 0, _, _ => none
  | n + 1, y2, m => if y2 < y1 then
lx (m 68 79) fun x_53 =>
lx (m 68 80) fun x_58 =>
if x_53 < x_58 then
gd (0 ≤ x_53 ∧ x_53 < 1048576) <| lx (m 137 x_53) fun x_82 =>
gd (0 ≤ w32 (Int.tdiv x_82 1000) ∧ w32 (Int.tdiv x_82 1000) < 30) <| up m 138 (w32 (Int.tdiv x_82 1000)) (Int.tmod x_82 1000) fun m_102 =>
lx (m_102 68 79) fun x_112 =>
up m_102 68 79 (w32 (x_112 + 1)) fun m_118 =>
lx (w32 (y2 + 1)) fun x_130 =>
fl_X12_bringIn_26 y1 n x_130 m_118
else
some (w32 (x_58 - x_53), m)
else
lx (m 68 80) fun x_41 =>
lx (m 68 79) fun x_46 =>
some (w32 (x_41 - x_46), m)
set_option maxHeartbeats 4000000 in
theorem ol_X12_bringIn_26 {xs : List Int32} {d : Nat} {Q : QO → QS → Prop} {mb : MM} {y1 : Int} {rz : Int} {rm : MM}
  (hd : 1 ≤ d)
  (hQ : Ext mb rm → ∀ o S1, Rp S1 rm → q_out 0 o rz → Q o S1) :
  ∀ (n : Nat) {m : MM} {S : QS} {L : QL} {y2 : Int} {v0 : Value} {v1 : Value} {v2 : Value} , Ext mb m → fl_X12_bringIn_26 y1 n y2 m = some (rz, rm) → Rp S m → q_lo L 0 = some v0 → q_is 2 v0 68 → q_lo L 1 = some v1 → q_is 0 v1 y1 → q_lo L 2 = some v2 → q_is 0 v2 y2 → Go xs d qM_X12_bringIn 26 L [] S Q := by
  intro n
  induction n with
  | zero => intro m S L y2 v0 v1 v2; intro E h R l0 f0 l1 f1 l2 f2; cases h
  | succ n ih0 =>
    intro m S L y2 v0 v1 v2; intro E h R l0 f0 l1 f1 l2 f2
    have ih : ∀ mq : MM, Ext mb mq → ∀ {z2 : Int} {Sq : QS} {Lq : QL} {u0 : Value} {u1 : Value} {u2 : Value}, fl_X12_bringIn_26 y1 n z2 mq = some (rz, rm) → Rp Sq mq → q_lo Lq 0 = some u0 → q_is 2 u0 68 → q_lo Lq 1 = some u1 → q_is 0 u1 y1 → q_lo Lq 2 = some u2 → q_is 0 u2 z2 → Go xs d qM_X12_bringIn 26 Lq [] Sq Q := fun mq b => by intros; exact ih0 b ‹_› ‹_› ‹_› ‹_› ‹_› ‹_› ‹_› ‹_›
    unfold fl_X12_bringIn_26 at h
    refine go_iload_n (n := 2) (by decide +kernel) l2 f2 ?_
    refine go_iload_n (n := 1) (by decide +kernel) l1 f1 ?_
    refine go_icmp (c := .ge) (o := 61) (t := 89) (P := ¬ (y2 < y1)) (by decide +kernel) (by decide +kernel) f2 f1 (Int.not_lt.symm) (fun hp_37 => ?_) (fun hp_37 => ?_)
    · have h := it_f hp_37 h
      refine go_aload_n (n := 0) (by decide +kernel) l0 f0 ?_
      obtain ⟨x_41, e_42, h⟩ := lx_s h
      refine go_getf (x := 632) (ci := 13) (kf := 80) (fin := 0) (t := 0) (by decide +kernel) (by decide +kernel) (by decide +kernel) R f0 (fx_k (c := 13) R (by decide +kernel)) fun v_38 f_39 => ?_
      have f_40 := q_is_eq f_39 e_42
      refine go_aload_n (n := 0) (by decide +kernel) l0 f0 ?_
      obtain ⟨x_46, e_47, h⟩ := lx_s h
      refine go_getf (x := 712) (ci := 13) (kf := 79) (fin := 0) (t := 0) (by decide +kernel) (by decide +kernel) (by decide +kernel) R f0 (fx_k (c := 13) R (by decide +kernel)) fun v_43 f_44 => ?_
      have f_45 := q_is_eq f_44 e_47
      refine go_isub (by decide +kernel) f_40 f_45 fun v_48 f_49 => ?_
      cases h
      exact go_iret (by decide +kernel) rfl (Or.inl rfl) f_49 (hQ E _ _ R (q_out_v (by decide) f_49))
    · have h := it_n hp_37 h
      refine go_aload_n (n := 0) (by decide +kernel) l0 f0 ?_
      obtain ⟨x_53, e_54, h⟩ := lx_s h
      refine go_getf (x := 712) (ci := 13) (kf := 79) (fin := 0) (t := 0) (by decide +kernel) (by decide +kernel) (by decide +kernel) R f0 (fx_k (c := 13) R (by decide +kernel)) fun v_50 f_51 => ?_
      have f_52 := q_is_eq f_51 e_54
      refine go_aload_n (n := 0) (by decide +kernel) l0 f0 ?_
      obtain ⟨x_58, e_59, h⟩ := lx_s h
      refine go_getf (x := 632) (ci := 13) (kf := 80) (fin := 0) (t := 0) (by decide +kernel) (by decide +kernel) (by decide +kernel) R f0 (fx_k (c := 13) R (by decide +kernel)) fun v_55 f_56 => ?_
      have f_57 := q_is_eq f_56 e_59
      refine go_icmp (c := .ge) (o := 50) (t := 89) (P := ¬ (x_53 < x_58)) (by decide +kernel) (by decide +kernel) f_52 f_57 (Int.not_lt.symm) (fun hp_60 => ?_) (fun hp_60 => ?_)
      · have h := it_f hp_60 h
        refine go_aload_n (n := 0) (by decide +kernel) l0 f0 ?_
        refine go_getf (x := 632) (ci := 13) (kf := 80) (fin := 0) (t := 0) (by decide +kernel) (by decide +kernel) (by decide +kernel) R f0 (fx_k (c := 13) R (by decide +kernel)) fun v_61 f_62 => ?_
        have f_63 := q_is_eq f_62 e_59
        refine go_aload_n (n := 0) (by decide +kernel) l0 f0 ?_
        refine go_getf (x := 712) (ci := 13) (kf := 79) (fin := 0) (t := 0) (by decide +kernel) (by decide +kernel) (by decide +kernel) R f0 (fx_k (c := 13) R (by decide +kernel)) fun v_64 f_65 => ?_
        have f_66 := q_is_eq f_65 e_54
        refine go_isub (by decide +kernel) f_63 f_66 fun v_67 f_68 => ?_
        cases h
        exact go_iret (by decide +kernel) rfl (Or.inl rfl) f_68 (hQ E _ _ R (q_out_v (by decide) f_68))
      · have h := it_n hp_60 h
        refine go_aload_n (n := 0) (by decide +kernel) l0 f0 ?_
        refine go_getf (x := 229) (ci := 13) (kf := 82) (fin := 1) (t := 2) (by decide +kernel) (by decide +kernel) (by decide +kernel) R f0 (fx_k (c := 13) R (by decide +kernel)) fun v_69 f_70 => ?_
        have f_71 := q_is_eq (b := 138) f_70 (fx_v R (by decide +kernel)).symm
        refine go_aload_n (n := 0) (by decide +kernel) l0 f0 ?_
        refine go_getf (x := 226) (ci := 13) (kf := 81) (fin := 1) (t := 2) (by decide +kernel) (by decide +kernel) (by decide +kernel) R f0 (fx_k (c := 13) R (by decide +kernel)) fun v_72 f_73 => ?_
        have f_74 := q_is_eq (b := 137) f_73 (fx_v R (by decide +kernel)).symm
        refine go_aload_n (n := 0) (by decide +kernel) l0 f0 ?_
        refine go_getf (x := 712) (ci := 13) (kf := 79) (fin := 0) (t := 0) (by decide +kernel) (by decide +kernel) (by decide +kernel) R f0 (fx_k (c := 13) R (by decide +kernel)) fun v_75 f_76 => ?_
        have f_77 := q_is_eq f_76 e_54
        obtain ⟨g_80, h⟩ := gd_s h
        obtain ⟨x_82, e_83, h⟩ := lx_s h
        refine go_iald (kd := 100) (by decide +kernel) rfl R f_74 f_77 (fx_k (c := 100) R (by decide +kernel)) (fx_x (a := 137) (ln := 1048576) R (by decide +kernel) g_80) fun v_78 f_79 => ?_
        have f_81 := q_is_eq f_79 e_83
        refine go_sipush (n := 1000) (z := 1000) (by decide +kernel) (by decide) fun v_84 f_85 => ?_
        refine go_idiv (by decide +kernel) f_81 f_85 (by decide) fun v_86 f_87 => ?_
        refine go_aload_n (n := 0) (by decide +kernel) l0 f0 ?_
        refine go_getf (x := 226) (ci := 13) (kf := 81) (fin := 1) (t := 2) (by decide +kernel) (by decide +kernel) (by decide +kernel) R f0 (fx_k (c := 13) R (by decide +kernel)) fun v_88 f_89 => ?_
        have f_90 := q_is_eq (b := 137) f_89 (fx_v R (by decide +kernel)).symm
        refine go_aload_n (n := 0) (by decide +kernel) l0 f0 ?_
        refine go_getf (x := 712) (ci := 13) (kf := 79) (fin := 0) (t := 0) (by decide +kernel) (by decide +kernel) (by decide +kernel) R f0 (fx_k (c := 13) R (by decide +kernel)) fun v_91 f_92 => ?_
        have f_93 := q_is_eq f_92 e_54
        refine go_iald (kd := 100) (by decide +kernel) rfl R f_90 f_93 (fx_k (c := 100) R (by decide +kernel)) (fx_x (a := 137) (ln := 1048576) R (by decide +kernel) g_80) fun v_94 f_95 => ?_
        have f_96 := q_is_eq f_95 e_83
        refine go_sipush (n := 1000) (z := 1000) (by decide +kernel) (by decide) fun v_97 f_98 => ?_
        refine go_irem (by decide +kernel) f_96 f_98 (by decide) fun v_99 f_100 => ?_
        obtain ⟨g_101, h⟩ := gd_s h
        obtain ⟨m_102, e_103, h⟩ := up_s h
        refine go_iast (kd := 100) (by decide +kernel) rfl R f_71 f_87 f_100 (fx_k (c := 100) R (by decide +kernel)) (fx_x (a := 138) (ln := 30) R (by decide +kernel) g_101) e_103 (fx_a R.2 (fx_k (c := 100) R (by decide +kernel)) (And.left (fx_x (a := 138) (ln := 30) R (by decide +kernel) g_101)) (by decide +kernel)) fun S_104 R_105 E_106 => ?_
        have E_108 := Ext.tr E E_106
        refine go_aload_n (n := 0) (by decide +kernel) l0 f0 ?_
        refine go_dup (by decide +kernel) f0 (Or.inr rfl) ?_
        obtain ⟨x_112, e_113, h⟩ := lx_s h
        refine go_getf (x := 712) (ci := 13) (kf := 79) (fin := 0) (t := 0) (by decide +kernel) (by decide +kernel) (by decide +kernel) R_105 f0 (fx_k (c := 13) R_105 (by decide +kernel)) fun v_109 f_110 => ?_
        have f_111 := q_is_eq f_110 e_113
        refine go_iconst (n := 1) (z := 1) (by decide +kernel) (by decide) fun v_114 f_115 => ?_
        refine go_iadd (by decide +kernel) f_111 f_115 fun v_116 f_117 => ?_
        obtain ⟨m_118, e_119, h⟩ := up_s h
        refine go_putf (x := 712) (ci := 13) (kf := 79) (fin := 0) (zt := 0) (by decide +kernel) (by decide +kernel) (by decide) (by decide +kernel) (by decide) (Or.inl rfl) R_105 f0 f_117 (fun hq => absurd hq (by decide)) (fx_k (c := 13) R_105 (by decide +kernel)) e_119 (fx_f (j := 79) R_105.2 (fx_k (c := 13) R_105 (by decide +kernel)) (by decide +kernel)) fun S_120 R_121 E_122 => ?_
        have E_124 := Ext.tr E_108 E_122
        refine go_iinc (n := 2) (c := 1) (c' := 1) (by decide +kernel) (by decide +kernel) l2 f2 (by decide) fun L_125 v_126 f_127 l_128 kp_129 => ?_
        obtain ⟨x_130, e_131, h⟩ := lx_s h
        have f_132 := q_is_eq f_127 e_131
        have l_133 := kp_129 0 _ l0 (by decide) (Or.inl (by decide))
        have l_134 := kp_129 1 _ l1 (by decide) (Or.inr (q_is_cat f1 (Or.inl rfl)))
        refine go_goto (o := (-60)) (t := 26) (by decide +kernel) (by decide +kernel) ?_
        exact ih m_118 E_124 h R_121 l_133 f0 l_134 f1 l_128 f_132
noncomputable def fj_X12_bringIn_16 (y1 s0 : Int) (m : MM) : Option (Int × MM) := bd (fm_X12_fails s0 m) fun x_18 m_19 =>
if x_18 = 0 then
fl_X12_bringIn_26 y1  BIG 0 m_19
else
some (0, m_19)
set_option maxHeartbeats 4000000 in
theorem oj_X12_bringIn_16 {xs : List Int32} {d : Nat} {S : QS} {L : QL} {Q : QO → QS → Prop} {m : MM} {y1 s0 : Int} {v0 : Value} {v1 : Value} {w0 : Value} {w1 : Value}  {rz : Int} {rm : MM}
  (hd : 1 ≤ d) (R : Rp S m) (l0 : q_lo L 0 = some v0) (f0 : q_is 2 v0 68) (l1 : q_lo L 1 = some v1) (f1 : q_is 0 v1 y1) (fs0 : q_is 0 w0 s0) (fs1 : q_is 2 w1 68)
  (hQ : Ext m rm → ∀ o S1, Rp S1 rm → q_out 0 o rz → Q o S1)
  (h : fj_X12_bringIn_16 y1 s0 m = some (rz, rm)) : Go xs d qM_X12_bringIn 16 L [w0, w1] S Q := by
  unfold fj_X12_bringIn_16 at h
  obtain ⟨x_18, m_19, hc_17, h⟩ := bd_s h
  refine go_callV (x := 324) (mi := 186) (n := 1) (ci := 13) (as := [w0]) (rest := []) (by decide +kernel) (by decide +kernel) rfl rfl (q_sum8 _ (Nat.le_of_ble_eq_true rfl)) R fs1 (fx_k (c := 13) R (by decide +kernel)) (om_X12_fails (Nat.le_trans (by decide) hd) R fs1 fs0 hc_17) (fun _ S_22 q_25 => ?_) (fun _ _ qq => kr_x qq)
  refine kr_z (by decide) q_25 fun v_20 f_21 R_23 E_24 => ?_
  have E_28 := E_24
  refine go_if (c := .eq) (o := 5) (t := 24) (P := x_18 = 0) (by decide +kernel) (by decide +kernel) f_21 (Iff.rfl) (fun hp_29 => ?_) (fun hp_29 => ?_)
  · have h := it_t hp_29 h
    refine go_iconst (n := 0) (z := 0) (by decide +kernel) (by decide) fun v_30 f_31 => ?_
    refine go_istore_n (n := 2) (by decide +kernel) (by decide +kernel) f_31 fun L_32 l_33 kp_34 => ?_
    have l_35 := kp_34 0 _ l0 (by decide) (Or.inl (by decide))
    have l_36 := kp_34 1 _ l1 (by decide) (Or.inr (q_is_cat f1 (Or.inl rfl)))
    refine ol_X12_bringIn_26 hd   (fun b => hQ (Ext.tr E_28 b)) BIG (Ext.rf _) h R_23 l_35 f0 l_36 f1 l_33 f_31
  · have h := it_f hp_29 h
    refine go_iconst (n := 0) (z := 0) (by decide +kernel) (by decide) fun v_135 f_136 => ?_
    cases h
    exact go_iret (by decide +kernel) rfl (Or.inl rfl) f_136 (hQ E_28 _ _ R_23 (q_out_v (by decide) f_136))
noncomputable def fm_X12_bringIn (p1 : Int) (m0 : MM) : Option (Int × MM) := bp (fm_X12_isIn p1 1 100 m0) fun x_6 =>
if x_6 = 0 then
fj_X12_bringIn_16 p1 1 m0
else
fj_X12_bringIn_16 p1 0 m0
set_option maxHeartbeats 4000000 in
theorem om_X12_bringIn {xs : List Int32} {d : Nat} {S : QS} {m0 : MM} {p1 : Int} {v0 : Value} {v1 : Value} {rz : Int} {rm : MM}
  (hd : 2 ≤ d) (R : Rp S m0) (f0 : q_is 2 v0 68) (f1 : q_is 0 v1 p1)
  (h : fm_X12_bringIn p1 m0 = some (rz, rm)) : Mt xs d 316 [v0, v1] S (Cr 0 m0 rm rz) := by
  obtain ⟨d, rfl⟩ : ∃ e, d = e + 1 := ⟨d - 1, by omega⟩
  have hd : 1 ≤ d := Nat.le_of_succ_le_succ hd
  refine Mt.of (M := qM_X12_bringIn) rfl (by rw [sl_1 (q_is_cat f0 (Or.inr rfl)), sl_1 (q_is_cat f1 (Or.inl rfl)), sl_0]; decide) ?_
  rw [la_1 (q_is_cat f0 (Or.inr rfl)), la_1 (q_is_cat f1 (Or.inl rfl)), la_0]
  obtain ⟨L, hL⟩ : ∃ L : QL, L = [(0, v0), (0 + 1, v1)] := ⟨_, rfl⟩
  rw [← hL]
  have l0 : q_lo L 0 = some v0 := by rw [hL]; rfl
  have l1 : q_lo L 1 = some v1 := by rw [hL]; rfl
  have hQ : Ext m0 rm → ∀ o S1, Rp S1 rm → q_out 0 o rz → (Cr 0 m0 rm rz) o S1 := fun a o S1 b e => ⟨b, a, e⟩
  unfold fm_X12_bringIn at h
  refine go_aload_n (n := 0) (by decide +kernel) l0 f0 ?_
  refine go_iload_n (n := 1) (by decide +kernel) l1 f1 ?_
  refine go_iconst (n := 1) (z := 1) (by decide +kernel) (by decide) fun v_1 f_2 => ?_
  refine go_bipush (n := 100) (z := 100) (by decide +kernel) (by decide) fun v_3 f_4 => ?_
  obtain ⟨x_6, hc_5, h⟩ := bp_s h
  refine go_callS (x := 306) (mi := 188) (n := 3) (b := 0) (as := [v1, v_1, v_3]) (rest := [v0]) (by decide +kernel) (by decide +kernel) rfl rfl (q_sum8 _ (Nat.le_of_ble_eq_true rfl)) (om_X12_isIn (Nat.le_trans (by decide) hd) R f1 f_2 f_4 hc_5) (fun _ S_10 q_13 => ?_) (fun _ _ qq => kr_x qq)
  refine kr_z (by decide) q_13 fun v_8 f_9 R_11 E_12 => ?_
  refine go_if (c := .eq) (o := 7) (t := 15) (P := x_6 = 0) (by decide +kernel) (by decide +kernel) f_9 (Iff.rfl) (fun hp_14 => ?_) (fun hp_14 => ?_)
  · have h := it_t hp_14 h
    refine go_iconst (n := 1) (z := 1) (by decide +kernel) (by decide) fun v_15 f_16 => ?_
    exact oj_X12_bringIn_16 hd R_11 l0 f0 l1 f1 f_16 f0 hQ h
  · have h := it_f hp_14 h
    refine go_iconst (n := 0) (z := 0) (by decide +kernel) (by decide) fun v_137 f_138 => ?_
    refine go_goto (o := 4) (t := 16) (by decide +kernel) (by decide +kernel) ?_
    exact oj_X12_bringIn_16 hd R_11 l0 f0 l1 f1 f_138 f0 hQ h
noncomputable def fl_X12_search_25 (y1 : Int) (m : MM) : Nat → Int → Int → Option (Int × MM)
  | 0, _, _ => none
  | n + 1, y2, y3 => lx (m 68 12) fun x_44 =>
if y3 < x_44 then
gd (0 ≤ y3 ∧ y3 < 30) <| lx (m 138 y3) fun x_54 =>
if x_54 = y1 then
lx (iOr y2 (iShl 1 y3)) fun x_87 =>
lx (w32 (y3 + 1)) fun x_101 =>
fl_X12_search_25 y1 m n x_87 x_101
else
lx (iOr y2 0) fun x_61 =>
lx (w32 (y3 + 1)) fun x_75 =>
fl_X12_search_25 y1 m n x_61 x_75
else
some (y2, m)
set_option maxHeartbeats 4000000 in
theorem ol_X12_search_25 {xs : List Int32} {d : Nat} {Q : QO → QS → Prop} {m : MM} {y1 : Int} {rz : Int} {rm : MM}
  (hd : 2 ≤ d)
  (hQ : Ext m rm → ∀ o S1, Rp S1 rm → q_out 0 o rz → Q o S1) :
  ∀ (n : Nat) {S : QS} {L : QL} {y2 y3 : Int} {v0 : Value} {v1 : Value} {v2 : Value} {v3 : Value} , fl_X12_search_25 y1 m n y2 y3 = some (rz, rm) → Rp S m → q_lo L 0 = some v0 → q_is 2 v0 68 → q_lo L 1 = some v1 → q_is 0 v1 y1 → q_lo L 2 = some v2 → q_is 0 v2 y2 → q_lo L 3 = some v3 → q_is 0 v3 y3 → Go xs d qM_X12_search 25 L [] S Q := by
  intro n
  induction n with
  | zero => intro S L y2 y3 v0 v1 v2 v3; intro h R l0 f0 l1 f1 l2 f2 l3 f3; cases h
  | succ n ih0 =>
    intro S L y2 y3 v0 v1 v2 v3; intro h R l0 f0 l1 f1 l2 f2 l3 f3
    have ih : ∀ {z2 : Int} {z3 : Int} {Sq : QS} {Lq : QL} {u0 : Value} {u1 : Value} {u2 : Value} {u3 : Value}, fl_X12_search_25 y1 m n z2 z3 = some (rz, rm) → Rp Sq m → q_lo Lq 0 = some u0 → q_is 2 u0 68 → q_lo Lq 1 = some u1 → q_is 0 u1 y1 → q_lo Lq 2 = some u2 → q_is 0 u2 z2 → q_lo Lq 3 = some u3 → q_is 0 u3 z3 → Go xs d qM_X12_search 25 Lq [] Sq Q := by intros; exact ih0 ‹_› ‹_› ‹_› ‹_› ‹_› ‹_› ‹_› ‹_› ‹_› ‹_›
    unfold fl_X12_search_25 at h
    refine go_iload_n (n := 3) (by decide +kernel) l3 f3 ?_
    refine go_aload_n (n := 0) (by decide +kernel) l0 f0 ?_
    obtain ⟨x_44, e_45, h⟩ := lx_s h
    refine go_getf (x := 310) (ci := 13) (kf := 12) (fin := 0) (t := 0) (by decide +kernel) (by decide +kernel) (by decide +kernel) R f0 (fx_k (c := 13) R (by decide +kernel)) fun v_41 f_42 => ?_
    have f_43 := q_is_eq f_42 e_45
    refine go_icmp (c := .ge) (o := 29) (t := 59) (P := ¬ (y3 < x_44)) (by decide +kernel) (by decide +kernel) f3 f_43 (Int.not_lt.symm) (fun hp_46 => ?_) (fun hp_46 => ?_)
    · have h := it_f hp_46 h
      refine go_iload_n (n := 2) (by decide +kernel) l2 f2 ?_
      cases h
      exact go_iret (by decide +kernel) rfl (Or.inl rfl) f2 (hQ (Ext.rf _) _ _ R (q_out_v (by decide) f2))
    · have h := it_n hp_46 h
      refine go_iload_n (n := 2) (by decide +kernel) l2 f2 ?_
      refine go_aload_n (n := 0) (by decide +kernel) l0 f0 ?_
      refine go_getf (x := 229) (ci := 13) (kf := 82) (fin := 1) (t := 2) (by decide +kernel) (by decide +kernel) (by decide +kernel) R f0 (fx_k (c := 13) R (by decide +kernel)) fun v_47 f_48 => ?_
      have f_49 := q_is_eq (b := 138) f_48 (fx_v R (by decide +kernel)).symm
      refine go_iload_n (n := 3) (by decide +kernel) l3 f3 ?_
      obtain ⟨g_52, h⟩ := gd_s h
      obtain ⟨x_54, e_55, h⟩ := lx_s h
      refine go_iald (kd := 100) (by decide +kernel) rfl R f_49 f3 (fx_k (c := 100) R (by decide +kernel)) (fx_x (a := 138) (ln := 30) R (by decide +kernel) g_52) fun v_50 f_51 => ?_
      have f_53 := q_is_eq f_51 e_55
      refine go_iload_n (n := 1) (by decide +kernel) l1 f1 ?_
      refine go_icmp (c := .ne) (o := 9) (t := 50) (P := ¬ (x_54 = y1)) (by decide +kernel) (by decide +kernel) f_53 f1 (Iff.rfl) (fun hp_56 => ?_) (fun hp_56 => ?_)
      · have h := it_f hp_56 h
        refine go_iconst (n := 0) (z := 0) (by decide +kernel) (by decide) fun v_57 f_58 => ?_
        refine go_ior (by decide +kernel) f2 f_58 fun v_59 f_60 => ?_
        obtain ⟨x_61, e_62, h⟩ := lx_s h
        have f_63 := q_is_eq f_60 e_62
        refine go_istore_n (n := 2) (by decide +kernel) (by decide +kernel) f_63 fun L_64 l_65 kp_66 => ?_
        have l_67 := kp_66 0 _ l0 (by decide) (Or.inl (by decide))
        have l_68 := kp_66 1 _ l1 (by decide) (Or.inr (q_is_cat f1 (Or.inl rfl)))
        have l_69 := kp_66 3 _ l3 (by decide) (Or.inl (by decide))
        refine go_iinc (n := 3) (c := 1) (c' := 1) (by decide +kernel) (by decide +kernel) l_69 f3 (by decide) fun L_70 v_71 f_72 l_73 kp_74 => ?_
        obtain ⟨x_75, e_76, h⟩ := lx_s h
        have f_77 := q_is_eq f_72 e_76
        have l_78 := kp_74 0 _ l_67 (by decide) (Or.inl (by decide))
        have l_79 := kp_74 1 _ l_68 (by decide) (Or.inl (by decide))
        have l_80 := kp_74 2 _ l_65 (by decide) (Or.inr (q_is_cat f_63 (Or.inl rfl)))
        refine go_goto (o := (-31)) (t := 25) (by decide +kernel) (by decide +kernel) ?_
        exact ih h R l_78 f0 l_79 f1 l_80 f_63 l_73 f_77
      · have h := it_n hp_56 h
        refine go_iconst (n := 1) (z := 1) (by decide +kernel) (by decide) fun v_81 f_82 => ?_
        refine go_iload_n (n := 3) (by decide +kernel) l3 f3 ?_
        refine go_ishl (by decide +kernel) f_82 f3 fun v_83 f_84 => ?_
        refine go_goto (o := 4) (t := 51) (by decide +kernel) (by decide +kernel) ?_
        refine go_ior (by decide +kernel) f2 f_84 fun v_85 f_86 => ?_
        obtain ⟨x_87, e_88, h⟩ := lx_s h
        have f_89 := q_is_eq f_86 e_88
        refine go_istore_n (n := 2) (by decide +kernel) (by decide +kernel) f_89 fun L_90 l_91 kp_92 => ?_
        have l_93 := kp_92 0 _ l0 (by decide) (Or.inl (by decide))
        have l_94 := kp_92 1 _ l1 (by decide) (Or.inr (q_is_cat f1 (Or.inl rfl)))
        have l_95 := kp_92 3 _ l3 (by decide) (Or.inl (by decide))
        refine go_iinc (n := 3) (c := 1) (c' := 1) (by decide +kernel) (by decide +kernel) l_95 f3 (by decide) fun L_96 v_97 f_98 l_99 kp_100 => ?_
        obtain ⟨x_101, e_102, h⟩ := lx_s h
        have f_103 := q_is_eq f_98 e_102
        have l_104 := kp_100 0 _ l_93 (by decide) (Or.inl (by decide))
        have l_105 := kp_100 1 _ l_94 (by decide) (Or.inl (by decide))
        have l_106 := kp_100 2 _ l_91 (by decide) (Or.inr (q_is_cat f_89 (Or.inl rfl)))
        refine go_goto (o := (-31)) (t := 25) (by decide +kernel) (by decide +kernel) ?_
        exact ih h R l_104 f0 l_105 f1 l_106 f_89 l_99 f_103
noncomputable def fj_X12_search_13 (y1 s0 : Int) (m : MM) : Option (Int × MM) := bd (fm_X12_fails s0 m) fun x_14 m_15 =>
if x_14 = 0 then
fl_X12_search_25 y1 m_15  BIG 0 0
else
some (0, m_15)
set_option maxHeartbeats 4000000 in
theorem oj_X12_search_13 {xs : List Int32} {d : Nat} {S : QS} {L : QL} {Q : QO → QS → Prop} {m : MM} {y1 s0 : Int} {v0 : Value} {v1 : Value} {w0 : Value} {w1 : Value}  {rz : Int} {rm : MM}
  (hd : 2 ≤ d) (R : Rp S m) (l0 : q_lo L 0 = some v0) (f0 : q_is 2 v0 68) (l1 : q_lo L 1 = some v1) (f1 : q_is 0 v1 y1) (fs0 : q_is 0 w0 s0) (fs1 : q_is 2 w1 68)
  (hQ : Ext m rm → ∀ o S1, Rp S1 rm → q_out 0 o rz → Q o S1)
  (h : fj_X12_search_13 y1 s0 m = some (rz, rm)) : Go xs d qM_X12_search 13 L [w0, w1] S Q := by
  unfold fj_X12_search_13 at h
  obtain ⟨x_14, m_15, hc_13, h⟩ := bd_s h
  refine go_callV (x := 324) (mi := 186) (n := 1) (ci := 13) (as := [w0]) (rest := []) (by decide +kernel) (by decide +kernel) rfl rfl (q_sum8 _ (Nat.le_of_ble_eq_true rfl)) R fs1 (fx_k (c := 13) R (by decide +kernel)) (om_X12_fails (Nat.le_trans (by decide) hd) R fs1 fs0 hc_13) (fun _ S_18 q_21 => ?_) (fun _ _ qq => kr_x qq)
  refine kr_z (by decide) q_21 fun v_16 f_17 R_19 E_20 => ?_
  have E_24 := E_20
  refine go_if (c := .eq) (o := 5) (t := 21) (P := x_14 = 0) (by decide +kernel) (by decide +kernel) f_17 (Iff.rfl) (fun hp_25 => ?_) (fun hp_25 => ?_)
  · have h := it_t hp_25 h
    refine go_iconst (n := 0) (z := 0) (by decide +kernel) (by decide) fun v_26 f_27 => ?_
    refine go_istore_n (n := 2) (by decide +kernel) (by decide +kernel) f_27 fun L_28 l_29 kp_30 => ?_
    have l_31 := kp_30 0 _ l0 (by decide) (Or.inl (by decide))
    have l_32 := kp_30 1 _ l1 (by decide) (Or.inr (q_is_cat f1 (Or.inl rfl)))
    refine go_iconst (n := 0) (z := 0) (by decide +kernel) (by decide) fun v_33 f_34 => ?_
    refine go_istore_n (n := 3) (by decide +kernel) (by decide +kernel) f_34 fun L_35 l_36 kp_37 => ?_
    have l_38 := kp_37 0 _ l_31 (by decide) (Or.inl (by decide))
    have l_39 := kp_37 1 _ l_32 (by decide) (Or.inl (by decide))
    have l_40 := kp_37 2 _ l_29 (by decide) (Or.inr (q_is_cat f_27 (Or.inl rfl)))
    refine ol_X12_search_25 hd   (fun b => hQ (Ext.tr E_24 b)) BIG h R_19 l_38 f0 l_39 f1 l_40 f_27 l_36 f_34
  · have h := it_f hp_25 h
    refine go_iconst (n := 0) (z := 0) (by decide +kernel) (by decide) fun v_107 f_108 => ?_
    cases h
    exact go_iret (by decide +kernel) rfl (Or.inl rfl) f_108 (hQ E_24 _ _ R_19 (q_out_v (by decide) f_108))
noncomputable def fm_X12_search (p1 : Int) (m0 : MM) : Option (Int × MM) := bp (fm_X12_isValue p1 m0) fun x_2 =>
if x_2 = 0 then
fj_X12_search_13 p1 1 m0
else
fj_X12_search_13 p1 0 m0
set_option maxHeartbeats 4000000 in
theorem om_X12_search {xs : List Int32} {d : Nat} {S : QS} {m0 : MM} {p1 : Int} {v0 : Value} {v1 : Value} {rz : Int} {rm : MM}
  (hd : 3 ≤ d) (R : Rp S m0) (f0 : q_is 2 v0 68) (f1 : q_is 0 v1 p1)
  (h : fm_X12_search p1 m0 = some (rz, rm)) : Mt xs d 317 [v0, v1] S (Cr 0 m0 rm rz) := by
  obtain ⟨d, rfl⟩ : ∃ e, d = e + 1 := ⟨d - 1, by omega⟩
  have hd : 2 ≤ d := Nat.le_of_succ_le_succ hd
  refine Mt.of (M := qM_X12_search) rfl (by rw [sl_1 (q_is_cat f0 (Or.inr rfl)), sl_1 (q_is_cat f1 (Or.inl rfl)), sl_0]; decide) ?_
  rw [la_1 (q_is_cat f0 (Or.inr rfl)), la_1 (q_is_cat f1 (Or.inl rfl)), la_0]
  obtain ⟨L, hL⟩ : ∃ L : QL, L = [(0, v0), (0 + 1, v1)] := ⟨_, rfl⟩
  rw [← hL]
  have l0 : q_lo L 0 = some v0 := by rw [hL]; rfl
  have l1 : q_lo L 1 = some v1 := by rw [hL]; rfl
  have hQ : Ext m0 rm → ∀ o S1, Rp S1 rm → q_out 0 o rz → (Cr 0 m0 rm rz) o S1 := fun a o S1 b e => ⟨b, a, e⟩
  unfold fm_X12_search at h
  refine go_aload_n (n := 0) (by decide +kernel) l0 f0 ?_
  refine go_iload_n (n := 1) (by decide +kernel) l1 f1 ?_
  obtain ⟨x_2, hc_1, h⟩ := bp_s h
  refine go_callS (x := 573) (mi := 194) (n := 1) (b := 0) (as := [v1]) (rest := [v0]) (by decide +kernel) (by decide +kernel) rfl rfl (q_sum8 _ (Nat.le_of_ble_eq_true rfl)) (om_X12_isValue (Nat.le_trans (by decide) hd) R f1 hc_1) (fun _ S_6 q_9 => ?_) (fun _ _ qq => kr_x qq)
  refine kr_z (by decide) q_9 fun v_4 f_5 R_7 E_8 => ?_
  refine go_if (c := .eq) (o := 7) (t := 12) (P := x_2 = 0) (by decide +kernel) (by decide +kernel) f_5 (Iff.rfl) (fun hp_10 => ?_) (fun hp_10 => ?_)
  · have h := it_t hp_10 h
    refine go_iconst (n := 1) (z := 1) (by decide +kernel) (by decide) fun v_11 f_12 => ?_
    exact oj_X12_search_13 hd R_7 l0 f0 l1 f1 f_12 f0 hQ h
  · have h := it_f hp_10 h
    refine go_iconst (n := 0) (z := 0) (by decide +kernel) (by decide) fun v_109 f_110 => ?_
    refine go_goto (o := 4) (t := 13) (by decide +kernel) (by decide +kernel) ?_
    exact oj_X12_search_13 hd R_7 l0 f0 l1 f1 f_110 f0 hQ h
noncomputable def fm_L_line (p1 p2 p3 p4 : Int) (m0 : MM) : Option (Int × MM) := bx (fm_X11_line p1 p2 p3 p4 m0) (fun q_12 m_5 =>
if q_12 = 0 then
some (1, m_5)
else if q_12 = 1 then
some (2, m_5)
else if q_12 = 2 then
some (3, m_5)
else none) fun x_4 m_5 =>
up m_5 162 0 x_4 fun m_40 =>
some (0, m_40)
set_option maxHeartbeats 4000000 in
theorem om_L_line {xs : List Int32} {d : Nat} {S : QS} {m0 : MM} {p1 p2 p3 p4 : Int} {v0 : Value} {v1 : Value} {v2 : Value} {v3 : Value} {v4 : Value} {v5 : Value} {rz : Int} {rm : MM}
  (hd : 3 ≤ d) (R : Rp S m0) (f0 : q_is 2 v0 4) (f1 : q_is 0 v1 p1) (f2 : q_is 0 v2 p2) (f3 : q_is 0 v3 p3) (f4 : q_is 0 v4 p4) (f5 : q_is 2 v5 162)
  (h : fm_L_line p1 p2 p3 p4 m0 = some (rz, rm)) : Mt xs d 340 [v0, v1, v2, v3, v4, v5] S (Cr 0 m0 rm rz) := by
  obtain ⟨d, rfl⟩ : ∃ e, d = e + 1 := ⟨d - 1, by omega⟩
  have hd : 2 ≤ d := Nat.le_of_succ_le_succ hd
  refine Mt.of (M := qM_L_line) rfl (by rw [sl_1 (q_is_cat f0 (Or.inr rfl)), sl_1 (q_is_cat f1 (Or.inl rfl)), sl_1 (q_is_cat f2 (Or.inl rfl)), sl_1 (q_is_cat f3 (Or.inl rfl)), sl_1 (q_is_cat f4 (Or.inl rfl)), sl_1 (q_is_cat f5 (Or.inr rfl)), sl_0]; decide) ?_
  rw [la_1 (q_is_cat f0 (Or.inr rfl)), la_1 (q_is_cat f1 (Or.inl rfl)), la_1 (q_is_cat f2 (Or.inl rfl)), la_1 (q_is_cat f3 (Or.inl rfl)), la_1 (q_is_cat f4 (Or.inl rfl)), la_1 (q_is_cat f5 (Or.inr rfl)), la_0]
  obtain ⟨L, hL⟩ : ∃ L : QL, L = [(0, v0), (0 + 1, v1), (0 + 1 + 1, v2), (0 + 1 + 1 + 1, v3), (0 + 1 + 1 + 1 + 1, v4), (0 + 1 + 1 + 1 + 1 + 1, v5)] := ⟨_, rfl⟩
  rw [← hL]
  have l0 : q_lo L 0 = some v0 := by rw [hL]; rfl
  have l1 : q_lo L 1 = some v1 := by rw [hL]; rfl
  have l2 : q_lo L 2 = some v2 := by rw [hL]; rfl
  have l3 : q_lo L 3 = some v3 := by rw [hL]; rfl
  have l4 : q_lo L 4 = some v4 := by rw [hL]; rfl
  have l5 : q_lo L 5 = some v5 := by rw [hL]; rfl
  have hQ : Ext m0 rm → ∀ o S1, Rp S1 rm → q_out 0 o rz → (Cr 0 m0 rm rz) o S1 := fun a o S1 b e => ⟨b, a, e⟩
  unfold fm_L_line at h
  refine go_aload (n := 5) (by decide +kernel) l5 f5 ?_
  refine go_iconst (n := 0) (z := 0) (by decide +kernel) (by decide) fun v_1 f_2 => ?_
  refine go_aload_n (n := 0) (by decide +kernel) l0 f0 ?_
  refine go_iload_n (n := 1) (by decide +kernel) l1 f1 ?_
  refine go_iload_n (n := 2) (by decide +kernel) l2 f2 ?_
  refine go_iload_n (n := 3) (by decide +kernel) l3 f3 ?_
  refine go_iload (n := 4) (by decide +kernel) l4 f4 ?_
  obtain ⟨rr5, m_5, hc_3, h⟩ := bx_s h
  rcases h with ⟨q_12, rfl, h⟩ | ⟨x_4, rfl, h⟩
  · refine go_callV (x := 7) (mi := 100) (n := 4) (ci := 12) (as := [v1, v2, v3, v4]) (rest := [v_1, v5]) (by decide +kernel) (by decide +kernel) rfl rfl (q_sum8 _ (Nat.le_of_ble_eq_true rfl)) R f0 (fx_k (c := 12) R (by decide +kernel)) (om_X11_line (Nat.le_trans (by decide) hd) R f0 f1 f2 f3 f4 hc_3) (fun _ _ qq => kx_lx qq) (fun _ _ qq => ?_)
    obtain ⟨rfl, Rq, Eq⟩ := kx_e qq
    by_cases hp_14 : q_12 = 0
    · have h := it_t hp_14 h
      subst hp_14
      refine Or.inr ⟨by decide, _, _, q_hand_n (n := 6) (h := (0, 14, 17, 13)) (by decide +kernel) (by decide +kernel) (by decide), ?_⟩
      refine go_iconst (n := 1) (z := 1) (by decide +kernel) (by decide) fun v_19 f_20 => ?_
      cases h
      exact go_iret (by decide +kernel) rfl (Or.inl rfl) f_20 (hQ Eq _ _ Rq (q_out_v (by decide) f_20))
    have h := it_f hp_14 h
    by_cases hp_21 : q_12 = 1
    · have h := it_t hp_21 h
      subst hp_21
      refine Or.inr ⟨by decide, _, _, q_hand_n (n := 6) (h := (0, 14, 21, 15)) (by decide +kernel) (by decide +kernel) (by decide), ?_⟩
      refine go_iconst (n := 2) (z := 2) (by decide +kernel) (by decide) fun v_26 f_27 => ?_
      cases h
      exact go_iret (by decide +kernel) rfl (Or.inl rfl) f_27 (hQ Eq _ _ Rq (q_out_v (by decide) f_27))
    have h := it_f hp_21 h
    by_cases hp_28 : q_12 = 2
    · have h := it_t hp_28 h
      subst hp_28
      refine Or.inr ⟨by decide, _, _, q_hand_n (n := 6) (h := (0, 14, 25, 17)) (by decide +kernel) (by decide +kernel) (by decide), ?_⟩
      refine go_iconst (n := 3) (z := 3) (by decide +kernel) (by decide) fun v_33 f_34 => ?_
      cases h
      exact go_iret (by decide +kernel) rfl (Or.inl rfl) f_34 (hQ Eq _ _ Rq (q_out_v (by decide) f_34))
    have h := it_f hp_28 h
    cases h
  refine go_callV (x := 7) (mi := 100) (n := 4) (ci := 12) (as := [v1, v2, v3, v4]) (rest := [v_1, v5]) (by decide +kernel) (by decide +kernel) rfl rfl (q_sum8 _ (Nat.le_of_ble_eq_true rfl)) R f0 (fx_k (c := 12) R (by decide +kernel)) (om_X11_line (Nat.le_trans (by decide) hd) R f0 f1 f2 f3 f4 hc_3) (fun _ S_8 q_11 => ?_) (fun _ _ qq => kr_x (kx_l qq))
  have q_11 := kx_l q_11
  refine kr_z (by decide) q_11 fun v_6 f_7 R_9 E_10 => ?_
  have E_37 := E_10
  refine go_i2l (by decide +kernel) f_7 fun v_38 f_39 => ?_
  obtain ⟨m_40, e_41, h⟩ := up_s h
  refine go_last (kd := 101) (by decide +kernel) rfl R_9 f5 f_2 f_39 (fx_k (c := 101) R_9 (by decide +kernel)) (fx_x (a := 162) (ln := 1) R_9 (by decide +kernel) (by decide)) e_41 (fx_a R_9.2 (fx_k (c := 101) R_9 (by decide +kernel)) (And.left (fx_x (a := 162) (ln := 1) R_9 (by decide +kernel) (by decide))) (by decide +kernel)) fun S_42 R_43 E_44 => ?_
  have E_46 := Ext.tr E_37 E_44
  refine go_goto (o := 15) (t := 29) (by decide +kernel) (by decide +kernel) ?_
  refine go_iconst (n := 0) (z := 0) (by decide +kernel) (by decide) fun v_47 f_48 => ?_
  cases h
  exact go_iret (by decide +kernel) rfl (Or.inl rfl) f_48 (hQ E_46 _ _ R_43 (q_out_v (by decide) f_48))
end DF47
