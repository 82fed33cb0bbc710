/-! Methods as functions (written by wip/whole/dec.py), 8: X4_doBranchLine, X4_undo, X4_doEndingLine, X4_patch, X4_doOtherLine. -/
section DF8
noncomputable def fj_X4_doBranchLine_115 (y1 : Int) (m : MM) : Option (Int × MM) := gd (okc m y1 2) <| lx (m y1 10) fun x_130 =>
bp (fm_X8_popped x_130 m) fun x_133 =>
up m y1 10 x_133 fun m_141 =>
some (0, m_141)
set_option maxHeartbeats 4000000 in
theorem oj_X4_doBranchLine_115 {xs : List Int32} {d : Nat} {S : QS} {L : QL} {Q : QO → QS → Prop} {m : MM} {y1 : Int} {v0 : Value} {v1 : Value}  {rz : Int} {rm : MM}
  (hd : 4 ≤ d) (R : Rp S m) (l0 : q_lo L 0 = some v0) (f0 : q_is 2 v0 16) (l1 : q_lo L 1 = some v1) (f1 : q_is 2 v1 y1)
  (hQ : Ext m rm → ∀ o S1, Rp S1 rm → q_out 9 o rz → Q o S1)
  (h : fj_X4_doBranchLine_115 y1 m = some (rz, rm)) : Go xs d qM_X4_doBranchLine 115 L [] S Q := by
  unfold fj_X4_doBranchLine_115 at h
  refine go_aload_n (n := 1) (by decide +kernel) l1 f1 ?_
  refine go_aload_n (n := 0) (by decide +kernel) l0 f0 ?_
  refine go_getf (x := 10) (ci := 5) (kf := 0) (fin := 1) (t := 2) (by decide +kernel) (by decide +kernel) (by decide +kernel) R f0 (fx_k (c := 5) R (by decide +kernel)) fun v_123 f_124 => ?_
  have f_125 := q_is_eq (b := 17) f_124 (fx_v R (by decide +kernel)).symm
  refine go_aload_n (n := 1) (by decide +kernel) l1 f1 ?_
  obtain ⟨g_128, h⟩ := gd_s h
  obtain ⟨x_130, e_131, h⟩ := lx_s h
  refine go_getf (x := 202) (ci := 2) (kf := 10) (fin := 0) (t := 0) (by decide +kernel) (by decide +kernel) (by decide +kernel) R f1 g_128 fun v_126 f_127 => ?_
  have f_129 := q_is_eq f_127 e_131
  obtain ⟨x_133, hc_132, h⟩ := bp_s h
  refine go_callV (x := 208) (mi := 80) (n := 1) (ci := 9) (as := [v_126]) (rest := [v1]) (by decide +kernel) (by decide +kernel) rfl rfl (q_sum8 _ (Nat.le_of_ble_eq_true rfl)) R f_125 (fx_k (c := 9) R (by decide +kernel)) (om_X8_popped (Nat.le_trans (by decide) hd) R f_125 f_129 hc_132) (fun _ S_137 q_140 => ?_) (fun _ _ qq => kr_x qq)
  refine kr_z (by decide) q_140 fun v_135 f_136 R_138 E_139 => ?_
  obtain ⟨m_141, e_142, h⟩ := up_s h
  refine go_putf (x := 202) (ci := 2) (kf := 10) (fin := 0) (zt := 0) (by decide +kernel) (by decide +kernel) (by decide) (by decide +kernel) (by decide) (Or.inl rfl) R_138 f1 f_136 (fun hq => absurd hq (by decide)) g_128 e_142 (fx_f (j := 10) R_138.2 g_128 (by decide +kernel)) fun S_143 R_144 E_145 => ?_
  have E_147 := E_145
  cases h
  exact go_vret (by decide +kernel) rfl (hQ E_147 _ _ R_144 q_out_n)
noncomputable def fm_X4_doBranchLine (p1 p2 p3 : Int) (m0 : MM) : Option (Int × MM) := if p2 = 9 then
gd (okc m0 p1 2) <| bd (fm_X1_waitFor p1 4 0 m0) fun x_155 m_156 =>
some (0, m_156)
else
gd (okc m0 p1 2) <| lx (m0 p1 4) fun x_8 =>
bd (fm_X1_goOnAt p1 (w32 (x_8 + 1)) m0) fun x_15 m_16 =>
if p2 = 8 then
bd (fm_X4_beginBelow p1 p3 m_16) fun x_29 m_30 =>
some (0, m_30)
else if p2 = 10 then
bd (fm_X4_beginBelow p1 p3 m_16) fun x_43 m_44 =>
bd (fm_X4_race p1 x_43 m_44) fun x_55 m_56 =>
some (0, m_56)
else if p2 = 11 then
bd (fm_X4_win p1 m_16) fun x_69 m_70 =>
bd (fm_X4_dropDoomed m_70) fun x_81 m_82 =>
some (0, m_82)
else if p2 = 12 then
lx (m_16 p1 10) fun x_101 =>
bd (fm_X8_pushed x_101 p3 m_16) fun x_104 m_105 =>
up m_105 p1 10 x_104 fun m_116 =>
some (0, m_116)
else 
fj_X4_doBranchLine_115 p1 m_16
set_option maxHeartbeats 4000000 in
theorem om_X4_doBranchLine {xs : List Int32} {d : Nat} {S : QS} {m0 : MM} {p1 p2 p3 : Int} {v0 : Value} {v1 : Value} {v2 : Value} {v3 : Value} {rz : Int} {rm : MM}
  (hd : 5 ≤ d) (R : Rp S m0) (f0 : q_is 2 v0 16) (f1 : q_is 2 v1 p1) (f2 : q_is 0 v2 p2) (f3 : q_is 0 v3 p3)
  (h : fm_X4_doBranchLine p1 p2 p3 m0 = some (rz, rm)) : Mt xs d 48 [v0, v1, v2, v3] S (Cr 9 m0 rm rz) := by
  obtain ⟨d, rfl⟩ : ∃ e, d = e + 1 := ⟨d - 1, by omega⟩
  have hd : 4 ≤ d := Nat.le_of_succ_le_succ hd
  refine Mt.of (M := qM_X4_doBranchLine) rfl (by rw [sl_1 (q_is_cat f0 (Or.inr rfl)), sl_1 (q_is_cat f1 (Or.inr rfl)), sl_1 (q_is_cat f2 (Or.inl rfl)), sl_1 (q_is_cat f3 (Or.inl rfl)), sl_0]; decide) ?_
  rw [la_1 (q_is_cat f0 (Or.inr rfl)), la_1 (q_is_cat f1 (Or.inr rfl)), la_1 (q_is_cat f2 (Or.inl rfl)), la_1 (q_is_cat f3 (Or.inl rfl)), la_0]
  obtain ⟨L, hL⟩ : ∃ L : QL, L = [(0, v0), (0 + 1, v1), (0 + 1 + 1, v2), (0 + 1 + 1 + 1, v3)] := ⟨_, rfl⟩
  rw [← hL]
  have l0 : q_lo L 0 = some v0 := by rw [hL]; rfl
  have l1 : q_lo L 1 = some v1 := by rw [hL]; rfl
  have l2 : q_lo L 2 = some v2 := by rw [hL]; rfl
  have l3 : q_lo L 3 = some v3 := by rw [hL]; rfl
  have hQ : Ext m0 rm → ∀ o S1, Rp S1 rm → q_out 9 o rz → (Cr 9 m0 rm rz) o S1 := fun a o S1 b e => ⟨b, a, e⟩
  unfold fm_X4_doBranchLine at h
  refine go_iload_n (n := 2) (by decide +kernel) l2 f2 ?_
  refine go_bipush (n := 9) (z := 9) (by decide +kernel) (by decide) fun v_1 f_2 => ?_
  refine go_icmp (c := .ne) (o := 10) (t := 13) (P := ¬ (p2 = 9)) (by decide +kernel) (by decide +kernel) f2 f_2 (Iff.rfl) (fun hp_3 => ?_) (fun hp_3 => ?_)
  · have h := it_f hp_3 h
    refine go_aload_n (n := 1) (by decide +kernel) l1 f1 ?_
    refine go_aload_n (n := 1) (by decide +kernel) l1 f1 ?_
    obtain ⟨g_6, h⟩ := gd_s h
    obtain ⟨x_8, e_9, h⟩ := lx_s h
    refine go_getf (x := 168) (ci := 2) (kf := 4) (fin := 0) (t := 0) (by decide +kernel) (by decide +kernel) (by decide +kernel) R f1 g_6 fun v_4 f_5 => ?_
    have f_7 := q_is_eq f_5 e_9
    refine go_iconst (n := 1) (z := 1) (by decide +kernel) (by decide) fun v_10 f_11 => ?_
    refine go_iadd (by decide +kernel) f_7 f_11 fun v_12 f_13 => ?_
    obtain ⟨x_15, m_16, hc_14, h⟩ := bd_s h
    refine go_callV (x := 171) (mi := 5) (n := 1) (ci := 2) (as := [v_12]) (rest := []) (by decide +kernel) (by decide +kernel) rfl rfl (q_sum8 _ (Nat.le_of_ble_eq_true rfl)) R f1 g_6 (om_X1_goOnAt (Nat.le_trans (by decide) hd) R g_6 f1 f_13 hc_14) (fun _ S_19 q_22 => ?_) (fun _ _ qq => kr_x qq)
    refine kr_v q_22 fun R_20 E_21 => ?_
    have E_25 := E_21
    refine go_iload_n (n := 2) (by decide +kernel) l2 f2 ?_
    by_cases hp_27 : p2 = 8
    · have h := it_t hp_27 h
      refine go_tsin (dflt := 91) (lo := 8) (hi := 12) (offs := #[36, 91, 46, 60, 72]) (o := 36) (t := 60) (by decide +kernel) f2 (by omega) (by omega) (by rw [hp_27]; decide) (by decide +kernel) ?_
      refine go_aload_n (n := 0) (by decide +kernel) l0 f0 ?_
      refine go_aload_n (n := 1) (by decide +kernel) l1 f1 ?_
      refine go_iload_n (n := 3) (by decide +kernel) l3 f3 ?_
      obtain ⟨x_29, m_30, hc_28, h⟩ := bd_s h
      refine go_callV (x := 269) (mi := 49) (n := 2) (ci := 5) (as := [v1, v3]) (rest := []) (by decide +kernel) (by decide +kernel) rfl rfl (q_sum8 _ (Nat.le_of_ble_eq_true rfl)) R_20 f0 (fx_k (c := 5) R_20 (by decide +kernel)) (om_X4_beginBelow (Nat.le_trans (by decide) hd) R_20 f0 f1 f3 hc_28) (fun _ S_33 q_36 => ?_) (fun _ _ qq => kr_x qq)
      refine kr_z (by decide) q_36 fun v_31 f_32 R_34 E_35 => ?_
      have E_39 := Ext.tr E_25 E_35
      refine go_pop (by decide +kernel) f_32 (Or.inr rfl) ?_
      refine go_goto (o := 63) (t := 130) (by decide +kernel) (by decide +kernel) ?_
      cases h
      exact go_vret (by decide +kernel) rfl (hQ E_39 _ _ R_34 q_out_n)
    have h := it_f hp_27 h
    by_cases hp_41 : p2 = 10
    · have h := it_t hp_41 h
      refine go_tsin (dflt := 91) (lo := 8) (hi := 12) (offs := #[36, 91, 46, 60, 72]) (o := 46) (t := 70) (by decide +kernel) f2 (by omega) (by omega) (by rw [hp_41]; decide) (by decide +kernel) ?_
      refine go_aload_n (n := 0) (by decide +kernel) l0 f0 ?_
      refine go_aload_n (n := 1) (by decide +kernel) l1 f1 ?_
      refine go_aload_n (n := 0) (by decide +kernel) l0 f0 ?_
      refine go_aload_n (n := 1) (by decide +kernel) l1 f1 ?_
      refine go_iload_n (n := 3) (by decide +kernel) l3 f3 ?_
      obtain ⟨x_43, m_44, hc_42, h⟩ := bd_s h
      refine go_callV (x := 269) (mi := 49) (n := 2) (ci := 5) (as := [v1, v3]) (rest := [v1, v0]) (by decide +kernel) (by decide +kernel) rfl rfl (q_sum8 _ (Nat.le_of_ble_eq_true rfl)) R_20 f0 (fx_k (c := 5) R_20 (by decide +kernel)) (om_X4_beginBelow (Nat.le_trans (by decide) hd) R_20 f0 f1 f3 hc_42) (fun _ S_47 q_50 => ?_) (fun _ _ qq => kr_x qq)
      refine kr_z (by decide) q_50 fun v_45 f_46 R_48 E_49 => ?_
      have E_53 := Ext.tr E_25 E_49
      obtain ⟨x_55, m_56, hc_54, h⟩ := bd_s h
      refine go_callV (x := 273) (mi := 50) (n := 2) (ci := 5) (as := [v1, v_45]) (rest := []) (by decide +kernel) (by decide +kernel) rfl rfl (q_sum8 _ (Nat.le_of_ble_eq_true rfl)) R_48 f0 (fx_k (c := 5) R_48 (by decide +kernel)) (om_X4_race (Nat.le_trans (by decide) hd) R_48 f0 f1 f_46 hc_54) (fun _ S_59 q_62 => ?_) (fun _ _ qq => kr_x qq)
      refine kr_v q_62 fun R_60 E_61 => ?_
      have E_65 := Ext.tr E_53 E_61
      refine go_goto (o := 49) (t := 130) (by decide +kernel) (by decide +kernel) ?_
      cases h
      exact go_vret (by decide +kernel) rfl (hQ E_65 _ _ R_60 q_out_n)
    have h := it_f hp_41 h
    by_cases hp_67 : p2 = 11
    · have h := it_t hp_67 h
      refine go_tsin (dflt := 91) (lo := 8) (hi := 12) (offs := #[36, 91, 46, 60, 72]) (o := 60) (t := 84) (by decide +kernel) f2 (by omega) (by omega) (by rw [hp_67]; decide) (by decide +kernel) ?_
      refine go_aload_n (n := 0) (by decide +kernel) l0 f0 ?_
      refine go_aload_n (n := 1) (by decide +kernel) l1 f1 ?_
      obtain ⟨x_69, m_70, hc_68, h⟩ := bd_s h
      refine go_callV (x := 277) (mi := 51) (n := 1) (ci := 5) (as := [v1]) (rest := []) (by decide +kernel) (by decide +kernel) rfl rfl (q_sum8 _ (Nat.le_of_ble_eq_true rfl)) R_20 f0 (fx_k (c := 5) R_20 (by decide +kernel)) (om_X4_win (Nat.le_trans (by decide) hd) R_20 f0 f1 hc_68) (fun _ S_73 q_76 => ?_) (fun _ _ qq => kr_x qq)
      refine kr_v q_76 fun R_74 E_75 => ?_
      have E_79 := Ext.tr E_25 E_75
      refine go_aload_n (n := 0) (by decide +kernel) l0 f0 ?_
      obtain ⟨x_81, m_82, hc_80, h⟩ := bd_s h
      refine go_callV (x := 280) (mi := 52) (n := 0) (ci := 5) (as := []) (rest := []) (by decide +kernel) (by decide +kernel) rfl rfl (q_sum8 _ (Nat.le_of_ble_eq_true rfl)) R_74 f0 (fx_k (c := 5) R_74 (by decide +kernel)) (om_X4_dropDoomed (Nat.le_trans (by decide) hd) R_74 f0 hc_80) (fun _ S_85 q_88 => ?_) (fun _ _ qq => kr_x qq)
      refine kr_v q_88 fun R_86 E_87 => ?_
      have E_91 := Ext.tr E_79 E_87
      refine go_goto (o := 37) (t := 130) (by decide +kernel) (by decide +kernel) ?_
      cases h
      exact go_vret (by decide +kernel) rfl (hQ E_91 _ _ R_86 q_out_n)
    have h := it_f hp_67 h
    by_cases hp_93 : p2 = 12
    · have h := it_t hp_93 h
      refine go_tsin (dflt := 91) (lo := 8) (hi := 12) (offs := #[36, 91, 46, 60, 72]) (o := 72) (t := 96) (by decide +kernel) f2 (by omega) (by omega) (by rw [hp_93]; decide) (by decide +kernel) ?_
      refine go_aload_n (n := 1) (by decide +kernel) l1 f1 ?_
      refine go_aload_n (n := 0) (by decide +kernel) l0 f0 ?_
      refine go_getf (x := 10) (ci := 5) (kf := 0) (fin := 1) (t := 2) (by decide +kernel) (by decide +kernel) (by decide +kernel) R_20 f0 (fx_k (c := 5) R_20 (by decide +kernel)) fun v_94 f_95 => ?_
      have f_96 := q_is_eq (b := 17) f_95 (fx_v R_20 (by decide +kernel)).symm
      refine go_aload_n (n := 1) (by decide +kernel) l1 f1 ?_
      have g_99 := Ext.ok E_21 g_6
      obtain ⟨x_101, e_102, h⟩ := lx_s h
      refine go_getf (x := 202) (ci := 2) (kf := 10) (fin := 0) (t := 0) (by decide +kernel) (by decide +kernel) (by decide +kernel) R_20 f1 g_99 fun v_97 f_98 => ?_
      have f_100 := q_is_eq f_98 e_102
      refine go_iload_n (n := 3) (by decide +kernel) l3 f3 ?_
      obtain ⟨x_104, m_105, hc_103, h⟩ := bd_s h
      refine go_callV (x := 283) (mi := 78) (n := 2) (ci := 9) (as := [v_97, v3]) (rest := [v1]) (by decide +kernel) (by decide +kernel) rfl rfl (q_sum8 _ (Nat.le_of_ble_eq_true rfl)) R_20 f_96 (fx_k (c := 9) R_20 (by decide +kernel)) (om_X8_pushed (Nat.le_trans (by decide) hd) R_20 f_96 f_100 f3 hc_103) (fun _ S_108 q_111 => ?_) (fun _ _ qq => kr_x qq)
      refine kr_z (by decide) q_111 fun v_106 f_107 R_109 E_110 => ?_
      have E_114 := Ext.tr E_25 E_110
      have g_115 := Ext.ok E_110 g_99
      obtain ⟨m_116, e_117, h⟩ := up_s h
      refine go_putf (x := 202) (ci := 2) (kf := 10) (fin := 0) (zt := 0) (by decide +kernel) (by decide +kernel) (by decide) (by decide +kernel) (by decide) (Or.inl rfl) R_109 f1 f_107 (fun hq => absurd hq (by decide)) g_115 e_117 (fx_f (j := 10) R_109.2 g_115 (by decide +kernel)) fun S_118 R_119 E_120 => ?_
      have E_122 := Ext.tr E_114 E_120
      refine go_goto (o := 18) (t := 130) (by decide +kernel) (by decide +kernel) ?_
      cases h
      exact go_vret (by decide +kernel) rfl (hQ E_122 _ _ R_119 q_out_n)
    have h := it_f hp_93 h
    by_cases hp_148 : p2 = 9
    · refine go_tsin (dflt := 91) (lo := 8) (hi := 12) (offs := #[36, 91, 46, 60, 72]) (o := 91) (t := 115) (by decide +kernel) f2 (by omega) (by omega) (by rw [hp_148]; decide) (by decide +kernel) ?_
      exact oj_X4_doBranchLine_115 hd R_20 l0 f0 l1 f1 (fun b => hQ (Ext.tr E_25 b)) h
    refine go_tsout (dflt := 91) (lo := 8) (hi := 12) (offs := #[36, 91, 46, 60, 72]) (t := 115) (by decide +kernel) f2 (by omega) (by decide +kernel) ?_
    exact oj_X4_doBranchLine_115 hd R_20 l0 f0 l1 f1 (fun b => hQ (Ext.tr E_25 b)) h
  · have h := it_n hp_3 h
    refine go_aload_n (n := 1) (by decide +kernel) l1 f1 ?_
    refine go_iconst (n := 4) (z := 4) (by decide +kernel) (by decide) fun v_149 f_150 => ?_
    refine go_iconst (n := 0) (z := 0) (by decide +kernel) (by decide) fun v_151 f_152 => ?_
    obtain ⟨g_153, h⟩ := gd_s h
    obtain ⟨x_155, m_156, hc_154, h⟩ := bd_s h
    refine go_callV (x := 266) (mi := 4) (n := 2) (ci := 2) (as := [v_149, v_151]) (rest := []) (by decide +kernel) (by decide +kernel) rfl rfl (q_sum8 _ (Nat.le_of_ble_eq_true rfl)) R f1 g_153 (om_X1_waitFor (Nat.le_trans (by decide) hd) R g_153 f1 f_150 f_152 hc_154) (fun _ S_159 q_162 => ?_) (fun _ _ qq => kr_x qq)
    refine kr_v q_162 fun R_160 E_161 => ?_
    have E_165 := E_161
    cases h
    exact go_vret (by decide +kernel) rfl (hQ E_165 _ _ R_160 q_out_n)
noncomputable def fm_X4_undo (p1 : Int) (m0 : MM) : Option (Int × MM) := lx (m0 17 4) fun x_7 =>
if x_7 = 0 then
gd (okc m0 p1 2) <| lx (m0 p1 4) fun x_102 =>
bd (fm_X1_goOnAt p1 (w32 (x_102 + 1)) m0) fun x_109 m_110 =>
some (0, m_110)
else
bp (fm_X8_top x_7 m0) fun x_20 =>
bp (fm_X8_popped x_7 m0) fun x_46 =>
up m0 17 4 x_46 fun m_54 =>
bd (fm_X4_command 8 (w32 (Int.tdiv x_20 1000)) (Int.tmod x_20 1000) m_54) fun x_74 m_75 =>
gd (okc m_75 p1 2) <| bd (fm_X1_waitFor p1 2 x_74 m_75) fun x_87 m_88 =>
some (0, m_88)
set_option maxHeartbeats 4000000 in
theorem om_X4_undo {xs : List Int32} {d : Nat} {S : QS} {m0 : MM} {p1 : Int} {v0 : Value} {v1 : Value} {rz : Int} {rm : MM}
  (hd : 4 ≤ d) (R : Rp S m0) (f0 : q_is 2 v0 16) (f1 : q_is 2 v1 p1)
  (h : fm_X4_undo p1 m0 = some (rz, rm)) : Mt xs d 54 [v0, v1] S (Cr 9 m0 rm rz) := by
  obtain ⟨d, rfl⟩ : ∃ e, d = e + 1 := ⟨d - 1, by omega⟩
  have hd : 3 ≤ d := Nat.le_of_succ_le_succ hd
  refine Mt.of (M := qM_X4_undo) rfl (by rw [sl_1 (q_is_cat f0 (Or.inr rfl)), sl_1 (q_is_cat f1 (Or.inr rfl)), sl_0]; decide) ?_
  rw [la_1 (q_is_cat f0 (Or.inr rfl)), la_1 (q_is_cat f1 (Or.inr rfl)), la_0]
  obtain ⟨L, hL⟩ : ∃ L : QL, L = [(0, v0), (0 + 1, v1)] := ⟨_, rfl⟩
  rw [← hL]
  have l0 : q_lo L 0 = some v0 := by rw [hL]; rfl
  have l1 : q_lo L 1 = some v1 := by rw [hL]; rfl
  have hQ : Ext m0 rm → ∀ o S1, Rp S1 rm → q_out 9 o rz → (Cr 9 m0 rm rz) o S1 := fun a o S1 b e => ⟨b, a, e⟩
  unfold fm_X4_undo at h
  refine go_aload_n (n := 0) (by decide +kernel) l0 f0 ?_
  refine go_getf (x := 10) (ci := 5) (kf := 0) (fin := 1) (t := 2) (by decide +kernel) (by decide +kernel) (by decide +kernel) R f0 (fx_k (c := 5) R (by decide +kernel)) fun v_1 f_2 => ?_
  have f_3 := q_is_eq (b := 17) f_2 (fx_v R (by decide +kernel)).symm
  obtain ⟨x_7, e_8, h⟩ := lx_s h
  refine go_getf (x := 301) (ci := 9) (kf := 4) (fin := 0) (t := 0) (by decide +kernel) (by decide +kernel) (by decide +kernel) R f_3 (fx_k (c := 9) R (by decide +kernel)) fun v_4 f_5 => ?_
  have f_6 := q_is_eq f_5 e_8
  refine go_if (c := .ne) (o := 14) (t := 21) (P := ¬ (x_7 = 0)) (by decide +kernel) (by decide +kernel) f_6 (Iff.rfl) (fun hp_9 => ?_) (fun hp_9 => ?_)
  · have h := it_f hp_9 h
    refine go_aload_n (n := 0) (by decide +kernel) l0 f0 ?_
    refine go_getf (x := 10) (ci := 5) (kf := 0) (fin := 1) (t := 2) (by decide +kernel) (by decide +kernel) (by decide +kernel) R f0 (fx_k (c := 5) R (by decide +kernel)) fun v_10 f_11 => ?_
    have f_12 := q_is_eq (b := 17) f_11 (fx_v R (by decide +kernel)).symm
    refine go_aload_n (n := 0) (by decide +kernel) l0 f0 ?_
    refine go_getf (x := 10) (ci := 5) (kf := 0) (fin := 1) (t := 2) (by decide +kernel) (by decide +kernel) (by decide +kernel) R f0 (fx_k (c := 5) R (by decide +kernel)) fun v_13 f_14 => ?_
    have f_15 := q_is_eq (b := 17) f_14 (fx_v R (by decide +kernel)).symm
    refine go_getf (x := 301) (ci := 9) (kf := 4) (fin := 0) (t := 0) (by decide +kernel) (by decide +kernel) (by decide +kernel) R f_15 (fx_k (c := 9) R (by decide +kernel)) fun v_16 f_17 => ?_
    have f_18 := q_is_eq f_17 e_8
    obtain ⟨x_20, hc_19, h⟩ := bp_s h
    refine go_callV (x := 205) (mi := 79) (n := 1) (ci := 9) (as := [v_16]) (rest := []) (by decide +kernel) (by decide +kernel) rfl rfl (q_sum8 _ (Nat.le_of_ble_eq_true rfl)) R f_12 (fx_k (c := 9) R (by decide +kernel)) (om_X8_top (Nat.le_trans (by decide) hd) R f_12 f_18 hc_19) (fun _ S_24 q_27 => ?_) (fun _ _ qq => kr_x qq)
    refine kr_z (by decide) q_27 fun v_22 f_23 R_25 E_26 => ?_
    refine go_istore_n (n := 2) (by decide +kernel) (by decide +kernel) f_23 fun L_28 l_29 kp_30 => ?_
    have l_31 := kp_30 0 _ l0 (by decide) (Or.inl (by decide))
    have l_32 := kp_30 1 _ l1 (by decide) (Or.inr (q_is_cat f1 (Or.inr rfl)))
    refine go_aload_n (n := 0) (by decide +kernel) l_31 f0 ?_
    refine go_getf (x := 10) (ci := 5) (kf := 0) (fin := 1) (t := 2) (by decide +kernel) (by decide +kernel) (by decide +kernel) R_25 f0 (fx_k (c := 5) R_25 (by decide +kernel)) fun v_33 f_34 => ?_
    have f_35 := q_is_eq (b := 17) f_34 (fx_v R_25 (by decide +kernel)).symm
    refine go_aload_n (n := 0) (by decide +kernel) l_31 f0 ?_
    refine go_getf (x := 10) (ci := 5) (kf := 0) (fin := 1) (t := 2) (by decide +kernel) (by decide +kernel) (by decide +kernel) R_25 f0 (fx_k (c := 5) R_25 (by decide +kernel)) fun v_36 f_37 => ?_
    have f_38 := q_is_eq (b := 17) f_37 (fx_v R_25 (by decide +kernel)).symm
    refine go_aload_n (n := 0) (by decide +kernel) l_31 f0 ?_
    refine go_getf (x := 10) (ci := 5) (kf := 0) (fin := 1) (t := 2) (by decide +kernel) (by decide +kernel) (by decide +kernel) R_25 f0 (fx_k (c := 5) R_25 (by decide +kernel)) fun v_39 f_40 => ?_
    have f_41 := q_is_eq (b := 17) f_40 (fx_v R_25 (by decide +kernel)).symm
    refine go_getf (x := 301) (ci := 9) (kf := 4) (fin := 0) (t := 0) (by decide +kernel) (by decide +kernel) (by decide +kernel) R_25 f_41 (fx_k (c := 9) R_25 (by decide +kernel)) fun v_42 f_43 => ?_
    have f_44 := q_is_eq f_43 e_8
    obtain ⟨x_46, hc_45, h⟩ := bp_s h
    refine go_callV (x := 208) (mi := 80) (n := 1) (ci := 9) (as := [v_42]) (rest := [v_33]) (by decide +kernel) (by decide +kernel) rfl rfl (q_sum8 _ (Nat.le_of_ble_eq_true rfl)) R_25 f_38 (fx_k (c := 9) R_25 (by decide +kernel)) (om_X8_popped (Nat.le_trans (by decide) hd) R_25 f_38 f_44 hc_45) (fun _ S_50 q_53 => ?_) (fun _ _ qq => kr_x qq)
    refine kr_z (by decide) q_53 fun v_48 f_49 R_51 E_52 => ?_
    obtain ⟨m_54, e_55, h⟩ := up_s h
    refine go_putf (x := 301) (ci := 9) (kf := 4) (fin := 0) (zt := 0) (by decide +kernel) (by decide +kernel) (by decide) (by decide +kernel) (by decide) (Or.inl rfl) R_51 f_35 f_49 (fun hq => absurd hq (by decide)) (fx_k (c := 9) R_51 (by decide +kernel)) e_55 (fx_f (j := 4) R_51.2 (fx_k (c := 9) R_51 (by decide +kernel)) (by decide +kernel)) fun S_56 R_57 E_58 => ?_
    have E_60 := E_58
    refine go_aload_n (n := 1) (by decide +kernel) l_32 f1 ?_
    refine go_iconst (n := 2) (z := 2) (by decide +kernel) (by decide) fun v_61 f_62 => ?_
    refine go_aload_n (n := 0) (by decide +kernel) l_31 f0 ?_
    refine go_bipush (n := 8) (z := 8) (by decide +kernel) (by decide) fun v_63 f_64 => ?_
    refine go_iload_n (n := 2) (by decide +kernel) l_29 f_23 ?_
    refine go_sipush (n := 1000) (z := 1000) (by decide +kernel) (by decide) fun v_65 f_66 => ?_
    refine go_idiv (by decide +kernel) f_23 f_66 (by decide) fun v_67 f_68 => ?_
    refine go_iload_n (n := 2) (by decide +kernel) l_29 f_23 ?_
    refine go_sipush (n := 1000) (z := 1000) (by decide +kernel) (by decide) fun v_69 f_70 => ?_
    refine go_irem (by decide +kernel) f_23 f_70 (by decide) fun v_71 f_72 => ?_
    obtain ⟨x_74, m_75, hc_73, h⟩ := bd_s h
    refine go_callV (x := 198) (mi := 44) (n := 3) (ci := 5) (as := [v_63, v_67, v_71]) (rest := [v_61, v1]) (by decide +kernel) (by decide +kernel) rfl rfl (q_sum8 _ (Nat.le_of_ble_eq_true rfl)) R_57 f0 (fx_k (c := 5) R_57 (by decide +kernel)) (om_X4_command (Nat.le_trans (by decide) hd) R_57 f0 f_64 f_68 f_72 hc_73) (fun _ S_78 q_81 => ?_) (fun _ _ qq => kr_x qq)
    refine kr_z (by decide) q_81 fun v_76 f_77 R_79 E_80 => ?_
    have E_84 := Ext.tr E_60 E_80
    obtain ⟨g_85, h⟩ := gd_s h
    obtain ⟨x_87, m_88, hc_86, h⟩ := bd_s h
    refine go_callV (x := 266) (mi := 4) (n := 2) (ci := 2) (as := [v_61, v_76]) (rest := []) (by decide +kernel) (by decide +kernel) rfl rfl (q_sum8 _ (Nat.le_of_ble_eq_true rfl)) R_79 f1 g_85 (om_X1_waitFor (Nat.le_trans (by decide) hd) R_79 g_85 f1 f_62 f_77 hc_86) (fun _ S_91 q_94 => ?_) (fun _ _ qq => kr_x qq)
    refine kr_v q_94 fun R_92 E_93 => ?_
    have E_97 := Ext.tr E_84 E_93
    cases h
    exact go_vret (by decide +kernel) rfl (hQ E_97 _ _ R_92 q_out_n)
  · have h := it_n hp_9 h
    refine go_aload_n (n := 1) (by decide +kernel) l1 f1 ?_
    refine go_aload_n (n := 1) (by decide +kernel) l1 f1 ?_
    obtain ⟨g_100, h⟩ := gd_s h
    obtain ⟨x_102, e_103, h⟩ := lx_s h
    refine go_getf (x := 168) (ci := 2) (kf := 4) (fin := 0) (t := 0) (by decide +kernel) (by decide +kernel) (by decide +kernel) R f1 g_100 fun v_98 f_99 => ?_
    have f_101 := q_is_eq f_99 e_103
    refine go_iconst (n := 1) (z := 1) (by decide +kernel) (by decide) fun v_104 f_105 => ?_
    refine go_iadd (by decide +kernel) f_101 f_105 fun v_106 f_107 => ?_
    obtain ⟨x_109, m_110, hc_108, h⟩ := bd_s h
    refine go_callV (x := 171) (mi := 5) (n := 1) (ci := 2) (as := [v_106]) (rest := []) (by decide +kernel) (by decide +kernel) rfl rfl (q_sum8 _ (Nat.le_of_ble_eq_true rfl)) R f1 g_100 (om_X1_goOnAt (Nat.le_trans (by decide) hd) R g_100 f1 f_107 hc_108) (fun _ S_113 q_116 => ?_) (fun _ _ qq => kr_x qq)
    refine kr_v q_116 fun R_114 E_115 => ?_
    have E_119 := E_115
    cases h
    exact go_vret (by decide +kernel) rfl (hQ E_119 _ _ R_114 q_out_n)
noncomputable def fm_X4_doEndingLine (p1 p2 p3 p4 : Int) (m0 : MM) : Option (Int × MM) := if p2 = 14 then
lx (m0 17 4) fun x_15 =>
bp (fm_X8_value p4 m0) fun x_25 =>
bd (fm_X8_pushed x_15 (w32 ((w32 (1000 * p3)) + x_25)) m0) fun x_36 m_37 =>
up m_37 17 4 x_36 fun m_47 =>
gd (okc m_47 p1 2) <| lx (m_47 p1 4) fun x_58 =>
bd (fm_X1_goOnAt p1 (w32 (x_58 + 1)) m_47) fun x_65 m_66 =>
some (0, m_66)
else if p2 = 15 then
bd (fm_X4_undo p1 m0) fun x_79 m_80 =>
some (0, m_80)
else if p2 = 16 then
bd (fm_X4_endBranch p1 m0) fun x_93 m_94 =>
some (0, m_94)
else if p2 = 17 then
bd (fm_X4_failBranch p1 m0) fun x_107 m_108 =>
some (0, m_108)
else 
bp (fm_X8_value p3 m0) fun x_124 =>
bd (fm_X4_command 16 x_124 0 m0) fun x_135 m_136 =>
if x_135 < 0 then
some (0, m_136)
else
up m_136 17 9 16 fun m_152 =>
some (0, m_152)
set_option maxHeartbeats 4000000 in
theorem om_X4_doEndingLine {xs : List Int32} {d : Nat} {S : QS} {m0 : MM} {p1 p2 p3 p4 : Int} {v0 : Value} {v1 : Value} {v2 : Value} {v3 : Value} {v4 : Value} {rz : Int} {rm : MM}
  (hd : 5 ≤ d) (R : Rp S m0) (f0 : q_is 2 v0 16) (f1 : q_is 2 v1 p1) (f2 : q_is 0 v2 p2) (f3 : q_is 0 v3 p3) (f4 : q_is 0 v4 p4)
  (h : fm_X4_doEndingLine p1 p2 p3 p4 m0 = some (rz, rm)) : Mt xs d 53 [v0, v1, v2, v3, v4] S (Cr 9 m0 rm rz) := by
  obtain ⟨d, rfl⟩ : ∃ e, d = e + 1 := ⟨d - 1, by omega⟩
  have hd : 4 ≤ d := Nat.le_of_succ_le_succ hd
  refine Mt.of (M := qM_X4_doEndingLine) rfl (by rw [sl_1 (q_is_cat f0 (Or.inr rfl)), sl_1 (q_is_cat f1 (Or.inr rfl)), sl_1 (q_is_cat f2 (Or.inl rfl)), sl_1 (q_is_cat f3 (Or.inl rfl)), sl_1 (q_is_cat f4 (Or.inl rfl)), sl_0]; decide) ?_
  rw [la_1 (q_is_cat f0 (Or.inr rfl)), la_1 (q_is_cat f1 (Or.inr rfl)), la_1 (q_is_cat f2 (Or.inl rfl)), la_1 (q_is_cat f3 (Or.inl rfl)), la_1 (q_is_cat f4 (Or.inl rfl)), la_0]
  obtain ⟨L, hL⟩ : ∃ L : QL, L = [(0, v0), (0 + 1, v1), (0 + 1 + 1, v2), (0 + 1 + 1 + 1, v3), (0 + 1 + 1 + 1 + 1, v4)] := ⟨_, rfl⟩
  rw [← hL]
  have l0 : q_lo L 0 = some v0 := by rw [hL]; rfl
  have l1 : q_lo L 1 = some v1 := by rw [hL]; rfl
  have l2 : q_lo L 2 = some v2 := by rw [hL]; rfl
  have l3 : q_lo L 3 = some v3 := by rw [hL]; rfl
  have l4 : q_lo L 4 = some v4 := by rw [hL]; rfl
  have hQ : Ext m0 rm → ∀ o S1, Rp S1 rm → q_out 9 o rz → (Cr 9 m0 rm rz) o S1 := fun a o S1 b e => ⟨b, a, e⟩
  unfold fm_X4_doEndingLine at h
  refine go_iload_n (n := 2) (by decide +kernel) l2 f2 ?_
  by_cases hp_2 : p2 = 14
  · have h := it_t hp_2 h
    refine go_tsin (dflt := 104) (lo := 14) (hi := 17) (offs := #[31, 80, 88, 96]) (o := 31) (t := 32) (by decide +kernel) f2 (by omega) (by omega) (by rw [hp_2]; decide) (by decide +kernel) ?_
    refine go_aload_n (n := 0) (by decide +kernel) l0 f0 ?_
    refine go_getf (x := 10) (ci := 5) (kf := 0) (fin := 1) (t := 2) (by decide +kernel) (by decide +kernel) (by decide +kernel) R f0 (fx_k (c := 5) R (by decide +kernel)) fun v_3 f_4 => ?_
    have f_5 := q_is_eq (b := 17) f_4 (fx_v R (by decide +kernel)).symm
    refine go_aload_n (n := 0) (by decide +kernel) l0 f0 ?_
    refine go_getf (x := 10) (ci := 5) (kf := 0) (fin := 1) (t := 2) (by decide +kernel) (by decide +kernel) (by decide +kernel) R f0 (fx_k (c := 5) R (by decide +kernel)) fun v_6 f_7 => ?_
    have f_8 := q_is_eq (b := 17) f_7 (fx_v R (by decide +kernel)).symm
    refine go_aload_n (n := 0) (by decide +kernel) l0 f0 ?_
    refine go_getf (x := 10) (ci := 5) (kf := 0) (fin := 1) (t := 2) (by decide +kernel) (by decide +kernel) (by decide +kernel) R f0 (fx_k (c := 5) R (by decide +kernel)) fun v_9 f_10 => ?_
    have f_11 := q_is_eq (b := 17) f_10 (fx_v R (by decide +kernel)).symm
    obtain ⟨x_15, e_16, h⟩ := lx_s h
    refine go_getf (x := 301) (ci := 9) (kf := 4) (fin := 0) (t := 0) (by decide +kernel) (by decide +kernel) (by decide +kernel) R f_11 (fx_k (c := 9) R (by decide +kernel)) fun v_12 f_13 => ?_
    have f_14 := q_is_eq f_13 e_16
    refine go_sipush (n := 1000) (z := 1000) (by decide +kernel) (by decide) fun v_17 f_18 => ?_
    refine go_iload_n (n := 3) (by decide +kernel) l3 f3 ?_
    refine go_imul (by decide +kernel) f_18 f3 fun v_19 f_20 => ?_
    refine go_aload_n (n := 0) (by decide +kernel) l0 f0 ?_
    refine go_getf (x := 10) (ci := 5) (kf := 0) (fin := 1) (t := 2) (by decide +kernel) (by decide +kernel) (by decide +kernel) R f0 (fx_k (c := 5) R (by decide +kernel)) fun v_21 f_22 => ?_
    have f_23 := q_is_eq (b := 17) f_22 (fx_v R (by decide +kernel)).symm
    refine go_iload (n := 4) (by decide +kernel) l4 f4 ?_
    obtain ⟨x_25, hc_24, h⟩ := bp_s h
    refine go_callV (x := 217) (mi := 81) (n := 1) (ci := 9) (as := [v4]) (rest := [v_19, v_12, v_6, v_3]) (by decide +kernel) (by decide +kernel) rfl rfl (q_sum8 _ (Nat.le_of_ble_eq_true rfl)) R f_23 (fx_k (c := 9) R (by decide +kernel)) (om_X8_value (Nat.le_trans (by decide) hd) R f_23 f4 hc_24) (fun _ S_29 q_32 => ?_) (fun _ _ qq => kr_x qq)
    refine kr_z (by decide) q_32 fun v_27 f_28 R_30 E_31 => ?_
    refine go_iadd (by decide +kernel) f_20 f_28 fun v_33 f_34 => ?_
    obtain ⟨x_36, m_37, hc_35, h⟩ := bd_s h
    refine go_callV (x := 283) (mi := 78) (n := 2) (ci := 9) (as := [v_12, v_33]) (rest := [v_3]) (by decide +kernel) (by decide +kernel) rfl rfl (q_sum8 _ (Nat.le_of_ble_eq_true rfl)) R_30 f_8 (fx_k (c := 9) R_30 (by decide +kernel)) (om_X8_pushed (Nat.le_trans (by decide) hd) R_30 f_8 f_14 f_34 hc_35) (fun _ S_40 q_43 => ?_) (fun _ _ qq => kr_x qq)
    refine kr_z (by decide) q_43 fun v_38 f_39 R_41 E_42 => ?_
    have E_46 := E_42
    obtain ⟨m_47, e_48, h⟩ := up_s h
    refine go_putf (x := 301) (ci := 9) (kf := 4) (fin := 0) (zt := 0) (by decide +kernel) (by decide +kernel) (by decide) (by decide +kernel) (by decide) (Or.inl rfl) R_41 f_5 f_39 (fun hq => absurd hq (by decide)) (fx_k (c := 9) R_41 (by decide +kernel)) e_48 (fx_f (j := 4) R_41.2 (fx_k (c := 9) R_41 (by decide +kernel)) (by decide +kernel)) fun S_49 R_50 E_51 => ?_
    have E_53 := Ext.tr E_46 E_51
    refine go_aload_n (n := 1) (by decide +kernel) l1 f1 ?_
    refine go_aload_n (n := 1) (by decide +kernel) l1 f1 ?_
    obtain ⟨g_56, h⟩ := gd_s h
    obtain ⟨x_58, e_59, h⟩ := lx_s h
    refine go_getf (x := 168) (ci := 2) (kf := 4) (fin := 0) (t := 0) (by decide +kernel) (by decide +kernel) (by decide +kernel) R_50 f1 g_56 fun v_54 f_55 => ?_
    have f_57 := q_is_eq f_55 e_59
    refine go_iconst (n := 1) (z := 1) (by decide +kernel) (by decide) fun v_60 f_61 => ?_
    refine go_iadd (by decide +kernel) f_57 f_61 fun v_62 f_63 => ?_
    obtain ⟨x_65, m_66, hc_64, h⟩ := bd_s h
    refine go_callV (x := 171) (mi := 5) (n := 1) (ci := 2) (as := [v_62]) (rest := []) (by decide +kernel) (by decide +kernel) rfl rfl (q_sum8 _ (Nat.le_of_ble_eq_true rfl)) R_50 f1 g_56 (om_X1_goOnAt (Nat.le_trans (by decide) hd) R_50 g_56 f1 f_63 hc_64) (fun _ S_69 q_72 => ?_) (fun _ _ qq => kr_x qq)
    refine kr_v q_72 fun R_70 E_71 => ?_
    have E_75 := Ext.tr E_53 E_71
    refine go_goto (o := 54) (t := 132) (by decide +kernel) (by decide +kernel) ?_
    cases h
    exact go_vret (by decide +kernel) rfl (hQ E_75 _ _ R_70 q_out_n)
  have h := it_f hp_2 h
  by_cases hp_77 : p2 = 15
  · have h := it_t hp_77 h
    refine go_tsin (dflt := 104) (lo := 14) (hi := 17) (offs := #[31, 80, 88, 96]) (o := 80) (t := 81) (by decide +kernel) f2 (by omega) (by omega) (by rw [hp_77]; decide) (by decide +kernel) ?_
    refine go_aload_n (n := 0) (by decide +kernel) l0 f0 ?_
    refine go_aload_n (n := 1) (by decide +kernel) l1 f1 ?_
    obtain ⟨x_79, m_80, hc_78, h⟩ := bd_s h
    refine go_callV (x := 304) (mi := 54) (n := 1) (ci := 5) (as := [v1]) (rest := []) (by decide +kernel) (by decide +kernel) rfl rfl (q_sum8 _ (Nat.le_of_ble_eq_true rfl)) R f0 (fx_k (c := 5) R (by decide +kernel)) (om_X4_undo (Nat.le_trans (by decide) hd) R f0 f1 hc_78) (fun _ S_83 q_86 => ?_) (fun _ _ qq => kr_x qq)
    refine kr_v q_86 fun R_84 E_85 => ?_
    have E_89 := E_85
    refine go_goto (o := 46) (t := 132) (by decide +kernel) (by decide +kernel) ?_
    cases h
    exact go_vret (by decide +kernel) rfl (hQ E_89 _ _ R_84 q_out_n)
  have h := it_f hp_77 h
  by_cases hp_91 : p2 = 16
  · have h := it_t hp_91 h
    refine go_tsin (dflt := 104) (lo := 14) (hi := 17) (offs := #[31, 80, 88, 96]) (o := 88) (t := 89) (by decide +kernel) f2 (by omega) (by omega) (by rw [hp_91]; decide) (by decide +kernel) ?_
    refine go_aload_n (n := 0) (by decide +kernel) l0 f0 ?_
    refine go_aload_n (n := 1) (by decide +kernel) l1 f1 ?_
    obtain ⟨x_93, m_94, hc_92, h⟩ := bd_s h
    refine go_callV (x := 246) (mi := 43) (n := 1) (ci := 5) (as := [v1]) (rest := []) (by decide +kernel) (by decide +kernel) rfl rfl (q_sum8 _ (Nat.le_of_ble_eq_true rfl)) R f0 (fx_k (c := 5) R (by decide +kernel)) (om_X4_endBranch (Nat.le_trans (by decide) hd) R f0 f1 hc_92) (fun _ S_97 q_100 => ?_) (fun _ _ qq => kr_x qq)
    refine kr_v q_100 fun R_98 E_99 => ?_
    have E_103 := E_99
    refine go_goto (o := 38) (t := 132) (by decide +kernel) (by decide +kernel) ?_
    cases h
    exact go_vret (by decide +kernel) rfl (hQ E_103 _ _ R_98 q_out_n)
  have h := it_f hp_91 h
  by_cases hp_105 : p2 = 17
  · have h := it_t hp_105 h
    refine go_tsin (dflt := 104) (lo := 14) (hi := 17) (offs := #[31, 80, 88, 96]) (o := 96) (t := 97) (by decide +kernel) f2 (by omega) (by omega) (by rw [hp_105]; decide) (by decide +kernel) ?_
    refine go_aload_n (n := 0) (by decide +kernel) l0 f0 ?_
    refine go_aload_n (n := 1) (by decide +kernel) l1 f1 ?_
    obtain ⟨x_107, m_108, hc_106, h⟩ := bd_s h
    refine go_callV (x := 177) (mi := 42) (n := 1) (ci := 5) (as := [v1]) (rest := []) (by decide +kernel) (by decide +kernel) rfl rfl (q_sum8 _ (Nat.le_of_ble_eq_true rfl)) R f0 (fx_k (c := 5) R (by decide +kernel)) (om_X4_failBranch (Nat.le_trans (by decide) hd) R f0 f1 hc_106) (fun _ S_111 q_114 => ?_) (fun _ _ qq => kr_x qq)
    refine kr_v q_114 fun R_112 E_113 => ?_
    have E_117 := E_113
    refine go_goto (o := 30) (t := 132) (by decide +kernel) (by decide +kernel) ?_
    cases h
    exact go_vret (by decide +kernel) rfl (hQ E_117 _ _ R_112 q_out_n)
  have h := it_f hp_105 h
  refine go_tsout (dflt := 104) (lo := 14) (hi := 17) (offs := #[31, 80, 88, 96]) (t := 105) (by decide +kernel) f2 (by omega) (by decide +kernel) ?_
  refine go_aload_n (n := 0) (by decide +kernel) l0 f0 ?_
  refine go_bipush (n := 16) (z := 16) (by decide +kernel) (by decide) fun v_118 f_119 => ?_
  refine go_aload_n (n := 0) (by decide +kernel) l0 f0 ?_
  refine go_getf (x := 10) (ci := 5) (kf := 0) (fin := 1) (t := 2) (by decide +kernel) (by decide +kernel) (by decide +kernel) R f0 (fx_k (c := 5) R (by decide +kernel)) fun v_120 f_121 => ?_
  have f_122 := q_is_eq (b := 17) f_121 (fx_v R (by decide +kernel)).symm
  refine go_iload_n (n := 3) (by decide +kernel) l3 f3 ?_
  obtain ⟨x_124, hc_123, h⟩ := bp_s h
  refine go_callV (x := 217) (mi := 81) (n := 1) (ci := 9) (as := [v3]) (rest := [v_118, v0]) (by decide +kernel) (by decide +kernel) rfl rfl (q_sum8 _ (Nat.le_of_ble_eq_true rfl)) R f_122 (fx_k (c := 9) R (by decide +kernel)) (om_X8_value (Nat.le_trans (by decide) hd) R f_122 f3 hc_123) (fun _ S_128 q_131 => ?_) (fun _ _ qq => kr_x qq)
  refine kr_z (by decide) q_131 fun v_126 f_127 R_129 E_130 => ?_
  refine go_iconst (n := 0) (z := 0) (by decide +kernel) (by decide) fun v_132 f_133 => ?_
  obtain ⟨x_135, m_136, hc_134, h⟩ := bd_s h
  refine go_callV (x := 198) (mi := 44) (n := 3) (ci := 5) (as := [v_118, v_126, v_132]) (rest := []) (by decide +kernel) (by decide +kernel) rfl rfl (q_sum8 _ (Nat.le_of_ble_eq_true rfl)) R_129 f0 (fx_k (c := 5) R_129 (by decide +kernel)) (om_X4_command (Nat.le_trans (by decide) hd) R_129 f0 f_119 f_127 f_133 hc_134) (fun _ S_139 q_142 => ?_) (fun _ _ qq => kr_x qq)
  refine kr_z (by decide) q_142 fun v_137 f_138 R_140 E_141 => ?_
  have E_145 := E_141
  refine go_if (c := .lt) (o := 12) (t := 132) (P := x_135 < 0) (by decide +kernel) (by decide +kernel) f_138 (Iff.rfl) (fun hp_146 => ?_) (fun hp_146 => ?_)
  · have h := it_t hp_146 h
    cases h
    exact go_vret (by decide +kernel) rfl (hQ E_145 _ _ R_140 q_out_n)
  · have h := it_f hp_146 h
    refine go_aload_n (n := 0) (by decide +kernel) l0 f0 ?_
    refine go_getf (x := 10) (ci := 5) (kf := 0) (fin := 1) (t := 2) (by decide +kernel) (by decide +kernel) (by decide +kernel) R_140 f0 (fx_k (c := 5) R_140 (by decide +kernel)) fun v_147 f_148 => ?_
    have f_149 := q_is_eq (b := 17) f_148 (fx_v R_140 (by decide +kernel)).symm
    refine go_bipush (n := 16) (z := 16) (by decide +kernel) (by decide) fun v_150 f_151 => ?_
    obtain ⟨m_152, e_153, h⟩ := up_s h
    refine go_putf (x := 120) (ci := 9) (kf := 9) (fin := 0) (zt := 0) (by decide +kernel) (by decide +kernel) (by decide) (by decide +kernel) (by decide) (Or.inl rfl) R_140 f_149 f_151 (fun hq => absurd hq (by decide)) (fx_k (c := 9) R_140 (by decide +kernel)) e_153 (fx_f (j := 9) R_140.2 (fx_k (c := 9) R_140 (by decide +kernel)) (by decide +kernel)) fun S_154 R_155 E_156 => ?_
    have E_158 := Ext.tr E_145 E_156
    cases h
    exact go_vret (by decide +kernel) rfl (hQ E_158 _ _ R_155 q_out_n)
noncomputable def fj_X4_patch_125 (y3 y4 : Int) (m : MM) : Option (Int × MM) := if y3 = 0 then
if y4 = 0 then
some (0, m)
else
some (1, m)
else
some (1, m)
set_option maxHeartbeats 4000000 in
theorem oj_X4_patch_125 {xs : List Int32} {d : Nat} {S : QS} {L : QL} {Q : QO → QS → Prop} {m : MM} {y3 y4 : Int} {v3 : Value} {v4 : Value}  {rz : Int} {rm : MM}
  (hd : 3 ≤ d) (R : Rp S m) (l3 : q_lo L 3 = some v3) (f3 : q_is 0 v3 y3) (l4 : q_lo L 4 = some v4) (f4 : q_is 0 v4 y4)
  (hQ : Ext m rm → ∀ o S1, Rp S1 rm → q_out 0 o rz → Q o S1)
  (h : fj_X4_patch_125 y3 y4 m = some (rz, rm)) : Go xs d qM_X4_patch 125 L [] S Q := by
  unfold fj_X4_patch_125 at h
  refine go_iload_n (n := 3) (by decide +kernel) l3 f3 ?_
  refine go_if (c := .ne) (o := 8) (t := 134) (P := ¬ (y3 = 0)) (by decide +kernel) (by decide +kernel) f3 (Iff.rfl) (fun hp_118 => ?_) (fun hp_118 => ?_)
  · have h := it_f hp_118 h
    refine go_iconst (n := 1) (z := 1) (by decide +kernel) (by decide) fun v_119 f_120 => ?_
    refine go_goto (o := 4) (t := 139) (by decide +kernel) (by decide +kernel) ?_
    cases h
    exact go_iret (by decide +kernel) rfl (Or.inr ⟨rfl, by decide⟩) f_120 (hQ (Ext.rf _) _ _ R (q_out_v (by decide) f_120))
  · have h := it_n hp_118 h
    refine go_iload (n := 4) (by decide +kernel) l4 f4 ?_
    refine go_if (c := .eq) (o := 7) (t := 138) (P := y4 = 0) (by decide +kernel) (by decide +kernel) f4 (Iff.rfl) (fun hp_121 => ?_) (fun hp_121 => ?_)
    · have h := it_t hp_121 h
      refine go_iconst (n := 0) (z := 0) (by decide +kernel) (by decide) fun v_122 f_123 => ?_
      cases h
      exact go_iret (by decide +kernel) rfl (Or.inr ⟨rfl, by decide⟩) f_123 (hQ (Ext.rf _) _ _ R (q_out_v (by decide) f_123))
    · have h := it_f hp_121 h
      refine go_iconst (n := 1) (z := 1) (by decide +kernel) (by decide) fun v_124 f_125 => ?_
      refine go_goto (o := 4) (t := 139) (by decide +kernel) (by decide +kernel) ?_
      cases h
      exact go_iret (by decide +kernel) rfl (Or.inr ⟨rfl, by decide⟩) f_125 (hQ (Ext.rf _) _ _ R (q_out_v (by decide) f_125))
noncomputable def fj_X4_patch_101 (y1 y3 y4 : Int) (m : MM) : Option (Int × MM) := lx (m 17 7) fun x_87 =>
up m 17 7 (iOr x_87 (iShl 1 y1)) fun m_95 =>
bd (fm_X4_command 12 y1 0 m_95) fun x_107 m_108 =>
fj_X4_patch_125 y3 y4 m_108
set_option maxHeartbeats 4000000 in
theorem oj_X4_patch_101 {xs : List Int32} {d : Nat} {S : QS} {L : QL} {Q : QO → QS → Prop} {m : MM} {y1 y3 y4 : Int} {v0 : Value} {v1 : Value} {v3 : Value} {v4 : Value}  {rz : Int} {rm : MM}
  (hd : 3 ≤ d) (R : Rp S m) (l0 : q_lo L 0 = some v0) (f0 : q_is 2 v0 16) (l1 : q_lo L 1 = some v1) (f1 : q_is 0 v1 y1) (l3 : q_lo L 3 = some v3) (f3 : q_is 0 v3 y3) (l4 : q_lo L 4 = some v4) (f4 : q_is 0 v4 y4)
  (hQ : Ext m rm → ∀ o S1, Rp S1 rm → q_out 0 o rz → Q o S1)
  (h : fj_X4_patch_101 y1 y3 y4 m = some (rz, rm)) : Go xs d qM_X4_patch 101 L [] S Q := by
  unfold fj_X4_patch_101 at h
  refine go_aload_n (n := 0) (by decide +kernel) l0 f0 ?_
  refine go_getf (x := 10) (ci := 5) (kf := 0) (fin := 1) (t := 2) (by decide +kernel) (by decide +kernel) (by decide +kernel) R f0 (fx_k (c := 5) R (by decide +kernel)) fun v_81 f_82 => ?_
  have f_83 := q_is_eq (b := 17) f_82 (fx_v R (by decide +kernel)).symm
  refine go_dup (by decide +kernel) f_83 (Or.inr rfl) ?_
  obtain ⟨x_87, e_88, h⟩ := lx_s h
  refine go_getf (x := 317) (ci := 9) (kf := 7) (fin := 0) (t := 0) (by decide +kernel) (by decide +kernel) (by decide +kernel) R f_83 (fx_k (c := 9) R (by decide +kernel)) fun v_84 f_85 => ?_
  have f_86 := q_is_eq f_85 e_88
  refine go_iconst (n := 1) (z := 1) (by decide +kernel) (by decide) fun v_89 f_90 => ?_
  refine go_iload_n (n := 1) (by decide +kernel) l1 f1 ?_
  refine go_ishl (by decide +kernel) f_90 f1 fun v_91 f_92 => ?_
  refine go_ior (by decide +kernel) f_86 f_92 fun v_93 f_94 => ?_
  obtain ⟨m_95, e_96, h⟩ := up_s h
  refine go_putf (x := 317) (ci := 9) (kf := 7) (fin := 0) (zt := 0) (by decide +kernel) (by decide +kernel) (by decide) (by decide +kernel) (by decide) (Or.inl rfl) R f_83 f_94 (fun hq => absurd hq (by decide)) (fx_k (c := 9) R (by decide +kernel)) e_96 (fx_f (j := 7) R.2 (fx_k (c := 9) R (by decide +kernel)) (by decide +kernel)) fun S_97 R_98 E_99 => ?_
  have E_101 := E_99
  refine go_aload_n (n := 0) (by decide +kernel) l0 f0 ?_
  refine go_bipush (n := 12) (z := 12) (by decide +kernel) (by decide) fun v_102 f_103 => ?_
  refine go_iload_n (n := 1) (by decide +kernel) l1 f1 ?_
  refine go_iconst (n := 0) (z := 0) (by decide +kernel) (by decide) fun v_104 f_105 => ?_
  obtain ⟨x_107, m_108, hc_106, h⟩ := bd_s h
  refine go_callV (x := 198) (mi := 44) (n := 3) (ci := 5) (as := [v_102, v1, v_104]) (rest := []) (by decide +kernel) (by decide +kernel) rfl rfl (q_sum8 _ (Nat.le_of_ble_eq_true rfl)) R_98 f0 (fx_k (c := 5) R_98 (by decide +kernel)) (om_X4_command (Nat.le_trans (by decide) hd) R_98 f0 f_103 f1 f_105 hc_106) (fun _ S_111 q_114 => ?_) (fun _ _ qq => kr_x qq)
  refine kr_z (by decide) q_114 fun v_109 f_110 R_112 E_113 => ?_
  have E_117 := Ext.tr E_101 E_113
  refine go_pop (by decide +kernel) f_110 (Or.inl rfl) ?_
  exact oj_X4_patch_125 hd R_112 l3 f3 l4 f4 (fun b => hQ (Ext.tr E_117 b)) h
noncomputable def fj_X4_patch_90 (y1 y3 s0 : Int) (m : MM) : Option (Int × MM) := if y3 = 0 then
if s0 = 0 then
fj_X4_patch_125 y3 s0 m
else
fj_X4_patch_101 y1 y3 s0 m
else
fj_X4_patch_101 y1 y3 s0 m
set_option maxHeartbeats 4000000 in
theorem oj_X4_patch_90 {xs : List Int32} {d : Nat} {S : QS} {L : QL} {Q : QO → QS → Prop} {m : MM} {y1 y3 s0 : Int} {v0 : Value} {v1 : Value} {v3 : Value} {w0 : Value}  {rz : Int} {rm : MM}
  (hd : 3 ≤ d) (R : Rp S m) (l0 : q_lo L 0 = some v0) (f0 : q_is 2 v0 16) (l1 : q_lo L 1 = some v1) (f1 : q_is 0 v1 y1) (l3 : q_lo L 3 = some v3) (f3 : q_is 0 v3 y3) (fs0 : q_is 0 w0 s0)
  (hQ : Ext m rm → ∀ o S1, Rp S1 rm → q_out 0 o rz → Q o S1)
  (h : fj_X4_patch_90 y1 y3 s0 m = some (rz, rm)) : Go xs d qM_X4_patch 90 L [w0] S Q := by
  unfold fj_X4_patch_90 at h
  refine go_istore (n := 4) (by decide +kernel) (by decide +kernel) fs0 fun L_74 l_75 kp_76 => ?_
  have l_77 := kp_76 0 _ l0 (by decide) (Or.inl (by decide))
  have l_78 := kp_76 1 _ l1 (by decide) (Or.inl (by decide))
  have l_79 := kp_76 3 _ l3 (by decide) (Or.inr (q_is_cat f3 (Or.inl rfl)))
  refine go_iload_n (n := 3) (by decide +kernel) l_79 f3 ?_
  refine go_if (c := .ne) (o := 8) (t := 101) (P := ¬ (y3 = 0)) (by decide +kernel) (by decide +kernel) f3 (Iff.rfl) (fun hp_80 => ?_) (fun hp_80 => ?_)
  · have h := it_f hp_80 h
    exact oj_X4_patch_101 hd R l_77 f0 l_78 f1 l_79 f3 l_75 fs0 hQ h
  · have h := it_n hp_80 h
    refine go_iload (n := 4) (by decide +kernel) l_75 fs0 ?_
    refine go_if (c := .eq) (o := 27) (t := 125) (P := s0 = 0) (by decide +kernel) (by decide +kernel) fs0 (Iff.rfl) (fun hp_126 => ?_) (fun hp_126 => ?_)
    · have h := it_t hp_126 h
      exact oj_X4_patch_125 hd R l_79 f3 l_75 fs0 hQ h
    · have h := it_f hp_126 h
      exact oj_X4_patch_101 hd R l_77 f0 l_78 f1 l_79 f3 l_75 fs0 hQ h
noncomputable def fj_X4_patch_59 (y1 y2 s0 : Int) (m : MM) : Option (Int × MM) := bp (fm_X4_seen m) fun x_63 =>
if y2 < x_63 then
fj_X4_patch_90 y1 s0 0 m
else
lx (m 17 10) fun x_133 =>
lx (m 16 2) fun x_138 =>
gd (okc m x_138 3) <| lx (m x_138 4) fun x_144 =>
if x_133 < x_144 then
fj_X4_patch_90 y1 s0 0 m
else
fj_X4_patch_90 y1 s0 1 m
set_option maxHeartbeats 4000000 in
theorem oj_X4_patch_59 {xs : List Int32} {d : Nat} {S : QS} {L : QL} {Q : QO → QS → Prop} {m : MM} {y1 y2 s0 : Int} {v0 : Value} {v1 : Value} {v2 : Value} {w0 : Value}  {rz : Int} {rm : MM}
  (hd : 3 ≤ d) (R : Rp S m) (l0 : q_lo L 0 = some v0) (f0 : q_is 2 v0 16) (l1 : q_lo L 1 = some v1) (f1 : q_is 0 v1 y1) (l2 : q_lo L 2 = some v2) (f2 : q_is 0 v2 y2) (fs0 : q_is 0 w0 s0)
  (hQ : Ext m rm → ∀ o S1, Rp S1 rm → q_out 0 o rz → Q o S1)
  (h : fj_X4_patch_59 y1 y2 s0 m = some (rz, rm)) : Go xs d qM_X4_patch 59 L [w0] S Q := by
  unfold fj_X4_patch_59 at h
  refine go_istore_n (n := 3) (by decide +kernel) (by decide +kernel) fs0 fun L_56 l_57 kp_58 => ?_
  have l_59 := kp_58 0 _ l0 (by decide) (Or.inl (by decide))
  have l_60 := kp_58 1 _ l1 (by decide) (Or.inl (by decide))
  have l_61 := kp_58 2 _ l2 (by decide) (Or.inr (q_is_cat f2 (Or.inl rfl)))
  refine go_iload_n (n := 2) (by decide +kernel) l_61 f2 ?_
  refine go_aload_n (n := 0) (by decide +kernel) l_59 f0 ?_
  obtain ⟨x_63, hc_62, h⟩ := bp_s h
  refine go_callV (x := 220) (mi := 37) (n := 0) (ci := 5) (as := []) (rest := [v2]) (by decide +kernel) (by decide +kernel) rfl rfl (q_sum8 _ (Nat.le_of_ble_eq_true rfl)) R f0 (fx_k (c := 5) R (by decide +kernel)) (om_X4_seen (Nat.le_trans (by decide) hd) R f0 hc_62) (fun _ S_67 q_70 => ?_) (fun _ _ qq => kr_x qq)
  refine kr_z (by decide) q_70 fun v_65 f_66 R_68 E_69 => ?_
  refine go_icmp (c := .lt) (o := 24) (t := 89) (P := y2 < x_63) (by decide +kernel) (by decide +kernel) f2 f_66 (Iff.rfl) (fun hp_71 => ?_) (fun hp_71 => ?_)
  · have h := it_t hp_71 h
    refine go_iconst (n := 0) (z := 0) (by decide +kernel) (by decide) fun v_72 f_73 => ?_
    exact oj_X4_patch_90 hd R_68 l_59 f0 l_60 f1 l_57 fs0 f_73 hQ h
  · have h := it_f hp_71 h
    refine go_aload_n (n := 0) (by decide +kernel) l_59 f0 ?_
    refine go_getf (x := 10) (ci := 5) (kf := 0) (fin := 1) (t := 2) (by decide +kernel) (by decide +kernel) (by decide +kernel) R_68 f0 (fx_k (c := 5) R_68 (by decide +kernel)) fun v_127 f_128 => ?_
    have f_129 := q_is_eq (b := 17) f_128 (fx_v R_68 (by decide +kernel)).symm
    obtain ⟨x_133, e_134, h⟩ := lx_s h
    refine go_getf (x := 66) (ci := 9) (kf := 10) (fin := 0) (t := 0) (by decide +kernel) (by decide +kernel) (by decide +kernel) R_68 f_129 (fx_k (c := 9) R_68 (by decide +kernel)) fun v_130 f_131 => ?_
    have f_132 := q_is_eq f_131 e_134
    refine go_aload_n (n := 0) (by decide +kernel) l_59 f0 ?_
    obtain ⟨x_138, e_139, h⟩ := lx_s h
    refine go_getf (x := 28) (ci := 5) (kf := 2) (fin := 0) (t := 2) (by decide +kernel) (by decide +kernel) (by decide +kernel) R_68 f0 (fx_k (c := 5) R_68 (by decide +kernel)) fun v_135 f_136 => ?_
    have f_137 := q_is_eq f_136 e_139
    obtain ⟨g_142, h⟩ := gd_s h
    obtain ⟨x_144, e_145, h⟩ := lx_s h
    refine go_getf (x := 228) (ci := 3) (kf := 4) (fin := 0) (t := 0) (by decide +kernel) (by decide +kernel) (by decide +kernel) R_68 f_137 g_142 fun v_140 f_141 => ?_
    have f_143 := q_is_eq f_141 e_145
    refine go_icmp (c := .lt) (o := 7) (t := 89) (P := x_133 < x_144) (by decide +kernel) (by decide +kernel) f_132 f_143 (Iff.rfl) (fun hp_146 => ?_) (fun hp_146 => ?_)
    · have h := it_t hp_146 h
      refine go_iconst (n := 0) (z := 0) (by decide +kernel) (by decide) fun v_147 f_148 => ?_
      exact oj_X4_patch_90 hd R_68 l_59 f0 l_60 f1 l_57 fs0 f_148 hQ h
    · have h := it_f hp_146 h
      refine go_iconst (n := 1) (z := 1) (by decide +kernel) (by decide) fun v_149 f_150 => ?_
      refine go_goto (o := 4) (t := 90) (by decide +kernel) (by decide +kernel) ?_
      exact oj_X4_patch_90 hd R_68 l_59 f0 l_60 f1 l_57 fs0 f_150 hQ h
noncomputable def fm_X4_patch (p1 : Int) (m0 : MM) : Option (Int × MM) := lx (m0 17 7) fun x_7 =>
if iAnd (iShr x_7 p1) 1 = 0 then
lx (m0 16 2) fun x_19 =>
lx (m0 17 12) fun x_27 =>
gd (okc m0 x_19 3) <| bp (fm_X2_nextCommand x_19 x_27 m0) fun x_31 =>
bp (fm_X4_seen m0) fun x_45 =>
if x_31 < x_45 then
bp (fm_X2_is x_19 x_31 12 p1 0 m0) fun x_159 =>
if x_159 = 0 then
fj_X4_patch_59 p1 x_31 0 m0
else
fj_X4_patch_59 p1 x_31 1 m0
else
fj_X4_patch_59 p1 x_31 0 m0
else
some (1, m0)
set_option maxHeartbeats 4000000 in
theorem om_X4_patch {xs : List Int32} {d : Nat} {S : QS} {m0 : MM} {p1 : Int} {v0 : Value} {v1 : Value} {rz : Int} {rm : MM}
  (hd : 4 ≤ d) (R : Rp S m0) (f0 : q_is 2 v0 16) (f1 : q_is 0 v1 p1)
  (h : fm_X4_patch p1 m0 = some (rz, rm)) : Mt xs d 56 [v0, v1] S (Cr 0 m0 rm rz) := by
  obtain ⟨d, rfl⟩ : ∃ e, d = e + 1 := ⟨d - 1, by omega⟩
  have hd : 3 ≤ d := Nat.le_of_succ_le_succ hd
  refine Mt.of (M := qM_X4_patch) rfl (by rw [sl_1 (q_is_cat f0 (Or.inr rfl)), sl_1 (q_is_cat f1 (Or.inl rfl)), sl_0]; decide) ?_
  rw [la_1 (q_is_cat f0 (Or.inr rfl)), la_1 (q_is_cat f1 (Or.inl rfl)), la_0]
  obtain ⟨L, hL⟩ : ∃ L : QL, L = [(0, v0), (0 + 1, v1)] := ⟨_, rfl⟩
  rw [← hL]
  have l0 : q_lo L 0 = some v0 := by rw [hL]; rfl
  have l1 : q_lo L 1 = some v1 := by rw [hL]; rfl
  have hQ : Ext m0 rm → ∀ o S1, Rp S1 rm → q_out 0 o rz → (Cr 0 m0 rm rz) o S1 := fun a o S1 b e => ⟨b, a, e⟩
  unfold fm_X4_patch at h
  refine go_aload_n (n := 0) (by decide +kernel) l0 f0 ?_
  refine go_getf (x := 10) (ci := 5) (kf := 0) (fin := 1) (t := 2) (by decide +kernel) (by decide +kernel) (by decide +kernel) R f0 (fx_k (c := 5) R (by decide +kernel)) fun v_1 f_2 => ?_
  have f_3 := q_is_eq (b := 17) f_2 (fx_v R (by decide +kernel)).symm
  obtain ⟨x_7, e_8, h⟩ := lx_s h
  refine go_getf (x := 317) (ci := 9) (kf := 7) (fin := 0) (t := 0) (by decide +kernel) (by decide +kernel) (by decide +kernel) R f_3 (fx_k (c := 9) R (by decide +kernel)) fun v_4 f_5 => ?_
  have f_6 := q_is_eq f_5 e_8
  refine go_iload_n (n := 1) (by decide +kernel) l1 f1 ?_
  refine go_ishr (by decide +kernel) f_6 f1 fun v_9 f_10 => ?_
  refine go_iconst (n := 1) (z := 1) (by decide +kernel) (by decide) fun v_11 f_12 => ?_
  refine go_iand (by decide +kernel) f_10 f_12 fun v_13 f_14 => ?_
  refine go_if (c := .eq) (o := 5) (t := 16) (P := iAnd (iShr x_7 p1) 1 = 0) (by decide +kernel) (by decide +kernel) f_14 (Iff.rfl) (fun hp_15 => ?_) (fun hp_15 => ?_)
  · have h := it_t hp_15 h
    refine go_aload_n (n := 0) (by decide +kernel) l0 f0 ?_
    obtain ⟨x_19, e_20, h⟩ := lx_s h
    refine go_getf (x := 28) (ci := 5) (kf := 2) (fin := 0) (t := 2) (by decide +kernel) (by decide +kernel) (by decide +kernel) R f0 (fx_k (c := 5) R (by decide +kernel)) fun v_16 f_17 => ?_
    have f_18 := q_is_eq f_17 e_20
    refine go_aload_n (n := 0) (by decide +kernel) l0 f0 ?_
    refine go_getf (x := 10) (ci := 5) (kf := 0) (fin := 1) (t := 2) (by decide +kernel) (by decide +kernel) (by decide +kernel) R f0 (fx_k (c := 5) R (by decide +kernel)) fun v_21 f_22 => ?_
    have f_23 := q_is_eq (b := 17) f_22 (fx_v R (by decide +kernel)).symm
    obtain ⟨x_27, e_28, h⟩ := lx_s h
    refine go_getf (x := 114) (ci := 9) (kf := 12) (fin := 0) (t := 0) (by decide +kernel) (by decide +kernel) (by decide +kernel) R f_23 (fx_k (c := 9) R (by decide +kernel)) fun v_24 f_25 => ?_
    have f_26 := q_is_eq f_25 e_28
    obtain ⟨g_29, h⟩ := gd_s h
    obtain ⟨x_31, hc_30, h⟩ := bp_s h
    refine go_callV (x := 123) (mi := 22) (n := 1) (ci := 3) (as := [v_24]) (rest := []) (by decide +kernel) (by decide +kernel) rfl rfl (q_sum8 _ (Nat.le_of_ble_eq_true rfl)) R f_18 g_29 (om_X2_nextCommand (Nat.le_trans (by decide) hd) R g_29 f_18 f_26 hc_30) (fun _ S_35 q_38 => ?_) (fun _ _ qq => kr_x qq)
    refine kr_z (by decide) q_38 fun v_33 f_34 R_36 E_37 => ?_
    refine go_istore_n (n := 2) (by decide +kernel) (by decide +kernel) f_34 fun L_39 l_40 kp_41 => ?_
    have l_42 := kp_41 0 _ l0 (by decide) (Or.inl (by decide))
    have l_43 := kp_41 1 _ l1 (by decide) (Or.inr (q_is_cat f1 (Or.inl rfl)))
    refine go_iload_n (n := 2) (by decide +kernel) l_40 f_34 ?_
    refine go_aload_n (n := 0) (by decide +kernel) l_42 f0 ?_
    obtain ⟨x_45, hc_44, h⟩ := bp_s h
    refine go_callV (x := 220) (mi := 37) (n := 0) (ci := 5) (as := []) (rest := [v_33]) (by decide +kernel) (by decide +kernel) rfl rfl (q_sum8 _ (Nat.le_of_ble_eq_true rfl)) R_36 f0 (fx_k (c := 5) R_36 (by decide +kernel)) (om_X4_seen (Nat.le_trans (by decide) hd) R_36 f0 hc_44) (fun _ S_49 q_52 => ?_) (fun _ _ qq => kr_x qq)
    refine kr_z (by decide) q_52 fun v_47 f_48 R_50 E_51 => ?_
    refine go_icmp (c := .ge) (o := 22) (t := 58) (P := ¬ (x_31 < x_45)) (by decide +kernel) (by decide +kernel) f_34 f_48 (Int.not_lt.symm) (fun hp_53 => ?_) (fun hp_53 => ?_)
    · have h := it_f hp_53 h
      refine go_iconst (n := 0) (z := 0) (by decide +kernel) (by decide) fun v_54 f_55 => ?_
      exact oj_X4_patch_59 hd R_50 l_42 f0 l_43 f1 l_40 f_34 f_55 hQ h
    · have h := it_n hp_53 h
      refine go_aload_n (n := 0) (by decide +kernel) l_42 f0 ?_
      refine go_getf (x := 28) (ci := 5) (kf := 2) (fin := 0) (t := 2) (by decide +kernel) (by decide +kernel) (by decide +kernel) R_50 f0 (fx_k (c := 5) R_50 (by decide +kernel)) fun v_151 f_152 => ?_
      have f_153 := q_is_eq f_152 e_20
      refine go_iload_n (n := 2) (by decide +kernel) l_40 f_34 ?_
      refine go_bipush (n := 12) (z := 12) (by decide +kernel) (by decide) fun v_154 f_155 => ?_
      refine go_iload_n (n := 1) (by decide +kernel) l_43 f1 ?_
      refine go_iconst (n := 0) (z := 0) (by decide +kernel) (by decide) fun v_156 f_157 => ?_
      obtain ⟨x_159, hc_158, h⟩ := bp_s h
      refine go_callV (x := 224) (mi := 20) (n := 4) (ci := 3) (as := [v_33, v_154, v1, v_156]) (rest := []) (by decide +kernel) (by decide +kernel) rfl rfl (q_sum8 _ (Nat.le_of_ble_eq_true rfl)) R_50 f_153 g_29 (om_X2_is (Nat.le_trans (by decide) hd) R_50 g_29 f_153 f_34 f_155 f1 f_157 hc_158) (fun _ S_163 q_166 => ?_) (fun _ _ qq => kr_x qq)
      refine kr_z (by decide) q_166 fun v_161 f_162 R_164 E_165 => ?_
      refine go_if (c := .eq) (o := 7) (t := 58) (P := x_159 = 0) (by decide +kernel) (by decide +kernel) f_162 (Iff.rfl) (fun hp_167 => ?_) (fun hp_167 => ?_)
      · have h := it_t hp_167 h
        refine go_iconst (n := 0) (z := 0) (by decide +kernel) (by decide) fun v_168 f_169 => ?_
        exact oj_X4_patch_59 hd R_164 l_42 f0 l_43 f1 l_40 f_34 f_169 hQ h
      · have h := it_f hp_167 h
        refine go_iconst (n := 1) (z := 1) (by decide +kernel) (by decide) fun v_170 f_171 => ?_
        refine go_goto (o := 4) (t := 59) (by decide +kernel) (by decide +kernel) ?_
        exact oj_X4_patch_59 hd R_164 l_42 f0 l_43 f1 l_40 f_34 f_171 hQ h
  · have h := it_f hp_15 h
    refine go_iconst (n := 1) (z := 1) (by decide +kernel) (by decide) fun v_172 f_173 => ?_
    cases h
    exact go_iret (by decide +kernel) rfl (Or.inr ⟨rfl, by decide⟩) f_173 (hQ (Ext.rf _) _ _ R (q_out_v (by decide) f_173))
noncomputable def fj_X4_doOtherLine_128 (y1 y5 y6 : Int) (m : MM) : Option (Int × MM) := gd (okc m y1 2) <| bd (fm_X1_goOnAt y1 y5 m) fun x_56 m_57 =>
if y6 = 0 then
some (0, m_57)
else
bd (fm_X4_failBranch y1 m_57) fun x_69 m_70 =>
some (0, m_70)
set_option maxHeartbeats 4000000 in
theorem oj_X4_doOtherLine_128 {xs : List Int32} {d : Nat} {S : QS} {L : QL} {Q : QO → QS → Prop} {m : MM} {y1 y5 y6 : Int} {v0 : Value} {v1 : Value} {v5 : Value} {v6 : Value}  {rz : Int} {rm : MM}
  (hd : 4 ≤ d) (R : Rp S m) (l0 : q_lo L 0 = some v0) (f0 : q_is 2 v0 16) (l1 : q_lo L 1 = some v1) (f1 : q_is 2 v1 y1) (l5 : q_lo L 5 = some v5) (f5 : q_is 0 v5 y5) (l6 : q_lo L 6 = some v6) (f6 : q_is 0 v6 y6)
  (hQ : Ext m rm → ∀ o S1, Rp S1 rm → q_out 9 o rz → Q o S1)
  (h : fj_X4_doOtherLine_128 y1 y5 y6 m = some (rz, rm)) : Go xs d qM_X4_doOtherLine 128 L [] S Q := by
  unfold fj_X4_doOtherLine_128 at h
  refine go_aload_n (n := 1) (by decide +kernel) l1 f1 ?_
  refine go_iload (n := 5) (by decide +kernel) l5 f5 ?_
  obtain ⟨g_54, h⟩ := gd_s h
  obtain ⟨x_56, m_57, hc_55, h⟩ := bd_s h
  refine go_callV (x := 171) (mi := 5) (n := 1) (ci := 2) (as := [v5]) (rest := []) (by decide +kernel) (by decide +kernel) rfl rfl (q_sum8 _ (Nat.le_of_ble_eq_true rfl)) R f1 g_54 (om_X1_goOnAt (Nat.le_trans (by decide) hd) R g_54 f1 f5 hc_55) (fun _ S_60 q_63 => ?_) (fun _ _ qq => kr_x qq)
  refine kr_v q_63 fun R_61 E_62 => ?_
  have E_66 := E_62
  refine go_iload (n := 6) (by decide +kernel) l6 f6 ?_
  refine go_if (c := .eq) (o := 8) (t := 144) (P := y6 = 0) (by decide +kernel) (by decide +kernel) f6 (Iff.rfl) (fun hp_67 => ?_) (fun hp_67 => ?_)
  · have h := it_t hp_67 h
    cases h
    exact go_vret (by decide +kernel) rfl (hQ E_66 _ _ R_61 q_out_n)
  · have h := it_f hp_67 h
    refine go_aload_n (n := 0) (by decide +kernel) l0 f0 ?_
    refine go_aload_n (n := 1) (by decide +kernel) l1 f1 ?_
    obtain ⟨x_69, m_70, hc_68, h⟩ := bd_s h
    refine go_callV (x := 177) (mi := 42) (n := 1) (ci := 5) (as := [v1]) (rest := []) (by decide +kernel) (by decide +kernel) rfl rfl (q_sum8 _ (Nat.le_of_ble_eq_true rfl)) R_61 f0 (fx_k (c := 5) R_61 (by decide +kernel)) (om_X4_failBranch (Nat.le_trans (by decide) hd) R_61 f0 f1 hc_68) (fun _ S_73 q_76 => ?_) (fun _ _ qq => kr_x qq)
    refine kr_v q_76 fun R_74 E_75 => ?_
    have E_79 := Ext.tr E_66 E_75
    cases h
    exact go_vret (by decide +kernel) rfl (hQ E_79 _ _ R_74 q_out_n)
noncomputable def fj_X4_doOtherLine_122 (y1 y5 : Int) (m : MM) : Option (Int × MM) := gd (okc m y1 2) <| bd (fm_X1_isBare y1 m) fun x_173 m_174 =>
fj_X4_doOtherLine_128 y1 y5 x_173 m_174
set_option maxHeartbeats 4000000 in
theorem oj_X4_doOtherLine_122 {xs : List Int32} {d : Nat} {S : QS} {L : QL} {Q : QO → QS → Prop} {m : MM} {y1 y5 : Int} {v0 : Value} {v1 : Value} {v5 : Value}  {rz : Int} {rm : MM}
  (hd : 4 ≤ d) (R : Rp S m) (l0 : q_lo L 0 = some v0) (f0 : q_is 2 v0 16) (l1 : q_lo L 1 = some v1) (f1 : q_is 2 v1 y1) (l5 : q_lo L 5 = some v5) (f5 : q_is 0 v5 y5)
  (hQ : Ext m rm → ∀ o S1, Rp S1 rm → q_out 9 o rz → Q o S1)
  (h : fj_X4_doOtherLine_122 y1 y5 m = some (rz, rm)) : Go xs d qM_X4_doOtherLine 122 L [] S Q := by
  unfold fj_X4_doOtherLine_122 at h
  refine go_aload_n (n := 1) (by decide +kernel) l1 f1 ?_
  obtain ⟨g_171, h⟩ := gd_s h
  obtain ⟨x_173, m_174, hc_172, h⟩ := bd_s h
  refine go_callV (x := 314) (mi := 6) (n := 0) (ci := 2) (as := []) (rest := []) (by decide +kernel) (by decide +kernel) rfl rfl (q_sum8 _ (Nat.le_of_ble_eq_true rfl)) R f1 g_171 (om_X1_isBare (Nat.le_trans (by decide) hd) R g_171 f1 hc_172) (fun _ S_177 q_180 => ?_) (fun _ _ qq => kr_x qq)
  refine kr_z (by decide) q_180 fun v_175 f_176 R_178 E_179 => ?_
  have E_183 := E_179
  refine go_istore (n := 6) (by decide +kernel) (by decide +kernel) f_176 fun L_184 l_185 kp_186 => ?_
  have l_187 := kp_186 0 _ l0 (by decide) (Or.inl (by decide))
  have l_188 := kp_186 1 _ l1 (by decide) (Or.inl (by decide))
  have l_189 := kp_186 5 _ l5 (by decide) (Or.inr (q_is_cat f5 (Or.inl rfl)))
  exact oj_X4_doOtherLine_128 hd R_178 l_187 f0 l_188 f1 l_189 f5 l_185 f_176 (fun b => hQ (Ext.tr E_183 b)) h
noncomputable def fm_X4_doOtherLine (p1 p2 p3 p4 : Int) (m0 : MM) : Option (Int × MM) := gd (okc m0 p1 2) <| lx (m0 p1 4) fun x_5 =>
lx (w32 (x_5 + 1)) fun x_11 =>
if p2 = 19 then
bd (fm_X4_patch p3 m0) fun x_36 m_37 =>
if x_36 = 0 then
fj_X4_doOtherLine_128 p1 p4 0 m_37
else
fj_X4_doOtherLine_128 p1 x_11 0 m_37
else if p2 = 20 then
lx (m0 16 2) fun x_94 =>
lx (m0 16 8) fun x_99 =>
gd (okc m0 x_94 3) <| bp (fm_X2_clockOfArrival x_94 x_99 m0) fun x_103 =>
bd (fm_X8_set p3 x_103 m0) fun x_112 m_113 =>
fj_X4_doOtherLine_128 p1 x_11 0 m_113
else if p2 = 21 then
lx (m0 p1 5) fun x_128 =>
up m0 p1 5 (w32 (x_128 + 1)) fun m_134 =>
fj_X4_doOtherLine_128 p1 x_11 0 m_134
else if p2 = 23 then
bp (fm_X8_value p3 m0) fun x_149 =>
bd (fm_X4_command 13 x_149 0 m0) fun x_160 m_161 =>
fj_X4_doOtherLine_128 p1 x_11 0 m_161
else 
fj_X4_doOtherLine_122 p1 x_11 m0
set_option maxHeartbeats 4000000 in
theorem om_X4_doOtherLine {xs : List Int32} {d : Nat} {S : QS} {m0 : MM} {p1 p2 p3 p4 : Int} {v0 : Value} {v1 : Value} {v2 : Value} {v3 : Value} {v4 : Value} {rz : Int} {rm : MM}
  (hd : 5 ≤ d) (R : Rp S m0) (f0 : q_is 2 v0 16) (f1 : q_is 2 v1 p1) (f2 : q_is 0 v2 p2) (f3 : q_is 0 v3 p3) (f4 : q_is 0 v4 p4)
  (h : fm_X4_doOtherLine p1 p2 p3 p4 m0 = some (rz, rm)) : Mt xs d 55 [v0, v1, v2, v3, v4] S (Cr 9 m0 rm rz) := by
  obtain ⟨d, rfl⟩ : ∃ e, d = e + 1 := ⟨d - 1, by omega⟩
  have hd : 4 ≤ d := Nat.le_of_succ_le_succ hd
  refine Mt.of (M := qM_X4_doOtherLine) rfl (by rw [sl_1 (q_is_cat f0 (Or.inr rfl)), sl_1 (q_is_cat f1 (Or.inr rfl)), sl_1 (q_is_cat f2 (Or.inl rfl)), sl_1 (q_is_cat f3 (Or.inl rfl)), sl_1 (q_is_cat f4 (Or.inl rfl)), sl_0]; decide) ?_
  rw [la_1 (q_is_cat f0 (Or.inr rfl)), la_1 (q_is_cat f1 (Or.inr rfl)), la_1 (q_is_cat f2 (Or.inl rfl)), la_1 (q_is_cat f3 (Or.inl rfl)), la_1 (q_is_cat f4 (Or.inl rfl)), la_0]
  obtain ⟨L, hL⟩ : ∃ L : QL, L = [(0, v0), (0 + 1, v1), (0 + 1 + 1, v2), (0 + 1 + 1 + 1, v3), (0 + 1 + 1 + 1 + 1, v4)] := ⟨_, rfl⟩
  rw [← hL]
  have l0 : q_lo L 0 = some v0 := by rw [hL]; rfl
  have l1 : q_lo L 1 = some v1 := by rw [hL]; rfl
  have l2 : q_lo L 2 = some v2 := by rw [hL]; rfl
  have l3 : q_lo L 3 = some v3 := by rw [hL]; rfl
  have l4 : q_lo L 4 = some v4 := by rw [hL]; rfl
  have hQ : Ext m0 rm → ∀ o S1, Rp S1 rm → q_out 9 o rz → (Cr 9 m0 rm rz) o S1 := fun a o S1 b e => ⟨b, a, e⟩
  unfold fm_X4_doOtherLine at h
  refine go_aload_n (n := 1) (by decide +kernel) l1 f1 ?_
  obtain ⟨g_3, h⟩ := gd_s h
  obtain ⟨x_5, e_6, h⟩ := lx_s h
  refine go_getf (x := 168) (ci := 2) (kf := 4) (fin := 0) (t := 0) (by decide +kernel) (by decide +kernel) (by decide +kernel) R f1 g_3 fun v_1 f_2 => ?_
  have f_4 := q_is_eq f_2 e_6
  refine go_iconst (n := 1) (z := 1) (by decide +kernel) (by decide) fun v_7 f_8 => ?_
  refine go_iadd (by decide +kernel) f_4 f_8 fun v_9 f_10 => ?_
  obtain ⟨x_11, e_12, h⟩ := lx_s h
  have f_13 := q_is_eq f_10 e_12
  refine go_istore (n := 5) (by decide +kernel) (by decide +kernel) f_13 fun L_14 l_15 kp_16 => ?_
  have l_17 := kp_16 0 _ l0 (by decide) (Or.inl (by decide))
  have l_18 := kp_16 1 _ l1 (by decide) (Or.inl (by decide))
  have l_19 := kp_16 2 _ l2 (by decide) (Or.inl (by decide))
  have l_20 := kp_16 3 _ l3 (by decide) (Or.inl (by decide))
  have l_21 := kp_16 4 _ l4 (by decide) (Or.inr (q_is_cat f4 (Or.inl rfl)))
  refine go_iconst (n := 0) (z := 0) (by decide +kernel) (by decide) fun v_22 f_23 => ?_
  refine go_istore (n := 6) (by decide +kernel) (by decide +kernel) f_23 fun L_24 l_25 kp_26 => ?_
  have l_27 := kp_26 0 _ l_17 (by decide) (Or.inl (by decide))
  have l_28 := kp_26 1 _ l_18 (by decide) (Or.inl (by decide))
  have l_29 := kp_26 2 _ l_19 (by decide) (Or.inl (by decide))
  have l_30 := kp_26 3 _ l_20 (by decide) (Or.inl (by decide))
  have l_31 := kp_26 4 _ l_21 (by decide) (Or.inl (by decide))
  have l_32 := kp_26 5 _ l_15 (by decide) (Or.inr (q_is_cat f_13 (Or.inl rfl)))
  refine go_iload_n (n := 2) (by decide +kernel) l_29 f2 ?_
  by_cases hp_34 : p2 = 19
  · have h := it_t hp_34 h
    refine go_tsin (dflt := 110) (lo := 19) (hi := 23) (offs := #[36, 56, 78, 110, 91]) (o := 36) (t := 48) (by decide +kernel) f2 (by omega) (by omega) (by rw [hp_34]; decide) (by decide +kernel) ?_
    refine go_aload_n (n := 0) (by decide +kernel) l_27 f0 ?_
    refine go_iload_n (n := 3) (by decide +kernel) l_30 f3 ?_
    obtain ⟨x_36, m_37, hc_35, h⟩ := bd_s h
    refine go_callV (x := 307) (mi := 56) (n := 1) (ci := 5) (as := [v3]) (rest := []) (by decide +kernel) (by decide +kernel) rfl rfl (q_sum8 _ (Nat.le_of_ble_eq_true rfl)) R f0 (fx_k (c := 5) R (by decide +kernel)) (om_X4_patch (Nat.le_trans (by decide) hd) R f0 f3 hc_35) (fun _ S_40 q_43 => ?_) (fun _ _ qq => kr_x qq)
    refine kr_z (by decide) q_43 fun v_38 f_39 R_41 E_42 => ?_
    have E_46 := E_42
    refine go_if (c := .eq) (o := 8) (t := 61) (P := x_36 = 0) (by decide +kernel) (by decide +kernel) f_39 (Iff.rfl) (fun hp_47 => ?_) (fun hp_47 => ?_)
    · have h := it_t hp_47 h
      refine go_iload (n := 4) (by decide +kernel) l_31 f4 ?_
      refine go_istore (n := 5) (by decide +kernel) (by decide +kernel) f4 fun L_48 l_49 kp_50 => ?_
      have l_51 := kp_50 0 _ l_27 (by decide) (Or.inl (by decide))
      have l_52 := kp_50 1 _ l_28 (by decide) (Or.inl (by decide))
      have l_53 := kp_50 6 _ l_25 (by decide) (Or.inl (by decide))
      refine go_goto (o := 63) (t := 128) (by decide +kernel) (by decide +kernel) ?_
      exact oj_X4_doOtherLine_128 hd R_41 l_51 f0 l_52 f1 l_49 f4 l_53 f_23 (fun b => hQ (Ext.tr E_46 b)) h
    · have h := it_f hp_47 h
      refine go_iload (n := 5) (by decide +kernel) l_32 f_13 ?_
      refine go_goto (o := 5) (t := 63) (by decide +kernel) (by decide +kernel) ?_
      refine go_istore (n := 5) (by decide +kernel) (by decide +kernel) f_13 fun L_80 l_81 kp_82 => ?_
      have l_83 := kp_82 0 _ l_27 (by decide) (Or.inl (by decide))
      have l_84 := kp_82 1 _ l_28 (by decide) (Or.inl (by decide))
      have l_85 := kp_82 6 _ l_25 (by decide) (Or.inl (by decide))
      refine go_goto (o := 63) (t := 128) (by decide +kernel) (by decide +kernel) ?_
      exact oj_X4_doOtherLine_128 hd R_41 l_83 f0 l_84 f1 l_81 f_13 l_85 f_23 (fun b => hQ (Ext.tr E_46 b)) h
  have h := it_f hp_34 h
  by_cases hp_87 : p2 = 20
  · have h := it_t hp_87 h
    refine go_tsin (dflt := 110) (lo := 19) (hi := 23) (offs := #[36, 56, 78, 110, 91]) (o := 56) (t := 68) (by decide +kernel) f2 (by omega) (by omega) (by rw [hp_87]; decide) (by decide +kernel) ?_
    refine go_aload_n (n := 0) (by decide +kernel) l_27 f0 ?_
    refine go_getf (x := 10) (ci := 5) (kf := 0) (fin := 1) (t := 2) (by decide +kernel) (by decide +kernel) (by decide +kernel) R f0 (fx_k (c := 5) R (by decide +kernel)) fun v_88 f_89 => ?_
    have f_90 := q_is_eq (b := 17) f_89 (fx_v R (by decide +kernel)).symm
    refine go_iload_n (n := 3) (by decide +kernel) l_30 f3 ?_
    refine go_aload_n (n := 0) (by decide +kernel) l_27 f0 ?_
    obtain ⟨x_94, e_95, h⟩ := lx_s h
    refine go_getf (x := 28) (ci := 5) (kf := 2) (fin := 0) (t := 2) (by decide +kernel) (by decide +kernel) (by decide +kernel) R f0 (fx_k (c := 5) R (by decide +kernel)) fun v_91 f_92 => ?_
    have f_93 := q_is_eq f_92 e_95
    refine go_aload_n (n := 0) (by decide +kernel) l_27 f0 ?_
    obtain ⟨x_99, e_100, h⟩ := lx_s h
    refine go_getf (x := 49) (ci := 5) (kf := 8) (fin := 0) (t := 0) (by decide +kernel) (by decide +kernel) (by decide +kernel) R f0 (fx_k (c := 5) R (by decide +kernel)) fun v_96 f_97 => ?_
    have f_98 := q_is_eq f_97 e_100
    obtain ⟨g_101, h⟩ := gd_s h
    obtain ⟨x_103, hc_102, h⟩ := bp_s h
    refine go_callV (x := 311) (mi := 13) (n := 1) (ci := 3) (as := [v_96]) (rest := [v3, v_88]) (by decide +kernel) (by decide +kernel) rfl rfl (q_sum8 _ (Nat.le_of_ble_eq_true rfl)) R f_93 g_101 (om_X2_clockOfArrival (Nat.le_trans (by decide) hd) R g_101 f_93 f_98 hc_102) (fun _ S_107 q_110 => ?_) (fun _ _ qq => kr_x qq)
    refine kr_z (by decide) q_110 fun v_105 f_106 R_108 E_109 => ?_
    obtain ⟨x_112, m_113, hc_111, h⟩ := bd_s h
    refine go_callV (x := 129) (mi := 82) (n := 2) (ci := 9) (as := [v3, v_105]) (rest := []) (by decide +kernel) (by decide +kernel) rfl rfl (q_sum8 _ (Nat.le_of_ble_eq_true rfl)) R_108 f_90 (fx_k (c := 9) R_108 (by decide +kernel)) (om_X8_set (Nat.le_trans (by decide) hd) R_108 f_90 f3 f_106 hc_111) (fun _ S_116 q_119 => ?_) (fun _ _ qq => kr_x qq)
    refine kr_v q_119 fun R_117 E_118 => ?_
    have E_122 := E_118
    refine go_goto (o := 41) (t := 128) (by decide +kernel) (by decide +kernel) ?_
    exact oj_X4_doOtherLine_128 hd R_117 l_27 f0 l_28 f1 l_32 f_13 l_25 f_23 (fun b => hQ (Ext.tr E_122 b)) h
  have h := it_f hp_87 h
  by_cases hp_124 : p2 = 21
  · have h := it_t hp_124 h
    refine go_tsin (dflt := 110) (lo := 19) (hi := 23) (offs := #[36, 56, 78, 110, 91]) (o := 78) (t := 90) (by decide +kernel) f2 (by omega) (by omega) (by rw [hp_124]; decide) (by decide +kernel) ?_
    refine go_aload_n (n := 1) (by decide +kernel) l_28 f1 ?_
    refine go_dup (by decide +kernel) f1 (Or.inr rfl) ?_
    obtain ⟨x_128, e_129, h⟩ := lx_s h
    refine go_getf (x := 186) (ci := 2) (kf := 5) (fin := 0) (t := 0) (by decide +kernel) (by decide +kernel) (by decide +kernel) R f1 g_3 fun v_125 f_126 => ?_
    have f_127 := q_is_eq f_126 e_129
    refine go_iconst (n := 1) (z := 1) (by decide +kernel) (by decide) fun v_130 f_131 => ?_
    refine go_iadd (by decide +kernel) f_127 f_131 fun v_132 f_133 => ?_
    obtain ⟨m_134, e_135, h⟩ := up_s h
    refine go_putf (x := 186) (ci := 2) (kf := 5) (fin := 0) (zt := 0) (by decide +kernel) (by decide +kernel) (by decide) (by decide +kernel) (by decide) (Or.inl rfl) R f1 f_133 (fun hq => absurd hq (by decide)) g_3 e_135 (fx_f (j := 5) R.2 g_3 (by decide +kernel)) fun S_136 R_137 E_138 => ?_
    have E_140 := E_138
    refine go_goto (o := 28) (t := 128) (by decide +kernel) (by decide +kernel) ?_
    exact oj_X4_doOtherLine_128 hd R_137 l_27 f0 l_28 f1 l_32 f_13 l_25 f_23 (fun b => hQ (Ext.tr E_140 b)) h
  have h := it_f hp_124 h
  by_cases hp_142 : p2 = 23
  · have h := it_t hp_142 h
    refine go_tsin (dflt := 110) (lo := 19) (hi := 23) (offs := #[36, 56, 78, 110, 91]) (o := 91) (t := 103) (by decide +kernel) f2 (by omega) (by omega) (by rw [hp_142]; decide) (by decide +kernel) ?_
    refine go_aload_n (n := 0) (by decide +kernel) l_27 f0 ?_
    refine go_bipush (n := 13) (z := 13) (by decide +kernel) (by decide) fun v_143 f_144 => ?_
    refine go_aload_n (n := 0) (by decide +kernel) l_27 f0 ?_
    refine go_getf (x := 10) (ci := 5) (kf := 0) (fin := 1) (t := 2) (by decide +kernel) (by decide +kernel) (by decide +kernel) R f0 (fx_k (c := 5) R (by decide +kernel)) fun v_145 f_146 => ?_
    have f_147 := q_is_eq (b := 17) f_146 (fx_v R (by decide +kernel)).symm
    refine go_iload_n (n := 3) (by decide +kernel) l_30 f3 ?_
    obtain ⟨x_149, hc_148, h⟩ := bp_s h
    refine go_callV (x := 217) (mi := 81) (n := 1) (ci := 9) (as := [v3]) (rest := [v_143, v0]) (by decide +kernel) (by decide +kernel) rfl rfl (q_sum8 _ (Nat.le_of_ble_eq_true rfl)) R f_147 (fx_k (c := 9) R (by decide +kernel)) (om_X8_value (Nat.le_trans (by decide) hd) R f_147 f3 hc_148) (fun _ S_153 q_156 => ?_) (fun _ _ qq => kr_x qq)
    refine kr_z (by decide) q_156 fun v_151 f_152 R_154 E_155 => ?_
    refine go_iconst (n := 0) (z := 0) (by decide +kernel) (by decide) fun v_157 f_158 => ?_
    obtain ⟨x_160, m_161, hc_159, h⟩ := bd_s h
    refine go_callV (x := 198) (mi := 44) (n := 3) (ci := 5) (as := [v_143, v_151, v_157]) (rest := []) (by decide +kernel) (by decide +kernel) rfl rfl (q_sum8 _ (Nat.le_of_ble_eq_true rfl)) R_154 f0 (fx_k (c := 5) R_154 (by decide +kernel)) (om_X4_command (Nat.le_trans (by decide) hd) R_154 f0 f_144 f_152 f_158 hc_159) (fun _ S_164 q_167 => ?_) (fun _ _ qq => kr_x qq)
    refine kr_z (by decide) q_167 fun v_162 f_163 R_165 E_166 => ?_
    have E_170 := E_166
    refine go_pop (by decide +kernel) f_163 (Or.inl rfl) ?_
    refine go_goto (o := 9) (t := 128) (by decide +kernel) (by decide +kernel) ?_
    exact oj_X4_doOtherLine_128 hd R_165 l_27 f0 l_28 f1 l_32 f_13 l_25 f_23 (fun b => hQ (Ext.tr E_170 b)) h
  have h := it_f hp_142 h
  by_cases hp_190 : p2 = 22
  · refine go_tsin (dflt := 110) (lo := 19) (hi := 23) (offs := #[36, 56, 78, 110, 91]) (o := 110) (t := 122) (by decide +kernel) f2 (by omega) (by omega) (by rw [hp_190]; decide) (by decide +kernel) ?_
    exact oj_X4_doOtherLine_122 hd R l_27 f0 l_28 f1 l_32 f_13 hQ h
  refine go_tsout (dflt := 110) (lo := 19) (hi := 23) (offs := #[36, 56, 78, 110, 91]) (t := 122) (by decide +kernel) f2 (by omega) (by decide +kernel) ?_
  exact oj_X4_doOtherLine_122 hd R l_27 f0 l_28 f1 l_32 f_13 hQ h
end DF8
