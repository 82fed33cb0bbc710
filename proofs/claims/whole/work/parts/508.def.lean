/-! Methods as functions (written by wip/whole/dec.py), 8: X4_doBranchLine, X4_undo, X4_doEndingLine, X4_patch, X4_doOtherLine. -/
section DF8
noncomputable def fj_X4_doBranchLine_115 (y1 : Int) (m : MM) : Option (Int × MM) := gd (okc m y1 2) <| lx (m y1 10) fun x_115 =>
bp (fm_X8_popped x_115 m) fun x_118 =>
up m y1 10 x_118 fun m_126 =>
some (0, m_126)
set_option maxHeartbeats 4000000 in
theorem oj_X4_doBranchLine_115 {xs : List Int32} {d : Nat} {S : QS} {L : QL} {Q : QO → QS → Prop} {m : MM} {y1 : Int} {v0 : Value} {v1 : Value}  {rz : Int} {rm : MM}
  (hd : 4 ≤ d) (R : Rp S m) (l0 : q_lo L 0 = some v0) (f0 : q_is 2 v0 16) (l1 : q_lo L 1 = some v1) (f1 : q_is 2 v1 y1)
  (hQ : Ext m rm → ∀ o S1, Rp S1 rm → q_out 9 o rz → Q o S1)
  (h : fj_X4_doBranchLine_115 y1 m = some (rz, rm)) : Go xs d qM_X4_doBranchLine 115 L [] S Q := by
  unfold fj_X4_doBranchLine_115 at h
  refine go_aload_n (n := 1) (by decide +kernel) l1 f1 ?_
  refine go_aload_n (n := 0) (by decide +kernel) l0 f0 ?_
  refine go_getf (x := 10) (ci := 5) (kf := 0) (fin := 1) (t := 2) (by decide +kernel) (by decide +kernel) (by decide +kernel) R f0 (fx_k (c := 5) R (by decide +kernel)) fun v_108 f_109 => ?_
  have f_110 := q_is_eq (b := 17) f_109 (fx_v R (by decide +kernel)).symm
  refine go_aload_n (n := 1) (by decide +kernel) l1 f1 ?_
  obtain ⟨g_113, h⟩ := gd_s h
  obtain ⟨x_115, e_116, h⟩ := lx_s h
  refine go_getf (x := 202) (ci := 2) (kf := 10) (fin := 0) (t := 0) (by decide +kernel) (by decide +kernel) (by decide +kernel) R f1 g_113 fun v_111 f_112 => ?_
  have f_114 := q_is_eq f_112 e_116
  obtain ⟨x_118, hc_117, h⟩ := bp_s h
  refine go_callV (x := 208) (mi := 80) (n := 1) (ci := 9) (as := [v_111]) (rest := [v1]) (by decide +kernel) (by decide +kernel) rfl rfl (q_sum8 _ (Nat.le_of_ble_eq_true rfl)) R f_110 (fx_k (c := 9) R (by decide +kernel)) (om_X8_popped (Nat.le_trans (by decide) hd) R f_110 f_114 hc_117) (fun _ S_122 q_125 => ?_) (fun _ _ qq => kr_x qq)
  refine kr_z (by decide) q_125 fun v_120 f_121 R_123 E_124 => ?_
  obtain ⟨m_126, e_127, h⟩ := up_s h
  refine go_putf (x := 202) (ci := 2) (kf := 10) (fin := 0) (zt := 0) (by decide +kernel) (by decide +kernel) (by decide) (by decide +kernel) (by decide) (Or.inl rfl) R_123 f1 f_121 (fun hq => absurd hq (by decide)) g_113 e_127 (fx_f (j := 10) R_123.2 g_113 (by decide +kernel)) fun S_128 R_129 E_130 => ?_
  have E_131 := E_130
  cases h
  exact go_vret (by decide +kernel) rfl (hQ E_131 _ _ R_129 q_out_n)
noncomputable def fm_X4_doBranchLine (p1 p2 p3 : Int) (m0 : MM) : Option (Int × MM) := if p2 = 9 then
gd (okc m0 p1 2) <| bd (fm_X1_waitFor p1 4 0 m0) fun x_139 m_140 =>
some (0, m_140)
else
gd (okc m0 p1 2) <| lx (m0 p1 4) fun x_8 =>
bd (fm_X1_goOnAt p1 (w32 (x_8 + 1)) m0) fun x_15 m_16 =>
if p2 = 8 then
bd (fm_X4_beginBelow p1 p3 m_16) fun x_27 m_28 =>
some (0, m_28)
else if p2 = 10 then
bd (fm_X4_beginBelow p1 p3 m_16) fun x_39 m_40 =>
bd (fm_X4_race p1 x_39 m_40) fun x_49 m_50 =>
some (0, m_50)
else if p2 = 11 then
bd (fm_X4_win p1 m_16) fun x_61 m_62 =>
bd (fm_X4_dropDoomed m_62) fun x_71 m_72 =>
some (0, m_72)
else if p2 = 12 then
lx (m_16 p1 10) fun x_89 =>
bd (fm_X8_pushed x_89 p3 m_16) fun x_92 m_93 =>
up m_93 p1 10 x_92 fun m_102 =>
some (0, m_102)
else 
fj_X4_doBranchLine_115 p1 m_16
set_option maxHeartbeats 4000000 in
theorem om_X4_doBranchLine {xs : List Int32} {d : Nat} {S : QS} {m0 : MM} {p1 p2 p3 : Int} {v0 : Value} {v1 : Value} {v2 : Value} {v3 : Value} {rz : Int} {rm : MM}
  (hd : 5 ≤ d) (R : Rp S m0) (f0 : q_is 2 v0 16) (f1 : q_is 2 v1 p1) (f2 : q_is 0 v2 p2) (f3 : q_is 0 v3 p3)
  (h : fm_X4_doBranchLine p1 p2 p3 m0 = some (rz, rm)) : Mt xs d 48 [v0, v1, v2, v3] S (Cr 9 m0 rm rz) := by
  obtain ⟨d, rfl⟩ : ∃ e, d = e + 1 := ⟨d - 1, by omega⟩
  have hd : 4 ≤ d := Nat.le_of_succ_le_succ hd
  refine Mt.of (M := qM_X4_doBranchLine) rfl (by rw [sl_1 (q_is_cat f0 (Or.inr rfl)), sl_1 (q_is_cat f1 (Or.inr rfl)), sl_1 (q_is_cat f2 (Or.inl rfl)), sl_1 (q_is_cat f3 (Or.inl rfl)), sl_0]; decide) ?_
  rw [la_1 (q_is_cat f0 (Or.inr rfl)), la_1 (q_is_cat f1 (Or.inr rfl)), la_1 (q_is_cat f2 (Or.inl rfl)), la_1 (q_is_cat f3 (Or.inl rfl)), la_0]
  obtain ⟨L, hL⟩ : ∃ L : QL, L = [(0, v0), (0 + 1, v1), (0 + 1 + 1, v2), (0 + 1 + 1 + 1, v3)] := ⟨_, rfl⟩
  rw [← hL]
  have l0 : q_lo L 0 = some v0 := by rw [hL]; rfl
  have l1 : q_lo L 1 = some v1 := by rw [hL]; rfl
  have l2 : q_lo L 2 = some v2 := by rw [hL]; rfl
  have l3 : q_lo L 3 = some v3 := by rw [hL]; rfl
  have hQ : Ext m0 rm → ∀ o S1, Rp S1 rm → q_out 9 o rz → (Cr 9 m0 rm rz) o S1 := fun a o S1 b e => ⟨b, a, e⟩
  unfold fm_X4_doBranchLine at h
  refine go_iload_n (n := 2) (by decide +kernel) l2 f2 ?_
  refine go_bipush (n := 9) (z := 9) (by decide +kernel) (by decide) fun v_1 f_2 => ?_
  refine go_icmp (c := .ne) (o := 10) (t := 13) (P := ¬ (p2 = 9)) (by decide +kernel) (by decide +kernel) f2 f_2 (Iff.rfl) (fun hp_3 => ?_) (fun hp_3 => ?_)
  · have h := it_f hp_3 h
    refine go_aload_n (n := 1) (by decide +kernel) l1 f1 ?_
    refine go_aload_n (n := 1) (by decide +kernel) l1 f1 ?_
    obtain ⟨g_6, h⟩ := gd_s h
    obtain ⟨x_8, e_9, h⟩ := lx_s h
    refine go_getf (x := 168) (ci := 2) (kf := 4) (fin := 0) (t := 0) (by decide +kernel) (by decide +kernel) (by decide +kernel) R f1 g_6 fun v_4 f_5 => ?_
    have f_7 := q_is_eq f_5 e_9
    refine go_iconst (n := 1) (z := 1) (by decide +kernel) (by decide) fun v_10 f_11 => ?_
    refine go_iadd (by decide +kernel) f_7 f_11 fun v_12 f_13 => ?_
    obtain ⟨x_15, m_16, hc_14, h⟩ := bd_s h
    refine go_callV (x := 171) (mi := 5) (n := 1) (ci := 2) (as := [v_12]) (rest := []) (by decide +kernel) (by decide +kernel) rfl rfl (q_sum8 _ (Nat.le_of_ble_eq_true rfl)) R f1 g_6 (om_X1_goOnAt (Nat.le_trans (by decide) hd) R g_6 f1 f_13 hc_14) (fun _ S_19 q_22 => ?_) (fun _ _ qq => kr_x qq)
    refine kr_v q_22 fun R_20 E_21 => ?_
    have E_23 := E_21
    refine go_iload_n (n := 2) (by decide +kernel) l2 f2 ?_
    by_cases hp_25 : p2 = 8
    · have h := it_t hp_25 h
      refine go_tsin (dflt := 91) (lo := 8) (hi := 12) (offs := #[36, 91, 46, 60, 72]) (o := 36) (t := 60) (by decide +kernel) f2 (by omega) (by omega) (by rw [hp_25]; decide) (by decide +kernel) ?_
      refine go_aload_n (n := 0) (by decide +kernel) l0 f0 ?_
      refine go_aload_n (n := 1) (by decide +kernel) l1 f1 ?_
      refine go_iload_n (n := 3) (by decide +kernel) l3 f3 ?_
      obtain ⟨x_27, m_28, hc_26, h⟩ := bd_s h
      refine go_callV (x := 269) (mi := 49) (n := 2) (ci := 5) (as := [v1, v3]) (rest := []) (by decide +kernel) (by decide +kernel) rfl rfl (q_sum8 _ (Nat.le_of_ble_eq_true rfl)) R_20 f0 (fx_k (c := 5) R_20 (by decide +kernel)) (om_X4_beginBelow (Nat.le_trans (by decide) hd) R_20 f0 f1 f3 hc_26) (fun _ S_31 q_34 => ?_) (fun _ _ qq => kr_x qq)
      refine kr_z (by decide) q_34 fun v_29 f_30 R_32 E_33 => ?_
      have E_35 := Ext.tr E_23 E_33
      refine go_pop (by decide +kernel) f_30 (Or.inr rfl) ?_
      refine go_goto (o := 63) (t := 130) (by decide +kernel) (by decide +kernel) ?_
      cases h
      exact go_vret (by decide +kernel) rfl (hQ E_35 _ _ R_32 q_out_n)
    have h := it_f hp_25 h
    by_cases hp_37 : p2 = 10
    · have h := it_t hp_37 h
      refine go_tsin (dflt := 91) (lo := 8) (hi := 12) (offs := #[36, 91, 46, 60, 72]) (o := 46) (t := 70) (by decide +kernel) f2 (by omega) (by omega) (by rw [hp_37]; decide) (by decide +kernel) ?_
      refine go_aload_n (n := 0) (by decide +kernel) l0 f0 ?_
      refine go_aload_n (n := 1) (by decide +kernel) l1 f1 ?_
      refine go_aload_n (n := 0) (by decide +kernel) l0 f0 ?_
      refine go_aload_n (n := 1) (by decide +kernel) l1 f1 ?_
      refine go_iload_n (n := 3) (by decide +kernel) l3 f3 ?_
      obtain ⟨x_39, m_40, hc_38, h⟩ := bd_s h
      refine go_callV (x := 269) (mi := 49) (n := 2) (ci := 5) (as := [v1, v3]) (rest := [v1, v0]) (by decide +kernel) (by decide +kernel) rfl rfl (q_sum8 _ (Nat.le_of_ble_eq_true rfl)) R_20 f0 (fx_k (c := 5) R_20 (by decide +kernel)) (om_X4_beginBelow (Nat.le_trans (by decide) hd) R_20 f0 f1 f3 hc_38) (fun _ S_43 q_46 => ?_) (fun _ _ qq => kr_x qq)
      refine kr_z (by decide) q_46 fun v_41 f_42 R_44 E_45 => ?_
      have E_47 := Ext.tr E_23 E_45
      obtain ⟨x_49, m_50, hc_48, h⟩ := bd_s h
      refine go_callV (x := 273) (mi := 50) (n := 2) (ci := 5) (as := [v1, v_41]) (rest := []) (by decide +kernel) (by decide +kernel) rfl rfl (q_sum8 _ (Nat.le_of_ble_eq_true rfl)) R_44 f0 (fx_k (c := 5) R_44 (by decide +kernel)) (om_X4_race (Nat.le_trans (by decide) hd) R_44 f0 f1 f_42 hc_48) (fun _ S_53 q_56 => ?_) (fun _ _ qq => kr_x qq)
      refine kr_v q_56 fun R_54 E_55 => ?_
      have E_57 := Ext.tr E_47 E_55
      refine go_goto (o := 49) (t := 130) (by decide +kernel) (by decide +kernel) ?_
      cases h
      exact go_vret (by decide +kernel) rfl (hQ E_57 _ _ R_54 q_out_n)
    have h := it_f hp_37 h
    by_cases hp_59 : p2 = 11
    · have h := it_t hp_59 h
      refine go_tsin (dflt := 91) (lo := 8) (hi := 12) (offs := #[36, 91, 46, 60, 72]) (o := 60) (t := 84) (by decide +kernel) f2 (by omega) (by omega) (by rw [hp_59]; decide) (by decide +kernel) ?_
      refine go_aload_n (n := 0) (by decide +kernel) l0 f0 ?_
      refine go_aload_n (n := 1) (by decide +kernel) l1 f1 ?_
      obtain ⟨x_61, m_62, hc_60, h⟩ := bd_s h
      refine go_callV (x := 277) (mi := 51) (n := 1) (ci := 5) (as := [v1]) (rest := []) (by decide +kernel) (by decide +kernel) rfl rfl (q_sum8 _ (Nat.le_of_ble_eq_true rfl)) R_20 f0 (fx_k (c := 5) R_20 (by decide +kernel)) (om_X4_win (Nat.le_trans (by decide) hd) R_20 f0 f1 hc_60) (fun _ S_65 q_68 => ?_) (fun _ _ qq => kr_x qq)
      refine kr_v q_68 fun R_66 E_67 => ?_
      have E_69 := Ext.tr E_23 E_67
      refine go_aload_n (n := 0) (by decide +kernel) l0 f0 ?_
      obtain ⟨x_71, m_72, hc_70, h⟩ := bd_s h
      refine go_callV (x := 280) (mi := 52) (n := 0) (ci := 5) (as := []) (rest := []) (by decide +kernel) (by decide +kernel) rfl rfl (q_sum8 _ (Nat.le_of_ble_eq_true rfl)) R_66 f0 (fx_k (c := 5) R_66 (by decide +kernel)) (om_X4_dropDoomed (Nat.le_trans (by decide) hd) R_66 f0 hc_70) (fun _ S_75 q_78 => ?_) (fun _ _ qq => kr_x qq)
      refine kr_v q_78 fun R_76 E_77 => ?_
      have E_79 := Ext.tr E_69 E_77
      refine go_goto (o := 37) (t := 130) (by decide +kernel) (by decide +kernel) ?_
      cases h
      exact go_vret (by decide +kernel) rfl (hQ E_79 _ _ R_76 q_out_n)
    have h := it_f hp_59 h
    by_cases hp_81 : p2 = 12
    · have h := it_t hp_81 h
      refine go_tsin (dflt := 91) (lo := 8) (hi := 12) (offs := #[36, 91, 46, 60, 72]) (o := 72) (t := 96) (by decide +kernel) f2 (by omega) (by omega) (by rw [hp_81]; decide) (by decide +kernel) ?_
      refine go_aload_n (n := 1) (by decide +kernel) l1 f1 ?_
      refine go_aload_n (n := 0) (by decide +kernel) l0 f0 ?_
      refine go_getf (x := 10) (ci := 5) (kf := 0) (fin := 1) (t := 2) (by decide +kernel) (by decide +kernel) (by decide +kernel) R_20 f0 (fx_k (c := 5) R_20 (by decide +kernel)) fun v_82 f_83 => ?_
      have f_84 := q_is_eq (b := 17) f_83 (fx_v R_20 (by decide +kernel)).symm
      refine go_aload_n (n := 1) (by decide +kernel) l1 f1 ?_
      have g_87 := Ext.ok E_21 g_6
      obtain ⟨x_89, e_90, h⟩ := lx_s h
      refine go_getf (x := 202) (ci := 2) (kf := 10) (fin := 0) (t := 0) (by decide +kernel) (by decide +kernel) (by decide +kernel) R_20 f1 g_87 fun v_85 f_86 => ?_
      have f_88 := q_is_eq f_86 e_90
      refine go_iload_n (n := 3) (by decide +kernel) l3 f3 ?_
      obtain ⟨x_92, m_93, hc_91, h⟩ := bd_s h
      refine go_callV (x := 283) (mi := 78) (n := 2) (ci := 9) (as := [v_85, v3]) (rest := [v1]) (by decide +kernel) (by decide +kernel) rfl rfl (q_sum8 _ (Nat.le_of_ble_eq_true rfl)) R_20 f_84 (fx_k (c := 9) R_20 (by decide +kernel)) (om_X8_pushed (Nat.le_trans (by decide) hd) R_20 f_84 f_88 f3 hc_91) (fun _ S_96 q_99 => ?_) (fun _ _ qq => kr_x qq)
      refine kr_z (by decide) q_99 fun v_94 f_95 R_97 E_98 => ?_
      have E_100 := Ext.tr E_23 E_98
      have g_101 := Ext.ok E_98 g_87
      obtain ⟨m_102, e_103, h⟩ := up_s h
      refine go_putf (x := 202) (ci := 2) (kf := 10) (fin := 0) (zt := 0) (by decide +kernel) (by decide +kernel) (by decide) (by decide +kernel) (by decide) (Or.inl rfl) R_97 f1 f_95 (fun hq => absurd hq (by decide)) g_101 e_103 (fx_f (j := 10) R_97.2 g_101 (by decide +kernel)) fun S_104 R_105 E_106 => ?_
      have E_107 := Ext.tr E_100 E_106
      refine go_goto (o := 18) (t := 130) (by decide +kernel) (by decide +kernel) ?_
      cases h
      exact go_vret (by decide +kernel) rfl (hQ E_107 _ _ R_105 q_out_n)
    have h := it_f hp_81 h
    by_cases hp_132 : p2 = 9
    · refine go_tsin (dflt := 91) (lo := 8) (hi := 12) (offs := #[36, 91, 46, 60, 72]) (o := 91) (t := 115) (by decide +kernel) f2 (by omega) (by omega) (by rw [hp_132]; decide) (by decide +kernel) ?_
      exact oj_X4_doBranchLine_115 hd R_20 l0 f0 l1 f1 (fun b => hQ (Ext.tr E_23 b)) h
    refine go_tsout (dflt := 91) (lo := 8) (hi := 12) (offs := #[36, 91, 46, 60, 72]) (t := 115) (by decide +kernel) f2 (by omega) (by decide +kernel) ?_
    exact oj_X4_doBranchLine_115 hd R_20 l0 f0 l1 f1 (fun b => hQ (Ext.tr E_23 b)) h
  · have h := it_n hp_3 h
    refine go_aload_n (n := 1) (by decide +kernel) l1 f1 ?_
    refine go_iconst (n := 4) (z := 4) (by decide +kernel) (by decide) fun v_133 f_134 => ?_
    refine go_iconst (n := 0) (z := 0) (by decide +kernel) (by decide) fun v_135 f_136 => ?_
    obtain ⟨g_137, h⟩ := gd_s h
    obtain ⟨x_139, m_140, hc_138, h⟩ := bd_s h
    refine go_callV (x := 266) (mi := 4) (n := 2) (ci := 2) (as := [v_133, v_135]) (rest := []) (by decide +kernel) (by decide +kernel) rfl rfl (q_sum8 _ (Nat.le_of_ble_eq_true rfl)) R f1 g_137 (om_X1_waitFor (Nat.le_trans (by decide) hd) R g_137 f1 f_134 f_136 hc_138) (fun _ S_143 q_146 => ?_) (fun _ _ qq => kr_x qq)
    refine kr_v q_146 fun R_144 E_145 => ?_
    have E_147 := E_145
    cases h
    exact go_vret (by decide +kernel) rfl (hQ E_147 _ _ R_144 q_out_n)
noncomputable def fm_X4_undo (p1 : Int) (m0 : MM) : Option (Int × MM) := lx (m0 17 4) fun x_7 =>
if x_7 = 0 then
gd (okc m0 p1 2) <| lx (m0 p1 4) fun x_97 =>
bd (fm_X1_goOnAt p1 (w32 (x_97 + 1)) m0) fun x_104 m_105 =>
some (0, m_105)
else
bp (fm_X8_top x_7 m0) fun x_20 =>
bp (fm_X8_popped x_7 m0) fun x_46 =>
up m0 17 4 x_46 fun m_54 =>
bd (fm_X4_command 8 (w32 (Int.tdiv x_20 1000)) (Int.tmod x_20 1000) m_54) fun x_73 m_74 =>
gd (okc m_74 p1 2) <| bd (fm_X1_waitFor p1 2 x_73 m_74) fun x_84 m_85 =>
some (0, m_85)
set_option maxHeartbeats 4000000 in
theorem om_X4_undo {xs : List Int32} {d : Nat} {S : QS} {m0 : MM} {p1 : Int} {v0 : Value} {v1 : Value} {rz : Int} {rm : MM}
  (hd : 4 ≤ d) (R : Rp S m0) (f0 : q_is 2 v0 16) (f1 : q_is 2 v1 p1)
  (h : fm_X4_undo p1 m0 = some (rz, rm)) : Mt xs d 54 [v0, v1] S (Cr 9 m0 rm rz) := by
  obtain ⟨d, rfl⟩ : ∃ e, d = e + 1 := ⟨d - 1, by omega⟩
  have hd : 3 ≤ d := Nat.le_of_succ_le_succ hd
  refine Mt.of (M := qM_X4_undo) rfl (by rw [sl_1 (q_is_cat f0 (Or.inr rfl)), sl_1 (q_is_cat f1 (Or.inr rfl)), sl_0]; decide) ?_
  rw [la_1 (q_is_cat f0 (Or.inr rfl)), la_1 (q_is_cat f1 (Or.inr rfl)), la_0]
  obtain ⟨L, hL⟩ : ∃ L : QL, L = [(0, v0), (0 + 1, v1)] := ⟨_, rfl⟩
  rw [← hL]
  have l0 : q_lo L 0 = some v0 := by rw [hL]; rfl
  have l1 : q_lo L 1 = some v1 := by rw [hL]; rfl
  have hQ : Ext m0 rm → ∀ o S1, Rp S1 rm → q_out 9 o rz → (Cr 9 m0 rm rz) o S1 := fun a o S1 b e => ⟨b, a, e⟩
  unfold fm_X4_undo at h
  refine go_aload_n (n := 0) (by decide +kernel) l0 f0 ?_
  refine go_getf (x := 10) (ci := 5) (kf := 0) (fin := 1) (t := 2) (by decide +kernel) (by decide +kernel) (by decide +kernel) R f0 (fx_k (c := 5) R (by decide +kernel)) fun v_1 f_2 => ?_
  have f_3 := q_is_eq (b := 17) f_2 (fx_v R (by decide +kernel)).symm
  obtain ⟨x_7, e_8, h⟩ := lx_s h
  refine go_getf (x := 301) (ci := 9) (kf := 4) (fin := 0) (t := 0) (by decide +kernel) (by decide +kernel) (by decide +kernel) R f_3 (fx_k (c := 9) R (by decide +kernel)) fun v_4 f_5 => ?_
  have f_6 := q_is_eq f_5 e_8
  refine go_if (c := .ne) (o := 14) (t := 21) (P := ¬ (x_7 = 0)) (by decide +kernel) (by decide +kernel) f_6 (Iff.rfl) (fun hp_9 => ?_) (fun hp_9 => ?_)
  · have h := it_f hp_9 h
    refine go_aload_n (n := 0) (by decide +kernel) l0 f0 ?_
    refine go_getf (x := 10) (ci := 5) (kf := 0) (fin := 1) (t := 2) (by decide +kernel) (by decide +kernel) (by decide +kernel) R f0 (fx_k (c := 5) R (by decide +kernel)) fun v_10 f_11 => ?_
    have f_12 := q_is_eq (b := 17) f_11 (fx_v R (by decide +kernel)).symm
    refine go_aload_n (n := 0) (by decide +kernel) l0 f0 ?_
    refine go_getf (x := 10) (ci := 5) (kf := 0) (fin := 1) (t := 2) (by decide +kernel) (by decide +kernel) (by decide +kernel) R f0 (fx_k (c := 5) R (by decide +kernel)) fun v_13 f_14 => ?_
    have f_15 := q_is_eq (b := 17) f_14 (fx_v R (by decide +kernel)).symm
    refine go_getf (x := 301) (ci := 9) (kf := 4) (fin := 0) (t := 0) (by decide +kernel) (by decide +kernel) (by decide +kernel) R f_15 (fx_k (c := 9) R (by decide +kernel)) fun v_16 f_17 => ?_
    have f_18 := q_is_eq f_17 e_8
    obtain ⟨x_20, hc_19, h⟩ := bp_s h
    refine go_callV (x := 205) (mi := 79) (n := 1) (ci := 9) (as := [v_16]) (rest := []) (by decide +kernel) (by decide +kernel) rfl rfl (q_sum8 _ (Nat.le_of_ble_eq_true rfl)) R f_12 (fx_k (c := 9) R (by decide +kernel)) (om_X8_top (Nat.le_trans (by decide) hd) R f_12 f_18 hc_19) (fun _ S_24 q_27 => ?_) (fun _ _ qq => kr_x qq)
    refine kr_z (by decide) q_27 fun v_22 f_23 R_25 E_26 => ?_
    refine go_istore_n (n := 2) (by decide +kernel) (by decide +kernel) f_23 fun L_28 l_29 kp_30 => ?_
    have l_31 := kp_30 0 _ l0 (by decide) (Or.inl (by decide))
    have l_32 := kp_30 1 _ l1 (by decide) (Or.inr (q_is_cat f1 (Or.inr rfl)))
    refine go_aload_n (n := 0) (by decide +kernel) l_31 f0 ?_
    refine go_getf (x := 10) (ci := 5) (kf := 0) (fin := 1) (t := 2) (by decide +kernel) (by decide +kernel) (by decide +kernel) R_25 f0 (fx_k (c := 5) R_25 (by decide +kernel)) fun v_33 f_34 => ?_
    have f_35 := q_is_eq (b := 17) f_34 (fx_v R_25 (by decide +kernel)).symm
    refine go_aload_n (n := 0) (by decide +kernel) l_31 f0 ?_
    refine go_getf (x := 10) (ci := 5) (kf := 0) (fin := 1) (t := 2) (by decide +kernel) (by decide +kernel) (by decide +kernel) R_25 f0 (fx_k (c := 5) R_25 (by decide +kernel)) fun v_36 f_37 => ?_
    have f_38 := q_is_eq (b := 17) f_37 (fx_v R_25 (by decide +kernel)).symm
    refine go_aload_n (n := 0) (by decide +kernel) l_31 f0 ?_
    refine go_getf (x := 10) (ci := 5) (kf := 0) (fin := 1) (t := 2) (by decide +kernel) (by decide +kernel) (by decide +kernel) R_25 f0 (fx_k (c := 5) R_25 (by decide +kernel)) fun v_39 f_40 => ?_
    have f_41 := q_is_eq (b := 17) f_40 (fx_v R_25 (by decide +kernel)).symm
    refine go_getf (x := 301) (ci := 9) (kf := 4) (fin := 0) (t := 0) (by decide +kernel) (by decide +kernel) (by decide +kernel) R_25 f_41 (fx_k (c := 9) R_25 (by decide +kernel)) fun v_42 f_43 => ?_
    have f_44 := q_is_eq f_43 e_8
    obtain ⟨x_46, hc_45, h⟩ := bp_s h
    refine go_callV (x := 208) (mi := 80) (n := 1) (ci := 9) (as := [v_42]) (rest := [v_33]) (by decide +kernel) (by decide +kernel) rfl rfl (q_sum8 _ (Nat.le_of_ble_eq_true rfl)) R_25 f_38 (fx_k (c := 9) R_25 (by decide +kernel)) (om_X8_popped (Nat.le_trans (by decide) hd) R_25 f_38 f_44 hc_45) (fun _ S_50 q_53 => ?_) (fun _ _ qq => kr_x qq)
    refine kr_z (by decide) q_53 fun v_48 f_49 R_51 E_52 => ?_
    obtain ⟨m_54, e_55, h⟩ := up_s h
    refine go_putf (x := 301) (ci := 9) (kf := 4) (fin := 0) (zt := 0) (by decide +kernel) (by decide +kernel) (by decide) (by decide +kernel) (by decide) (Or.inl rfl) R_51 f_35 f_49 (fun hq => absurd hq (by decide)) (fx_k (c := 9) R_51 (by decide +kernel)) e_55 (fx_f (j := 4) R_51.2 (fx_k (c := 9) R_51 (by decide +kernel)) (by decide +kernel)) fun S_56 R_57 E_58 => ?_
    have E_59 := E_58
    refine go_aload_n (n := 1) (by decide +kernel) l_32 f1 ?_
    refine go_iconst (n := 2) (z := 2) (by decide +kernel) (by decide) fun v_60 f_61 => ?_
    refine go_aload_n (n := 0) (by decide +kernel) l_31 f0 ?_
    refine go_bipush (n := 8) (z := 8) (by decide +kernel) (by decide) fun v_62 f_63 => ?_
    refine go_iload_n (n := 2) (by decide +kernel) l_29 f_23 ?_
    refine go_sipush (n := 1000) (z := 1000) (by decide +kernel) (by decide) fun v_64 f_65 => ?_
    refine go_idiv (by decide +kernel) f_23 f_65 (by decide) fun v_66 f_67 => ?_
    refine go_iload_n (n := 2) (by decide +kernel) l_29 f_23 ?_
    refine go_sipush (n := 1000) (z := 1000) (by decide +kernel) (by decide) fun v_68 f_69 => ?_
    refine go_irem (by decide +kernel) f_23 f_69 (by decide) fun v_70 f_71 => ?_
    obtain ⟨x_73, m_74, hc_72, h⟩ := bd_s h
    refine go_callV (x := 198) (mi := 44) (n := 3) (ci := 5) (as := [v_62, v_66, v_70]) (rest := [v_60, v1]) (by decide +kernel) (by decide +kernel) rfl rfl (q_sum8 _ (Nat.le_of_ble_eq_true rfl)) R_57 f0 (fx_k (c := 5) R_57 (by decide +kernel)) (om_X4_command (Nat.le_trans (by decide) hd) R_57 f0 f_63 f_67 f_71 hc_72) (fun _ S_77 q_80 => ?_) (fun _ _ qq => kr_x qq)
    refine kr_z (by decide) q_80 fun v_75 f_76 R_78 E_79 => ?_
    have E_81 := Ext.tr E_59 E_79
    obtain ⟨g_82, h⟩ := gd_s h
    obtain ⟨x_84, m_85, hc_83, h⟩ := bd_s h
    refine go_callV (x := 266) (mi := 4) (n := 2) (ci := 2) (as := [v_60, v_75]) (rest := []) (by decide +kernel) (by decide +kernel) rfl rfl (q_sum8 _ (Nat.le_of_ble_eq_true rfl)) R_78 f1 g_82 (om_X1_waitFor (Nat.le_trans (by decide) hd) R_78 g_82 f1 f_61 f_76 hc_83) (fun _ S_88 q_91 => ?_) (fun _ _ qq => kr_x qq)
    refine kr_v q_91 fun R_89 E_90 => ?_
    have E_92 := Ext.tr E_81 E_90
    cases h
    exact go_vret (by decide +kernel) rfl (hQ E_92 _ _ R_89 q_out_n)
  · have h := it_n hp_9 h
    refine go_aload_n (n := 1) (by decide +kernel) l1 f1 ?_
    refine go_aload_n (n := 1) (by decide +kernel) l1 f1 ?_
    obtain ⟨g_95, h⟩ := gd_s h
    obtain ⟨x_97, e_98, h⟩ := lx_s h
    refine go_getf (x := 168) (ci := 2) (kf := 4) (fin := 0) (t := 0) (by decide +kernel) (by decide +kernel) (by decide +kernel) R f1 g_95 fun v_93 f_94 => ?_
    have f_96 := q_is_eq f_94 e_98
    refine go_iconst (n := 1) (z := 1) (by decide +kernel) (by decide) fun v_99 f_100 => ?_
    refine go_iadd (by decide +kernel) f_96 f_100 fun v_101 f_102 => ?_
    obtain ⟨x_104, m_105, hc_103, h⟩ := bd_s h
    refine go_callV (x := 171) (mi := 5) (n := 1) (ci := 2) (as := [v_101]) (rest := []) (by decide +kernel) (by decide +kernel) rfl rfl (q_sum8 _ (Nat.le_of_ble_eq_true rfl)) R f1 g_95 (om_X1_goOnAt (Nat.le_trans (by decide) hd) R g_95 f1 f_102 hc_103) (fun _ S_108 q_111 => ?_) (fun _ _ qq => kr_x qq)
    refine kr_v q_111 fun R_109 E_110 => ?_
    have E_112 := E_110
    cases h
    exact go_vret (by decide +kernel) rfl (hQ E_112 _ _ R_109 q_out_n)
noncomputable def fm_X4_doEndingLine (p1 p2 p3 p4 : Int) (m0 : MM) : Option (Int × MM) := if p2 = 14 then
lx (m0 17 4) fun x_15 =>
bp (fm_X8_value p4 m0) fun x_25 =>
bd (fm_X8_pushed x_15 (w32 ((w32 (1000 * p3)) + x_25)) m0) fun x_36 m_37 =>
up m_37 17 4 x_36 fun m_45 =>
gd (okc m_45 p1 2) <| lx (m_45 p1 4) fun x_55 =>
bd (fm_X1_goOnAt p1 (w32 (x_55 + 1)) m_45) fun x_62 m_63 =>
some (0, m_63)
else if p2 = 15 then
bd (fm_X4_undo p1 m0) fun x_74 m_75 =>
some (0, m_75)
else if p2 = 16 then
bd (fm_X4_endBranch p1 m0) fun x_86 m_87 =>
some (0, m_87)
else if p2 = 17 then
bd (fm_X4_failBranch p1 m0) fun x_98 m_99 =>
some (0, m_99)
else 
bp (fm_X8_value p3 m0) fun x_113 =>
bd (fm_X4_command 16 x_113 0 m0) fun x_124 m_125 =>
if x_124 < 0 then
some (0, m_125)
else
up m_125 17 9 16 fun m_139 =>
some (0, m_139)
set_option maxHeartbeats 4000000 in
theorem om_X4_doEndingLine {xs : List Int32} {d : Nat} {S : QS} {m0 : MM} {p1 p2 p3 p4 : Int} {v0 : Value} {v1 : Value} {v2 : Value} {v3 : Value} {v4 : Value} {rz : Int} {rm : MM}
  (hd : 5 ≤ d) (R : Rp S m0) (f0 : q_is 2 v0 16) (f1 : q_is 2 v1 p1) (f2 : q_is 0 v2 p2) (f3 : q_is 0 v3 p3) (f4 : q_is 0 v4 p4)
  (h : fm_X4_doEndingLine p1 p2 p3 p4 m0 = some (rz, rm)) : Mt xs d 53 [v0, v1, v2, v3, v4] S (Cr 9 m0 rm rz) := by
  obtain ⟨d, rfl⟩ : ∃ e, d = e + 1 := ⟨d - 1, by omega⟩
  have hd : 4 ≤ d := Nat.le_of_succ_le_succ hd
  refine Mt.of (M := qM_X4_doEndingLine) rfl (by rw [sl_1 (q_is_cat f0 (Or.inr rfl)), sl_1 (q_is_cat f1 (Or.inr rfl)), sl_1 (q_is_cat f2 (Or.inl rfl)), sl_1 (q_is_cat f3 (Or.inl rfl)), sl_1 (q_is_cat f4 (Or.inl rfl)), sl_0]; decide) ?_
  rw [la_1 (q_is_cat f0 (Or.inr rfl)), la_1 (q_is_cat f1 (Or.inr rfl)), la_1 (q_is_cat f2 (Or.inl rfl)), la_1 (q_is_cat f3 (Or.inl rfl)), la_1 (q_is_cat f4 (Or.inl rfl)), la_0]
  obtain ⟨L, hL⟩ : ∃ L : QL, L = [(0, v0), (0 + 1, v1), (0 + 1 + 1, v2), (0 + 1 + 1 + 1, v3), (0 + 1 + 1 + 1 + 1, v4)] := ⟨_, rfl⟩
  rw [← hL]
  have l0 : q_lo L 0 = some v0 := by rw [hL]; rfl
  have l1 : q_lo L 1 = some v1 := by rw [hL]; rfl
  have l2 : q_lo L 2 = some v2 := by rw [hL]; rfl
  have l3 : q_lo L 3 = some v3 := by rw [hL]; rfl
  have l4 : q_lo L 4 = some v4 := by rw [hL]; rfl
  have hQ : Ext m0 rm → ∀ o S1, Rp S1 rm → q_out 9 o rz → (Cr 9 m0 rm rz) o S1 := fun a o S1 b e => ⟨b, a, e⟩
  unfold fm_X4_doEndingLine at h
  refine go_iload_n (n := 2) (by decide +kernel) l2 f2 ?_
  by_cases hp_2 : p2 = 14
  · have h := it_t hp_2 h
    refine go_tsin (dflt := 104) (lo := 14) (hi := 17) (offs := #[31, 80, 88, 96]) (o := 31) (t := 32) (by decide +kernel) f2 (by omega) (by omega) (by rw [hp_2]; decide) (by decide +kernel) ?_
    refine go_aload_n (n := 0) (by decide +kernel) l0 f0 ?_
    refine go_getf (x := 10) (ci := 5) (kf := 0) (fin := 1) (t := 2) (by decide +kernel) (by decide +kernel) (by decide +kernel) R f0 (fx_k (c := 5) R (by decide +kernel)) fun v_3 f_4 => ?_
    have f_5 := q_is_eq (b := 17) f_4 (fx_v R (by decide +kernel)).symm
    refine go_aload_n (n := 0) (by decide +kernel) l0 f0 ?_
    refine go_getf (x := 10) (ci := 5) (kf := 0) (fin := 1) (t := 2) (by decide +kernel) (by decide +kernel) (by decide +kernel) R f0 (fx_k (c := 5) R (by decide +kernel)) fun v_6 f_7 => ?_
    have f_8 := q_is_eq (b := 17) f_7 (fx_v R (by decide +kernel)).symm
    refine go_aload_n (n := 0) (by decide +kernel) l0 f0 ?_
    refine go_getf (x := 10) (ci := 5) (kf := 0) (fin := 1) (t := 2) (by decide +kernel) (by decide +kernel) (by decide +kernel) R f0 (fx_k (c := 5) R (by decide +kernel)) fun v_9 f_10 => ?_
    have f_11 := q_is_eq (b := 17) f_10 (fx_v R (by decide +kernel)).symm
    obtain ⟨x_15, e_16, h⟩ := lx_s h
    refine go_getf (x := 301) (ci := 9) (kf := 4) (fin := 0) (t := 0) (by decide +kernel) (by decide +kernel) (by decide +kernel) R f_11 (fx_k (c := 9) R (by decide +kernel)) fun v_12 f_13 => ?_
    have f_14 := q_is_eq f_13 e_16
    refine go_sipush (n := 1000) (z := 1000) (by decide +kernel) (by decide) fun v_17 f_18 => ?_
    refine go_iload_n (n := 3) (by decide +kernel) l3 f3 ?_
    refine go_imul (by decide +kernel) f_18 f3 fun v_19 f_20 => ?_
    refine go_aload_n (n := 0) (by decide +kernel) l0 f0 ?_
    refine go_getf (x := 10) (ci := 5) (kf := 0) (fin := 1) (t := 2) (by decide +kernel) (by decide +kernel) (by decide +kernel) R f0 (fx_k (c := 5) R (by decide +kernel)) fun v_21 f_22 => ?_
    have f_23 := q_is_eq (b := 17) f_22 (fx_v R (by decide +kernel)).symm
    refine go_iload (n := 4) (by decide +kernel) l4 f4 ?_
    obtain ⟨x_25, hc_24, h⟩ := bp_s h
    refine go_callV (x := 217) (mi := 81) (n := 1) (ci := 9) (as := [v4]) (rest := [v_19, v_12, v_6, v_3]) (by decide +kernel) (by decide +kernel) rfl rfl (q_sum8 _ (Nat.le_of_ble_eq_true rfl)) R f_23 (fx_k (c := 9) R (by decide +kernel)) (om_X8_value (Nat.le_trans (by decide) hd) R f_23 f4 hc_24) (fun _ S_29 q_32 => ?_) (fun _ _ qq => kr_x qq)
    refine kr_z (by decide) q_32 fun v_27 f_28 R_30 E_31 => ?_
    refine go_iadd (by decide +kernel) f_20 f_28 fun v_33 f_34 => ?_
    obtain ⟨x_36, m_37, hc_35, h⟩ := bd_s h
    refine go_callV (x := 283) (mi := 78) (n := 2) (ci := 9) (as := [v_12, v_33]) (rest := [v_3]) (by decide +kernel) (by decide +kernel) rfl rfl (q_sum8 _ (Nat.le_of_ble_eq_true rfl)) R_30 f_8 (fx_k (c := 9) R_30 (by decide +kernel)) (om_X8_pushed (Nat.le_trans (by decide) hd) R_30 f_8 f_14 f_34 hc_35) (fun _ S_40 q_43 => ?_) (fun _ _ qq => kr_x qq)
    refine kr_z (by decide) q_43 fun v_38 f_39 R_41 E_42 => ?_
    have E_44 := E_42
    obtain ⟨m_45, e_46, h⟩ := up_s h
    refine go_putf (x := 301) (ci := 9) (kf := 4) (fin := 0) (zt := 0) (by decide +kernel) (by decide +kernel) (by decide) (by decide +kernel) (by decide) (Or.inl rfl) R_41 f_5 f_39 (fun hq => absurd hq (by decide)) (fx_k (c := 9) R_41 (by decide +kernel)) e_46 (fx_f (j := 4) R_41.2 (fx_k (c := 9) R_41 (by decide +kernel)) (by decide +kernel)) fun S_47 R_48 E_49 => ?_
    have E_50 := Ext.tr E_44 E_49
    refine go_aload_n (n := 1) (by decide +kernel) l1 f1 ?_
    refine go_aload_n (n := 1) (by decide +kernel) l1 f1 ?_
    obtain ⟨g_53, h⟩ := gd_s h
    obtain ⟨x_55, e_56, h⟩ := lx_s h
    refine go_getf (x := 168) (ci := 2) (kf := 4) (fin := 0) (t := 0) (by decide +kernel) (by decide +kernel) (by decide +kernel) R_48 f1 g_53 fun v_51 f_52 => ?_
    have f_54 := q_is_eq f_52 e_56
    refine go_iconst (n := 1) (z := 1) (by decide +kernel) (by decide) fun v_57 f_58 => ?_
    refine go_iadd (by decide +kernel) f_54 f_58 fun v_59 f_60 => ?_
    obtain ⟨x_62, m_63, hc_61, h⟩ := bd_s h
    refine go_callV (x := 171) (mi := 5) (n := 1) (ci := 2) (as := [v_59]) (rest := []) (by decide +kernel) (by decide +kernel) rfl rfl (q_sum8 _ (Nat.le_of_ble_eq_true rfl)) R_48 f1 g_53 (om_X1_goOnAt (Nat.le_trans (by decide) hd) R_48 g_53 f1 f_60 hc_61) (fun _ S_66 q_69 => ?_) (fun _ _ qq => kr_x qq)
    refine kr_v q_69 fun R_67 E_68 => ?_
    have E_70 := Ext.tr E_50 E_68
    refine go_goto (o := 54) (t := 132) (by decide +kernel) (by decide +kernel) ?_
    cases h
    exact go_vret (by decide +kernel) rfl (hQ E_70 _ _ R_67 q_out_n)
  have h := it_f hp_2 h
  by_cases hp_72 : p2 = 15
  · have h := it_t hp_72 h
    refine go_tsin (dflt := 104) (lo := 14) (hi := 17) (offs := #[31, 80, 88, 96]) (o := 80) (t := 81) (by decide +kernel) f2 (by omega) (by omega) (by rw [hp_72]; decide) (by decide +kernel) ?_
    refine go_aload_n (n := 0) (by decide +kernel) l0 f0 ?_
    refine go_aload_n (n := 1) (by decide +kernel) l1 f1 ?_
    obtain ⟨x_74, m_75, hc_73, h⟩ := bd_s h
    refine go_callV (x := 304) (mi := 54) (n := 1) (ci := 5) (as := [v1]) (rest := []) (by decide +kernel) (by decide +kernel) rfl rfl (q_sum8 _ (Nat.le_of_ble_eq_true rfl)) R f0 (fx_k (c := 5) R (by decide +kernel)) (om_X4_undo (Nat.le_trans (by decide) hd) R f0 f1 hc_73) (fun _ S_78 q_81 => ?_) (fun _ _ qq => kr_x qq)
    refine kr_v q_81 fun R_79 E_80 => ?_
    have E_82 := E_80
    refine go_goto (o := 46) (t := 132) (by decide +kernel) (by decide +kernel) ?_
    cases h
    exact go_vret (by decide +kernel) rfl (hQ E_82 _ _ R_79 q_out_n)
  have h := it_f hp_72 h
  by_cases hp_84 : p2 = 16
  · have h := it_t hp_84 h
    refine go_tsin (dflt := 104) (lo := 14) (hi := 17) (offs := #[31, 80, 88, 96]) (o := 88) (t := 89) (by decide +kernel) f2 (by omega) (by omega) (by rw [hp_84]; decide) (by decide +kernel) ?_
    refine go_aload_n (n := 0) (by decide +kernel) l0 f0 ?_
    refine go_aload_n (n := 1) (by decide +kernel) l1 f1 ?_
    obtain ⟨x_86, m_87, hc_85, h⟩ := bd_s h
    refine go_callV (x := 246) (mi := 43) (n := 1) (ci := 5) (as := [v1]) (rest := []) (by decide +kernel) (by decide +kernel) rfl rfl (q_sum8 _ (Nat.le_of_ble_eq_true rfl)) R f0 (fx_k (c := 5) R (by decide +kernel)) (om_X4_endBranch (Nat.le_trans (by decide) hd) R f0 f1 hc_85) (fun _ S_90 q_93 => ?_) (fun _ _ qq => kr_x qq)
    refine kr_v q_93 fun R_91 E_92 => ?_
    have E_94 := E_92
    refine go_goto (o := 38) (t := 132) (by decide +kernel) (by decide +kernel) ?_
    cases h
    exact go_vret (by decide +kernel) rfl (hQ E_94 _ _ R_91 q_out_n)
  have h := it_f hp_84 h
  by_cases hp_96 : p2 = 17
  · have h := it_t hp_96 h
    refine go_tsin (dflt := 104) (lo := 14) (hi := 17) (offs := #[31, 80, 88, 96]) (o := 96) (t := 97) (by decide +kernel) f2 (by omega) (by omega) (by rw [hp_96]; decide) (by decide +kernel) ?_
    refine go_aload_n (n := 0) (by decide +kernel) l0 f0 ?_
    refine go_aload_n (n := 1) (by decide +kernel) l1 f1 ?_
    obtain ⟨x_98, m_99, hc_97, h⟩ := bd_s h
    refine go_callV (x := 177) (mi := 42) (n := 1) (ci := 5) (as := [v1]) (rest := []) (by decide +kernel) (by decide +kernel) rfl rfl (q_sum8 _ (Nat.le_of_ble_eq_true rfl)) R f0 (fx_k (c := 5) R (by decide +kernel)) (om_X4_failBranch (Nat.le_trans (by decide) hd) R f0 f1 hc_97) (fun _ S_102 q_105 => ?_) (fun _ _ qq => kr_x qq)
    refine kr_v q_105 fun R_103 E_104 => ?_
    have E_106 := E_104
    refine go_goto (o := 30) (t := 132) (by decide +kernel) (by decide +kernel) ?_
    cases h
    exact go_vret (by decide +kernel) rfl (hQ E_106 _ _ R_103 q_out_n)
  have h := it_f hp_96 h
  refine go_tsout (dflt := 104) (lo := 14) (hi := 17) (offs := #[31, 80, 88, 96]) (t := 105) (by decide +kernel) f2 (by omega) (by decide +kernel) ?_
  refine go_aload_n (n := 0) (by decide +kernel) l0 f0 ?_
  refine go_bipush (n := 16) (z := 16) (by decide +kernel) (by decide) fun v_107 f_108 => ?_
  refine go_aload_n (n := 0) (by decide +kernel) l0 f0 ?_
  refine go_getf (x := 10) (ci := 5) (kf := 0) (fin := 1) (t := 2) (by decide +kernel) (by decide +kernel) (by decide +kernel) R f0 (fx_k (c := 5) R (by decide +kernel)) fun v_109 f_110 => ?_
  have f_111 := q_is_eq (b := 17) f_110 (fx_v R (by decide +kernel)).symm
  refine go_iload_n (n := 3) (by decide +kernel) l3 f3 ?_
  obtain ⟨x_113, hc_112, h⟩ := bp_s h
  refine go_callV (x := 217) (mi := 81) (n := 1) (ci := 9) (as := [v3]) (rest := [v_107, v0]) (by decide +kernel) (by decide +kernel) rfl rfl (q_sum8 _ (Nat.le_of_ble_eq_true rfl)) R f_111 (fx_k (c := 9) R (by decide +kernel)) (om_X8_value (Nat.le_trans (by decide) hd) R f_111 f3 hc_112) (fun _ S_117 q_120 => ?_) (fun _ _ qq => kr_x qq)
  refine kr_z (by decide) q_120 fun v_115 f_116 R_118 E_119 => ?_
  refine go_iconst (n := 0) (z := 0) (by decide +kernel) (by decide) fun v_121 f_122 => ?_
  obtain ⟨x_124, m_125, hc_123, h⟩ := bd_s h
  refine go_callV (x := 198) (mi := 44) (n := 3) (ci := 5) (as := [v_107, v_115, v_121]) (rest := []) (by decide +kernel) (by decide +kernel) rfl rfl (q_sum8 _ (Nat.le_of_ble_eq_true rfl)) R_118 f0 (fx_k (c := 5) R_118 (by decide +kernel)) (om_X4_command (Nat.le_trans (by decide) hd) R_118 f0 f_108 f_116 f_122 hc_123) (fun _ S_128 q_131 => ?_) (fun _ _ qq => kr_x qq)
  refine kr_z (by decide) q_131 fun v_126 f_127 R_129 E_130 => ?_
  have E_132 := E_130
  refine go_if (c := .lt) (o := 12) (t := 132) (P := x_124 < 0) (by decide +kernel) (by decide +kernel) f_127 (Iff.rfl) (fun hp_133 => ?_) (fun hp_133 => ?_)
  · have h := it_t hp_133 h
    cases h
    exact go_vret (by decide +kernel) rfl (hQ E_132 _ _ R_129 q_out_n)
  · have h := it_f hp_133 h
    refine go_aload_n (n := 0) (by decide +kernel) l0 f0 ?_
    refine go_getf (x := 10) (ci := 5) (kf := 0) (fin := 1) (t := 2) (by decide +kernel) (by decide +kernel) (by decide +kernel) R_129 f0 (fx_k (c := 5) R_129 (by decide +kernel)) fun v_134 f_135 => ?_
    have f_136 := q_is_eq (b := 17) f_135 (fx_v R_129 (by decide +kernel)).symm
    refine go_bipush (n := 16) (z := 16) (by decide +kernel) (by decide) fun v_137 f_138 => ?_
    obtain ⟨m_139, e_140, h⟩ := up_s h
    refine go_putf (x := 120) (ci := 9) (kf := 9) (fin := 0) (zt := 0) (by decide +kernel) (by decide +kernel) (by decide) (by decide +kernel) (by decide) (Or.inl rfl) R_129 f_136 f_138 (fun hq => absurd hq (by decide)) (fx_k (c := 9) R_129 (by decide +kernel)) e_140 (fx_f (j := 9) R_129.2 (fx_k (c := 9) R_129 (by decide +kernel)) (by decide +kernel)) fun S_141 R_142 E_143 => ?_
    have E_144 := Ext.tr E_132 E_143
    cases h
    exact go_vret (by decide +kernel) rfl (hQ E_144 _ _ R_142 q_out_n)
noncomputable def fj_X4_patch_125 (y3 y4 : Int) (m : MM) : Option (Int × MM) := if y3 = 0 then
if y4 = 0 then
some (0, m)
else
some (1, m)
else
some (1, m)
set_option maxHeartbeats 4000000 in
theorem oj_X4_patch_125 {xs : List Int32} {d : Nat} {S : QS} {L : QL} {Q : QO → QS → Prop} {m : MM} {y3 y4 : Int} {v3 : Value} {v4 : Value}  {rz : Int} {rm : MM}
  (hd : 3 ≤ d) (R : Rp S m) (l3 : q_lo L 3 = some v3) (f3 : q_is 0 v3 y3) (l4 : q_lo L 4 = some v4) (f4 : q_is 0 v4 y4)
  (hQ : Ext m rm → ∀ o S1, Rp S1 rm → q_out 0 o rz → Q o S1)
  (h : fj_X4_patch_125 y3 y4 m = some (rz, rm)) : Go xs d qM_X4_patch 125 L [] S Q := by
  unfold fj_X4_patch_125 at h
  refine go_iload_n (n := 3) (by decide +kernel) l3 f3 ?_
  refine go_if (c := .ne) (o := 8) (t := 134) (P := ¬ (y3 = 0)) (by decide +kernel) (by decide +kernel) f3 (Iff.rfl) (fun hp_115 => ?_) (fun hp_115 => ?_)
  · have h := it_f hp_115 h
    refine go_iconst (n := 1) (z := 1) (by decide +kernel) (by decide) fun v_116 f_117 => ?_
    refine go_goto (o := 4) (t := 139) (by decide +kernel) (by decide +kernel) ?_
    cases h
    exact go_iret (by decide +kernel) rfl (Or.inr ⟨rfl, by decide⟩) f_117 (hQ (Ext.rf _) _ _ R (q_out_v (by decide) f_117))
  · have h := it_n hp_115 h
    refine go_iload (n := 4) (by decide +kernel) l4 f4 ?_
    refine go_if (c := .eq) (o := 7) (t := 138) (P := y4 = 0) (by decide +kernel) (by decide +kernel) f4 (Iff.rfl) (fun hp_118 => ?_) (fun hp_118 => ?_)
    · have h := it_t hp_118 h
      refine go_iconst (n := 0) (z := 0) (by decide +kernel) (by decide) fun v_119 f_120 => ?_
      cases h
      exact go_iret (by decide +kernel) rfl (Or.inr ⟨rfl, by decide⟩) f_120 (hQ (Ext.rf _) _ _ R (q_out_v (by decide) f_120))
    · have h := it_f hp_118 h
      refine go_iconst (n := 1) (z := 1) (by decide +kernel) (by decide) fun v_121 f_122 => ?_
      refine go_goto (o := 4) (t := 139) (by decide +kernel) (by decide +kernel) ?_
      cases h
      exact go_iret (by decide +kernel) rfl (Or.inr ⟨rfl, by decide⟩) f_122 (hQ (Ext.rf _) _ _ R (q_out_v (by decide) f_122))
noncomputable def fj_X4_patch_101 (y1 y3 y4 : Int) (m : MM) : Option (Int × MM) := lx (m 17 7) fun x_87 =>
up m 17 7 (iOr x_87 (iShl 1 y1)) fun m_95 =>
bd (fm_X4_command 12 y1 0 m_95) fun x_106 m_107 =>
fj_X4_patch_125 y3 y4 m_107
set_option maxHeartbeats 4000000 in
theorem oj_X4_patch_101 {xs : List Int32} {d : Nat} {S : QS} {L : QL} {Q : QO → QS → Prop} {m : MM} {y1 y3 y4 : Int} {v0 : Value} {v1 : Value} {v3 : Value} {v4 : Value}  {rz : Int} {rm : MM}
  (hd : 3 ≤ d) (R : Rp S m) (l0 : q_lo L 0 = some v0) (f0 : q_is 2 v0 16) (l1 : q_lo L 1 = some v1) (f1 : q_is 0 v1 y1) (l3 : q_lo L 3 = some v3) (f3 : q_is 0 v3 y3) (l4 : q_lo L 4 = some v4) (f4 : q_is 0 v4 y4)
  (hQ : Ext m rm → ∀ o S1, Rp S1 rm → q_out 0 o rz → Q o S1)
  (h : fj_X4_patch_101 y1 y3 y4 m = some (rz, rm)) : Go xs d qM_X4_patch 101 L [] S Q := by
  unfold fj_X4_patch_101 at h
  refine go_aload_n (n := 0) (by decide +kernel) l0 f0 ?_
  refine go_getf (x := 10) (ci := 5) (kf := 0) (fin := 1) (t := 2) (by decide +kernel) (by decide +kernel) (by decide +kernel) R f0 (fx_k (c := 5) R (by decide +kernel)) fun v_81 f_82 => ?_
  have f_83 := q_is_eq (b := 17) f_82 (fx_v R (by decide +kernel)).symm
  refine go_dup (by decide +kernel) f_83 (Or.inr rfl) ?_
  obtain ⟨x_87, e_88, h⟩ := lx_s h
  refine go_getf (x := 317) (ci := 9) (kf := 7) (fin := 0) (t := 0) (by decide +kernel) (by decide +kernel) (by decide +kernel) R f_83 (fx_k (c := 9) R (by decide +kernel)) fun v_84 f_85 => ?_
  have f_86 := q_is_eq f_85 e_88
  refine go_iconst (n := 1) (z := 1) (by decide +kernel) (by decide) fun v_89 f_90 => ?_
  refine go_iload_n (n := 1) (by decide +kernel) l1 f1 ?_
  refine go_ishl (by decide +kernel) f_90 f1 fun v_91 f_92 => ?_
  refine go_ior (by decide +kernel) f_86 f_92 fun v_93 f_94 => ?_
  obtain ⟨m_95, e_96, h⟩ := up_s h
  refine go_putf (x := 317) (ci := 9) (kf := 7) (fin := 0) (zt := 0) (by decide +kernel) (by decide +kernel) (by decide) (by decide +kernel) (by decide) (Or.inl rfl) R f_83 f_94 (fun hq => absurd hq (by decide)) (fx_k (c := 9) R (by decide +kernel)) e_96 (fx_f (j := 7) R.2 (fx_k (c := 9) R (by decide +kernel)) (by decide +kernel)) fun S_97 R_98 E_99 => ?_
  have E_100 := E_99
  refine go_aload_n (n := 0) (by decide +kernel) l0 f0 ?_
  refine go_bipush (n := 12) (z := 12) (by decide +kernel) (by decide) fun v_101 f_102 => ?_
  refine go_iload_n (n := 1) (by decide +kernel) l1 f1 ?_
  refine go_iconst (n := 0) (z := 0) (by decide +kernel) (by decide) fun v_103 f_104 => ?_
  obtain ⟨x_106, m_107, hc_105, h⟩ := bd_s h
  refine go_callV (x := 198) (mi := 44) (n := 3) (ci := 5) (as := [v_101, v1, v_103]) (rest := []) (by decide +kernel) (by decide +kernel) rfl rfl (q_sum8 _ (Nat.le_of_ble_eq_true rfl)) R_98 f0 (fx_k (c := 5) R_98 (by decide +kernel)) (om_X4_command (Nat.le_trans (by decide) hd) R_98 f0 f_102 f1 f_104 hc_105) (fun _ S_110 q_113 => ?_) (fun _ _ qq => kr_x qq)
  refine kr_z (by decide) q_113 fun v_108 f_109 R_111 E_112 => ?_
  have E_114 := Ext.tr E_100 E_112
  refine go_pop (by decide +kernel) f_109 (Or.inl rfl) ?_
  exact oj_X4_patch_125 hd R_111 l3 f3 l4 f4 (fun b => hQ (Ext.tr E_114 b)) h
noncomputable def fj_X4_patch_90 (y1 y3 s0 : Int) (m : MM) : Option (Int × MM) := if y3 = 0 then
if s0 = 0 then
fj_X4_patch_125 y3 s0 m
else
fj_X4_patch_101 y1 y3 s0 m
else
fj_X4_patch_101 y1 y3 s0 m
set_option maxHeartbeats 4000000 in
theorem oj_X4_patch_90 {xs : List Int32} {d : Nat} {S : QS} {L : QL} {Q : QO → QS → Prop} {m : MM} {y1 y3 s0 : Int} {v0 : Value} {v1 : Value} {v3 : Value} {w0 : Value}  {rz : Int} {rm : MM}
  (hd : 3 ≤ d) (R : Rp S m) (l0 : q_lo L 0 = some v0) (f0 : q_is 2 v0 16) (l1 : q_lo L 1 = some v1) (f1 : q_is 0 v1 y1) (l3 : q_lo L 3 = some v3) (f3 : q_is 0 v3 y3) (fs0 : q_is 0 w0 s0)
  (hQ : Ext m rm → ∀ o S1, Rp S1 rm → q_out 0 o rz → Q o S1)
  (h : fj_X4_patch_90 y1 y3 s0 m = some (rz, rm)) : Go xs d qM_X4_patch 90 L [w0] S Q := by
  unfold fj_X4_patch_90 at h
  refine go_istore (n := 4) (by decide +kernel) (by decide +kernel) fs0 fun L_74 l_75 kp_76 => ?_
  have l_77 := kp_76 0 _ l0 (by decide) (Or.inl (by decide))
  have l_78 := kp_76 1 _ l1 (by decide) (Or.inl (by decide))
  have l_79 := kp_76 3 _ l3 (by decide) (Or.inr (q_is_cat f3 (Or.inl rfl)))
  refine go_iload_n (n := 3) (by decide +kernel) l_79 f3 ?_
  refine go_if (c := .ne) (o := 8) (t := 101) (P := ¬ (y3 = 0)) (by decide +kernel) (by decide +kernel) f3 (Iff.rfl) (fun hp_80 => ?_) (fun hp_80 => ?_)
  · have h := it_f hp_80 h
    exact oj_X4_patch_101 hd R l_77 f0 l_78 f1 l_79 f3 l_75 fs0 hQ h
  · have h := it_n hp_80 h
    refine go_iload (n := 4) (by decide +kernel) l_75 fs0 ?_
    refine go_if (c := .eq) (o := 27) (t := 125) (P := s0 = 0) (by decide +kernel) (by decide +kernel) fs0 (Iff.rfl) (fun hp_123 => ?_) (fun hp_123 => ?_)
    · have h := it_t hp_123 h
      exact oj_X4_patch_125 hd R l_79 f3 l_75 fs0 hQ h
    · have h := it_f hp_123 h
      exact oj_X4_patch_101 hd R l_77 f0 l_78 f1 l_79 f3 l_75 fs0 hQ h
noncomputable def fj_X4_patch_59 (y1 y2 s0 : Int) (m : MM) : Option (Int × MM) := bp (fm_X4_seen m) fun x_63 =>
if y2 < x_63 then
fj_X4_patch_90 y1 s0 0 m
else
lx (m 17 10) fun x_130 =>
lx (m 16 2) fun x_135 =>
gd (okc m x_135 3) <| lx (m x_135 4) fun x_141 =>
if x_130 < x_141 then
fj_X4_patch_90 y1 s0 0 m
else
fj_X4_patch_90 y1 s0 1 m
set_option maxHeartbeats 4000000 in
theorem oj_X4_patch_59 {xs : List Int32} {d : Nat} {S : QS} {L : QL} {Q : QO → QS → Prop} {m : MM} {y1 y2 s0 : Int} {v0 : Value} {v1 : Value} {v2 : Value} {w0 : Value}  {rz : Int} {rm : MM}
  (hd : 3 ≤ d) (R : Rp S m) (l0 : q_lo L 0 = some v0) (f0 : q_is 2 v0 16) (l1 : q_lo L 1 = some v1) (f1 : q_is 0 v1 y1) (l2 : q_lo L 2 = some v2) (f2 : q_is 0 v2 y2) (fs0 : q_is 0 w0 s0)
  (hQ : Ext m rm → ∀ o S1, Rp S1 rm → q_out 0 o rz → Q o S1)
  (h : fj_X4_patch_59 y1 y2 s0 m = some (rz, rm)) : Go xs d qM_X4_patch 59 L [w0] S Q := by
  unfold fj_X4_patch_59 at h
  refine go_istore_n (n := 3) (by decide +kernel) (by decide +kernel) fs0 fun L_56 l_57 kp_58 => ?_
  have l_59 := kp_58 0 _ l0 (by decide) (Or.inl (by decide))
  have l_60 := kp_58 1 _ l1 (by decide) (Or.inl (by decide))
  have l_61 := kp_58 2 _ l2 (by decide) (Or.inr (q_is_cat f2 (Or.inl rfl)))
  refine go_iload_n (n := 2) (by decide +kernel) l_61 f2 ?_
  refine go_aload_n (n := 0) (by decide +kernel) l_59 f0 ?_
  obtain ⟨x_63, hc_62, h⟩ := bp_s h
  refine go_callV (x := 220) (mi := 37) (n := 0) (ci := 5) (as := []) (rest := [v2]) (by decide +kernel) (by decide +kernel) rfl rfl (q_sum8 _ (Nat.le_of_ble_eq_true rfl)) R f0 (fx_k (c := 5) R (by decide +kernel)) (om_X4_seen (Nat.le_trans (by decide) hd) R f0 hc_62) (fun _ S_67 q_70 => ?_) (fun _ _ qq => kr_x qq)
  refine kr_z (by decide) q_70 fun v_65 f_66 R_68 E_69 => ?_
  refine go_icmp (c := .lt) (o := 24) (t := 89) (P := y2 < x_63) (by decide +kernel) (by decide +kernel) f2 f_66 (Iff.rfl) (fun hp_71 => ?_) (fun hp_71 => ?_)
  · have h := it_t hp_71 h
    refine go_iconst (n := 0) (z := 0) (by decide +kernel) (by decide) fun v_72 f_73 => ?_
    exact oj_X4_patch_90 hd R_68 l_59 f0 l_60 f1 l_57 fs0 f_73 hQ h
  · have h := it_f hp_71 h
    refine go_aload_n (n := 0) (by decide +kernel) l_59 f0 ?_
    refine go_getf (x := 10) (ci := 5) (kf := 0) (fin := 1) (t := 2) (by decide +kernel) (by decide +kernel) (by decide +kernel) R_68 f0 (fx_k (c := 5) R_68 (by decide +kernel)) fun v_124 f_125 => ?_
    have f_126 := q_is_eq (b := 17) f_125 (fx_v R_68 (by decide +kernel)).symm
    obtain ⟨x_130, e_131, h⟩ := lx_s h
    refine go_getf (x := 66) (ci := 9) (kf := 10) (fin := 0) (t := 0) (by decide +kernel) (by decide +kernel) (by decide +kernel) R_68 f_126 (fx_k (c := 9) R_68 (by decide +kernel)) fun v_127 f_128 => ?_
    have f_129 := q_is_eq f_128 e_131
    refine go_aload_n (n := 0) (by decide +kernel) l_59 f0 ?_
    obtain ⟨x_135, e_136, h⟩ := lx_s h
    refine go_getf (x := 28) (ci := 5) (kf := 2) (fin := 0) (t := 2) (by decide +kernel) (by decide +kernel) (by decide +kernel) R_68 f0 (fx_k (c := 5) R_68 (by decide +kernel)) fun v_132 f_133 => ?_
    have f_134 := q_is_eq f_133 e_136
    obtain ⟨g_139, h⟩ := gd_s h
    obtain ⟨x_141, e_142, h⟩ := lx_s h
    refine go_getf (x := 228) (ci := 3) (kf := 4) (fin := 0) (t := 0) (by decide +kernel) (by decide +kernel) (by decide +kernel) R_68 f_134 g_139 fun v_137 f_138 => ?_
    have f_140 := q_is_eq f_138 e_142
    refine go_icmp (c := .lt) (o := 7) (t := 89) (P := x_130 < x_141) (by decide +kernel) (by decide +kernel) f_129 f_140 (Iff.rfl) (fun hp_143 => ?_) (fun hp_143 => ?_)
    · have h := it_t hp_143 h
      refine go_iconst (n := 0) (z := 0) (by decide +kernel) (by decide) fun v_144 f_145 => ?_
      exact oj_X4_patch_90 hd R_68 l_59 f0 l_60 f1 l_57 fs0 f_145 hQ h
    · have h := it_f hp_143 h
      refine go_iconst (n := 1) (z := 1) (by decide +kernel) (by decide) fun v_146 f_147 => ?_
      refine go_goto (o := 4) (t := 90) (by decide +kernel) (by decide +kernel) ?_
      exact oj_X4_patch_90 hd R_68 l_59 f0 l_60 f1 l_57 fs0 f_147 hQ h
noncomputable def fm_X4_patch (p1 : Int) (m0 : MM) : Option (Int × MM) := lx (m0 17 7) fun x_7 =>
if iAnd (iShr x_7 p1) 1 = 0 then
lx (m0 16 2) fun x_19 =>
lx (m0 17 12) fun x_27 =>
gd (okc m0 x_19 3) <| bp (fm_X2_nextCommand x_19 x_27 m0) fun x_31 =>
bp (fm_X4_seen m0) fun x_45 =>
if x_31 < x_45 then
bp (fm_X2_is x_19 x_31 12 p1 0 m0) fun x_156 =>
if x_156 = 0 then
fj_X4_patch_59 p1 x_31 0 m0
else
fj_X4_patch_59 p1 x_31 1 m0
else
fj_X4_patch_59 p1 x_31 0 m0
else
some (1, m0)
set_option maxHeartbeats 4000000 in
theorem om_X4_patch {xs : List Int32} {d : Nat} {S : QS} {m0 : MM} {p1 : Int} {v0 : Value} {v1 : Value} {rz : Int} {rm : MM}
  (hd : 4 ≤ d) (R : Rp S m0) (f0 : q_is 2 v0 16) (f1 : q_is 0 v1 p1)
  (h : fm_X4_patch p1 m0 = some (rz, rm)) : Mt xs d 56 [v0, v1] S (Cr 0 m0 rm rz) := by
  obtain ⟨d, rfl⟩ : ∃ e, d = e + 1 := ⟨d - 1, by omega⟩
  have hd : 3 ≤ d := Nat.le_of_succ_le_succ hd
  refine Mt.of (M := qM_X4_patch) rfl (by rw [sl_1 (q_is_cat f0 (Or.inr rfl)), sl_1 (q_is_cat f1 (Or.inl rfl)), sl_0]; decide) ?_
  rw [la_1 (q_is_cat f0 (Or.inr rfl)), la_1 (q_is_cat f1 (Or.inl rfl)), la_0]
  obtain ⟨L, hL⟩ : ∃ L : QL, L = [(0, v0), (0 + 1, v1)] := ⟨_, rfl⟩
  rw [← hL]
  have l0 : q_lo L 0 = some v0 := by rw [hL]; rfl
  have l1 : q_lo L 1 = some v1 := by rw [hL]; rfl
  have hQ : Ext m0 rm → ∀ o S1, Rp S1 rm → q_out 0 o rz → (Cr 0 m0 rm rz) o S1 := fun a o S1 b e => ⟨b, a, e⟩
  unfold fm_X4_patch at h
  refine go_aload_n (n := 0) (by decide +kernel) l0 f0 ?_
  refine go_getf (x := 10) (ci := 5) (kf := 0) (fin := 1) (t := 2) (by decide +kernel) (by decide +kernel) (by decide +kernel) R f0 (fx_k (c := 5) R (by decide +kernel)) fun v_1 f_2 => ?_
  have f_3 := q_is_eq (b := 17) f_2 (fx_v R (by decide +kernel)).symm
  obtain ⟨x_7, e_8, h⟩ := lx_s h
  refine go_getf (x := 317) (ci := 9) (kf := 7) (fin := 0) (t := 0) (by decide +kernel) (by decide +kernel) (by decide +kernel) R f_3 (fx_k (c := 9) R (by decide +kernel)) fun v_4 f_5 => ?_
  have f_6 := q_is_eq f_5 e_8
  refine go_iload_n (n := 1) (by decide +kernel) l1 f1 ?_
  refine go_ishr (by decide +kernel) f_6 f1 fun v_9 f_10 => ?_
  refine go_iconst (n := 1) (z := 1) (by decide +kernel) (by decide) fun v_11 f_12 => ?_
  refine go_iand (by decide +kernel) f_10 f_12 fun v_13 f_14 => ?_
  refine go_if (c := .eq) (o := 5) (t := 16) (P := iAnd (iShr x_7 p1) 1 = 0) (by decide +kernel) (by decide +kernel) f_14 (Iff.rfl) (fun hp_15 => ?_) (fun hp_15 => ?_)
  · have h := it_t hp_15 h
    refine go_aload_n (n := 0) (by decide +kernel) l0 f0 ?_
    obtain ⟨x_19, e_20, h⟩ := lx_s h
    refine go_getf (x := 28) (ci := 5) (kf := 2) (fin := 0) (t := 2) (by decide +kernel) (by decide +kernel) (by decide +kernel) R f0 (fx_k (c := 5) R (by decide +kernel)) fun v_16 f_17 => ?_
    have f_18 := q_is_eq f_17 e_20
    refine go_aload_n (n := 0) (by decide +kernel) l0 f0 ?_
    refine go_getf (x := 10) (ci := 5) (kf := 0) (fin := 1) (t := 2) (by decide +kernel) (by decide +kernel) (by decide +kernel) R f0 (fx_k (c := 5) R (by decide +kernel)) fun v_21 f_22 => ?_
    have f_23 := q_is_eq (b := 17) f_22 (fx_v R (by decide +kernel)).symm
    obtain ⟨x_27, e_28, h⟩ := lx_s h
    refine go_getf (x := 114) (ci := 9) (kf := 12) (fin := 0) (t := 0) (by decide +kernel) (by decide +kernel) (by decide +kernel) R f_23 (fx_k (c := 9) R (by decide +kernel)) fun v_24 f_25 => ?_
    have f_26 := q_is_eq f_25 e_28
    obtain ⟨g_29, h⟩ := gd_s h
    obtain ⟨x_31, hc_30, h⟩ := bp_s h
    refine go_callV (x := 123) (mi := 22) (n := 1) (ci := 3) (as := [v_24]) (rest := []) (by decide +kernel) (by decide +kernel) rfl rfl (q_sum8 _ (Nat.le_of_ble_eq_true rfl)) R f_18 g_29 (om_X2_nextCommand (Nat.le_trans (by decide) hd) R g_29 f_18 f_26 hc_30) (fun _ S_35 q_38 => ?_) (fun _ _ qq => kr_x qq)
    refine kr_z (by decide) q_38 fun v_33 f_34 R_36 E_37 => ?_
    refine go_istore_n (n := 2) (by decide +kernel) (by decide +kernel) f_34 fun L_39 l_40 kp_41 => ?_
    have l_42 := kp_41 0 _ l0 (by decide) (Or.inl (by decide))
    have l_43 := kp_41 1 _ l1 (by decide) (Or.inr (q_is_cat f1 (Or.inl rfl)))
    refine go_iload_n (n := 2) (by decide +kernel) l_40 f_34 ?_
    refine go_aload_n (n := 0) (by decide +kernel) l_42 f0 ?_
    obtain ⟨x_45, hc_44, h⟩ := bp_s h
    refine go_callV (x := 220) (mi := 37) (n := 0) (ci := 5) (as := []) (rest := [v_33]) (by decide +kernel) (by decide +kernel) rfl rfl (q_sum8 _ (Nat.le_of_ble_eq_true rfl)) R_36 f0 (fx_k (c := 5) R_36 (by decide +kernel)) (om_X4_seen (Nat.le_trans (by decide) hd) R_36 f0 hc_44) (fun _ S_49 q_52 => ?_) (fun _ _ qq => kr_x qq)
    refine kr_z (by decide) q_52 fun v_47 f_48 R_50 E_51 => ?_
    refine go_icmp (c := .ge) (o := 22) (t := 58) (P := ¬ (x_31 < x_45)) (by decide +kernel) (by decide +kernel) f_34 f_48 (Int.not_lt.symm) (fun hp_53 => ?_) (fun hp_53 => ?_)
    · have h := it_f hp_53 h
      refine go_iconst (n := 0) (z := 0) (by decide +kernel) (by decide) fun v_54 f_55 => ?_
      exact oj_X4_patch_59 hd R_50 l_42 f0 l_43 f1 l_40 f_34 f_55 hQ h
    · have h := it_n hp_53 h
      refine go_aload_n (n := 0) (by decide +kernel) l_42 f0 ?_
      refine go_getf (x := 28) (ci := 5) (kf := 2) (fin := 0) (t := 2) (by decide +kernel) (by decide +kernel) (by decide +kernel) R_50 f0 (fx_k (c := 5) R_50 (by decide +kernel)) fun v_148 f_149 => ?_
      have f_150 := q_is_eq f_149 e_20
      refine go_iload_n (n := 2) (by decide +kernel) l_40 f_34 ?_
      refine go_bipush (n := 12) (z := 12) (by decide +kernel) (by decide) fun v_151 f_152 => ?_
      refine go_iload_n (n := 1) (by decide +kernel) l_43 f1 ?_
      refine go_iconst (n := 0) (z := 0) (by decide +kernel) (by decide) fun v_153 f_154 => ?_
      obtain ⟨x_156, hc_155, h⟩ := bp_s h
      refine go_callV (x := 224) (mi := 20) (n := 4) (ci := 3) (as := [v_33, v_151, v1, v_153]) (rest := []) (by decide +kernel) (by decide +kernel) rfl rfl (q_sum8 _ (Nat.le_of_ble_eq_true rfl)) R_50 f_150 g_29 (om_X2_is (Nat.le_trans (by decide) hd) R_50 g_29 f_150 f_34 f_152 f1 f_154 hc_155) (fun _ S_160 q_163 => ?_) (fun _ _ qq => kr_x qq)
      refine kr_z (by decide) q_163 fun v_158 f_159 R_161 E_162 => ?_
      refine go_if (c := .eq) (o := 7) (t := 58) (P := x_156 = 0) (by decide +kernel) (by decide +kernel) f_159 (Iff.rfl) (fun hp_164 => ?_) (fun hp_164 => ?_)
      · have h := it_t hp_164 h
        refine go_iconst (n := 0) (z := 0) (by decide +kernel) (by decide) fun v_165 f_166 => ?_
        exact oj_X4_patch_59 hd R_161 l_42 f0 l_43 f1 l_40 f_34 f_166 hQ h
      · have h := it_f hp_164 h
        refine go_iconst (n := 1) (z := 1) (by decide +kernel) (by decide) fun v_167 f_168 => ?_
        refine go_goto (o := 4) (t := 59) (by decide +kernel) (by decide +kernel) ?_
        exact oj_X4_patch_59 hd R_161 l_42 f0 l_43 f1 l_40 f_34 f_168 hQ h
  · have h := it_f hp_15 h
    refine go_iconst (n := 1) (z := 1) (by decide +kernel) (by decide) fun v_169 f_170 => ?_
    cases h
    exact go_iret (by decide +kernel) rfl (Or.inr ⟨rfl, by decide⟩) f_170 (hQ (Ext.rf _) _ _ R (q_out_v (by decide) f_170))
noncomputable def fj_X4_doOtherLine_128 (y1 y5 y6 : Int) (m : MM) : Option (Int × MM) := gd (okc m y1 2) <| bd (fm_X1_goOnAt y1 y5 m) fun x_54 m_55 =>
if y6 = 0 then
some (0, m_55)
else
bd (fm_X4_failBranch y1 m_55) fun x_65 m_66 =>
some (0, m_66)
set_option maxHeartbeats 4000000 in
theorem oj_X4_doOtherLine_128 {xs : List Int32} {d : Nat} {S : QS} {L : QL} {Q : QO → QS → Prop} {m : MM} {y1 y5 y6 : Int} {v0 : Value} {v1 : Value} {v5 : Value} {v6 : Value}  {rz : Int} {rm : MM}
  (hd : 4 ≤ d) (R : Rp S m) (l0 : q_lo L 0 = some v0) (f0 : q_is 2 v0 16) (l1 : q_lo L 1 = some v1) (f1 : q_is 2 v1 y1) (l5 : q_lo L 5 = some v5) (f5 : q_is 0 v5 y5) (l6 : q_lo L 6 = some v6) (f6 : q_is 0 v6 y6)
  (hQ : Ext m rm → ∀ o S1, Rp S1 rm → q_out 9 o rz → Q o S1)
  (h : fj_X4_doOtherLine_128 y1 y5 y6 m = some (rz, rm)) : Go xs d qM_X4_doOtherLine 128 L [] S Q := by
  unfold fj_X4_doOtherLine_128 at h
  refine go_aload_n (n := 1) (by decide +kernel) l1 f1 ?_
  refine go_iload (n := 5) (by decide +kernel) l5 f5 ?_
  obtain ⟨g_52, h⟩ := gd_s h
  obtain ⟨x_54, m_55, hc_53, h⟩ := bd_s h
  refine go_callV (x := 171) (mi := 5) (n := 1) (ci := 2) (as := [v5]) (rest := []) (by decide +kernel) (by decide +kernel) rfl rfl (q_sum8 _ (Nat.le_of_ble_eq_true rfl)) R f1 g_52 (om_X1_goOnAt (Nat.le_trans (by decide) hd) R g_52 f1 f5 hc_53) (fun _ S_58 q_61 => ?_) (fun _ _ qq => kr_x qq)
  refine kr_v q_61 fun R_59 E_60 => ?_
  have E_62 := E_60
  refine go_iload (n := 6) (by decide +kernel) l6 f6 ?_
  refine go_if (c := .eq) (o := 8) (t := 144) (P := y6 = 0) (by decide +kernel) (by decide +kernel) f6 (Iff.rfl) (fun hp_63 => ?_) (fun hp_63 => ?_)
  · have h := it_t hp_63 h
    cases h
    exact go_vret (by decide +kernel) rfl (hQ E_62 _ _ R_59 q_out_n)
  · have h := it_f hp_63 h
    refine go_aload_n (n := 0) (by decide +kernel) l0 f0 ?_
    refine go_aload_n (n := 1) (by decide +kernel) l1 f1 ?_
    obtain ⟨x_65, m_66, hc_64, h⟩ := bd_s h
    refine go_callV (x := 177) (mi := 42) (n := 1) (ci := 5) (as := [v1]) (rest := []) (by decide +kernel) (by decide +kernel) rfl rfl (q_sum8 _ (Nat.le_of_ble_eq_true rfl)) R_59 f0 (fx_k (c := 5) R_59 (by decide +kernel)) (om_X4_failBranch (Nat.le_trans (by decide) hd) R_59 f0 f1 hc_64) (fun _ S_69 q_72 => ?_) (fun _ _ qq => kr_x qq)
    refine kr_v q_72 fun R_70 E_71 => ?_
    have E_73 := Ext.tr E_62 E_71
    cases h
    exact go_vret (by decide +kernel) rfl (hQ E_73 _ _ R_70 q_out_n)
noncomputable def fj_X4_doOtherLine_122 (y1 y5 : Int) (m : MM) : Option (Int × MM) := gd (okc m y1 2) <| bd (fm_X1_isBare y1 m) fun x_162 m_163 =>
fj_X4_doOtherLine_128 y1 y5 x_162 m_163
set_option maxHeartbeats 4000000 in
theorem oj_X4_doOtherLine_122 {xs : List Int32} {d : Nat} {S : QS} {L : QL} {Q : QO → QS → Prop} {m : MM} {y1 y5 : Int} {v0 : Value} {v1 : Value} {v5 : Value}  {rz : Int} {rm : MM}
  (hd : 4 ≤ d) (R : Rp S m) (l0 : q_lo L 0 = some v0) (f0 : q_is 2 v0 16) (l1 : q_lo L 1 = some v1) (f1 : q_is 2 v1 y1) (l5 : q_lo L 5 = some v5) (f5 : q_is 0 v5 y5)
  (hQ : Ext m rm → ∀ o S1, Rp S1 rm → q_out 9 o rz → Q o S1)
  (h : fj_X4_doOtherLine_122 y1 y5 m = some (rz, rm)) : Go xs d qM_X4_doOtherLine 122 L [] S Q := by
  unfold fj_X4_doOtherLine_122 at h
  refine go_aload_n (n := 1) (by decide +kernel) l1 f1 ?_
  obtain ⟨g_160, h⟩ := gd_s h
  obtain ⟨x_162, m_163, hc_161, h⟩ := bd_s h
  refine go_callV (x := 314) (mi := 6) (n := 0) (ci := 2) (as := []) (rest := []) (by decide +kernel) (by decide +kernel) rfl rfl (q_sum8 _ (Nat.le_of_ble_eq_true rfl)) R f1 g_160 (om_X1_isBare (Nat.le_trans (by decide) hd) R g_160 f1 hc_161) (fun _ S_166 q_169 => ?_) (fun _ _ qq => kr_x qq)
  refine kr_z (by decide) q_169 fun v_164 f_165 R_167 E_168 => ?_
  have E_170 := E_168
  refine go_istore (n := 6) (by decide +kernel) (by decide +kernel) f_165 fun L_171 l_172 kp_173 => ?_
  have l_174 := kp_173 0 _ l0 (by decide) (Or.inl (by decide))
  have l_175 := kp_173 1 _ l1 (by decide) (Or.inl (by decide))
  have l_176 := kp_173 5 _ l5 (by decide) (Or.inr (q_is_cat f5 (Or.inl rfl)))
  exact oj_X4_doOtherLine_128 hd R_167 l_174 f0 l_175 f1 l_176 f5 l_172 f_165 (fun b => hQ (Ext.tr E_170 b)) h
noncomputable def fm_X4_doOtherLine (p1 p2 p3 p4 : Int) (m0 : MM) : Option (Int × MM) := gd (okc m0 p1 2) <| lx (m0 p1 4) fun x_5 =>
lx (w32 (x_5 + 1)) fun x_11 =>
if p2 = 19 then
bd (fm_X4_patch p3 m0) fun x_36 m_37 =>
if x_36 = 0 then
fj_X4_doOtherLine_128 p1 p4 0 m_37
else
fj_X4_doOtherLine_128 p1 x_11 0 m_37
else if p2 = 20 then
lx (m0 16 2) fun x_88 =>
lx (m0 16 8) fun x_93 =>
gd (okc m0 x_88 3) <| bp (fm_X2_clockOfArrival x_88 x_93 m0) fun x_97 =>
bd (fm_X8_set p3 x_97 m0) fun x_106 m_107 =>
fj_X4_doOtherLine_128 p1 x_11 0 m_107
else if p2 = 21 then
lx (m0 p1 5) fun x_120 =>
up m0 p1 5 (w32 (x_120 + 1)) fun m_126 =>
fj_X4_doOtherLine_128 p1 x_11 0 m_126
else if p2 = 23 then
bp (fm_X8_value p3 m0) fun x_140 =>
bd (fm_X4_command 13 x_140 0 m0) fun x_151 m_152 =>
fj_X4_doOtherLine_128 p1 x_11 0 m_152
else 
fj_X4_doOtherLine_122 p1 x_11 m0
set_option maxHeartbeats 4000000 in
theorem om_X4_doOtherLine {xs : List Int32} {d : Nat} {S : QS} {m0 : MM} {p1 p2 p3 p4 : Int} {v0 : Value} {v1 : Value} {v2 : Value} {v3 : Value} {v4 : Value} {rz : Int} {rm : MM}
  (hd : 5 ≤ d) (R : Rp S m0) (f0 : q_is 2 v0 16) (f1 : q_is 2 v1 p1) (f2 : q_is 0 v2 p2) (f3 : q_is 0 v3 p3) (f4 : q_is 0 v4 p4)
  (h : fm_X4_doOtherLine p1 p2 p3 p4 m0 = some (rz, rm)) : Mt xs d 55 [v0, v1, v2, v3, v4] S (Cr 9 m0 rm rz) := by
  obtain ⟨d, rfl⟩ : ∃ e, d = e + 1 := ⟨d - 1, by omega⟩
  have hd : 4 ≤ d := Nat.le_of_succ_le_succ hd
  refine Mt.of (M := qM_X4_doOtherLine) rfl (by rw [sl_1 (q_is_cat f0 (Or.inr rfl)), sl_1 (q_is_cat f1 (Or.inr rfl)), sl_1 (q_is_cat f2 (Or.inl rfl)), sl_1 (q_is_cat f3 (Or.inl rfl)), sl_1 (q_is_cat f4 (Or.inl rfl)), sl_0]; decide) ?_
  rw [la_1 (q_is_cat f0 (Or.inr rfl)), la_1 (q_is_cat f1 (Or.inr rfl)), la_1 (q_is_cat f2 (Or.inl rfl)), la_1 (q_is_cat f3 (Or.inl rfl)), la_1 (q_is_cat f4 (Or.inl rfl)), la_0]
  obtain ⟨L, hL⟩ : ∃ L : QL, L = [(0, v0), (0 + 1, v1), (0 + 1 + 1, v2), (0 + 1 + 1 + 1, v3), (0 + 1 + 1 + 1 + 1, v4)] := ⟨_, rfl⟩
  rw [← hL]
  have l0 : q_lo L 0 = some v0 := by rw [hL]; rfl
  have l1 : q_lo L 1 = some v1 := by rw [hL]; rfl
  have l2 : q_lo L 2 = some v2 := by rw [hL]; rfl
  have l3 : q_lo L 3 = some v3 := by rw [hL]; rfl
  have l4 : q_lo L 4 = some v4 := by rw [hL]; rfl
  have hQ : Ext m0 rm → ∀ o S1, Rp S1 rm → q_out 9 o rz → (Cr 9 m0 rm rz) o S1 := fun a o S1 b e => ⟨b, a, e⟩
  unfold fm_X4_doOtherLine at h
  refine go_aload_n (n := 1) (by decide +kernel) l1 f1 ?_
  obtain ⟨g_3, h⟩ := gd_s h
  obtain ⟨x_5, e_6, h⟩ := lx_s h
  refine go_getf (x := 168) (ci := 2) (kf := 4) (fin := 0) (t := 0) (by decide +kernel) (by decide +kernel) (by decide +kernel) R f1 g_3 fun v_1 f_2 => ?_
  have f_4 := q_is_eq f_2 e_6
  refine go_iconst (n := 1) (z := 1) (by decide +kernel) (by decide) fun v_7 f_8 => ?_
  refine go_iadd (by decide +kernel) f_4 f_8 fun v_9 f_10 => ?_
  obtain ⟨x_11, e_12, h⟩ := lx_s h
  have f_13 := q_is_eq f_10 e_12
  refine go_istore (n := 5) (by decide +kernel) (by decide +kernel) f_13 fun L_14 l_15 kp_16 => ?_
  have l_17 := kp_16 0 _ l0 (by decide) (Or.inl (by decide))
  have l_18 := kp_16 1 _ l1 (by decide) (Or.inl (by decide))
  have l_19 := kp_16 2 _ l2 (by decide) (Or.inl (by decide))
  have l_20 := kp_16 3 _ l3 (by decide) (Or.inl (by decide))
  have l_21 := kp_16 4 _ l4 (by decide) (Or.inr (q_is_cat f4 (Or.inl rfl)))
  refine go_iconst (n := 0) (z := 0) (by decide +kernel) (by decide) fun v_22 f_23 => ?_
  refine go_istore (n := 6) (by decide +kernel) (by decide +kernel) f_23 fun L_24 l_25 kp_26 => ?_
  have l_27 := kp_26 0 _ l_17 (by decide) (Or.inl (by decide))
  have l_28 := kp_26 1 _ l_18 (by decide) (Or.inl (by decide))
  have l_29 := kp_26 2 _ l_19 (by decide) (Or.inl (by decide))
  have l_30 := kp_26 3 _ l_20 (by decide) (Or.inl (by decide))
  have l_31 := kp_26 4 _ l_21 (by decide) (Or.inl (by decide))
  have l_32 := kp_26 5 _ l_15 (by decide) (Or.inr (q_is_cat f_13 (Or.inl rfl)))
  refine go_iload_n (n := 2) (by decide +kernel) l_29 f2 ?_
  by_cases hp_34 : p2 = 19
  · have h := it_t hp_34 h
    refine go_tsin (dflt := 110) (lo := 19) (hi := 23) (offs := #[36, 56, 78, 110, 91]) (o := 36) (t := 48) (by decide +kernel) f2 (by omega) (by omega) (by rw [hp_34]; decide) (by decide +kernel) ?_
    refine go_aload_n (n := 0) (by decide +kernel) l_27 f0 ?_
    refine go_iload_n (n := 3) (by decide +kernel) l_30 f3 ?_
    obtain ⟨x_36, m_37, hc_35, h⟩ := bd_s h
    refine go_callV (x := 307) (mi := 56) (n := 1) (ci := 5) (as := [v3]) (rest := []) (by decide +kernel) (by decide +kernel) rfl rfl (q_sum8 _ (Nat.le_of_ble_eq_true rfl)) R f0 (fx_k (c := 5) R (by decide +kernel)) (om_X4_patch (Nat.le_trans (by decide) hd) R f0 f3 hc_35) (fun _ S_40 q_43 => ?_) (fun _ _ qq => kr_x qq)
    refine kr_z (by decide) q_43 fun v_38 f_39 R_41 E_42 => ?_
    have E_44 := E_42
    refine go_if (c := .eq) (o := 8) (t := 61) (P := x_36 = 0) (by decide +kernel) (by decide +kernel) f_39 (Iff.rfl) (fun hp_45 => ?_) (fun hp_45 => ?_)
    · have h := it_t hp_45 h
      refine go_iload (n := 4) (by decide +kernel) l_31 f4 ?_
      refine go_istore (n := 5) (by decide +kernel) (by decide +kernel) f4 fun L_46 l_47 kp_48 => ?_
      have l_49 := kp_48 0 _ l_27 (by decide) (Or.inl (by decide))
      have l_50 := kp_48 1 _ l_28 (by decide) (Or.inl (by decide))
      have l_51 := kp_48 6 _ l_25 (by decide) (Or.inl (by decide))
      refine go_goto (o := 63) (t := 128) (by decide +kernel) (by decide +kernel) ?_
      exact oj_X4_doOtherLine_128 hd R_41 l_49 f0 l_50 f1 l_47 f4 l_51 f_23 (fun b => hQ (Ext.tr E_44 b)) h
    · have h := it_f hp_45 h
      refine go_iload (n := 5) (by decide +kernel) l_32 f_13 ?_
      refine go_goto (o := 5) (t := 63) (by decide +kernel) (by decide +kernel) ?_
      refine go_istore (n := 5) (by decide +kernel) (by decide +kernel) f_13 fun L_74 l_75 kp_76 => ?_
      have l_77 := kp_76 0 _ l_27 (by decide) (Or.inl (by decide))
      have l_78 := kp_76 1 _ l_28 (by decide) (Or.inl (by decide))
      have l_79 := kp_76 6 _ l_25 (by decide) (Or.inl (by decide))
      refine go_goto (o := 63) (t := 128) (by decide +kernel) (by decide +kernel) ?_
      exact oj_X4_doOtherLine_128 hd R_41 l_77 f0 l_78 f1 l_75 f_13 l_79 f_23 (fun b => hQ (Ext.tr E_44 b)) h
  have h := it_f hp_34 h
  by_cases hp_81 : p2 = 20
  · have h := it_t hp_81 h
    refine go_tsin (dflt := 110) (lo := 19) (hi := 23) (offs := #[36, 56, 78, 110, 91]) (o := 56) (t := 68) (by decide +kernel) f2 (by omega) (by omega) (by rw [hp_81]; decide) (by decide +kernel) ?_
    refine go_aload_n (n := 0) (by decide +kernel) l_27 f0 ?_
    refine go_getf (x := 10) (ci := 5) (kf := 0) (fin := 1) (t := 2) (by decide +kernel) (by decide +kernel) (by decide +kernel) R f0 (fx_k (c := 5) R (by decide +kernel)) fun v_82 f_83 => ?_
    have f_84 := q_is_eq (b := 17) f_83 (fx_v R (by decide +kernel)).symm
    refine go_iload_n (n := 3) (by decide +kernel) l_30 f3 ?_
    refine go_aload_n (n := 0) (by decide +kernel) l_27 f0 ?_
    obtain ⟨x_88, e_89, h⟩ := lx_s h
    refine go_getf (x := 28) (ci := 5) (kf := 2) (fin := 0) (t := 2) (by decide +kernel) (by decide +kernel) (by decide +kernel) R f0 (fx_k (c := 5) R (by decide +kernel)) fun v_85 f_86 => ?_
    have f_87 := q_is_eq f_86 e_89
    refine go_aload_n (n := 0) (by decide +kernel) l_27 f0 ?_
    obtain ⟨x_93, e_94, h⟩ := lx_s h
    refine go_getf (x := 49) (ci := 5) (kf := 8) (fin := 0) (t := 0) (by decide +kernel) (by decide +kernel) (by decide +kernel) R f0 (fx_k (c := 5) R (by decide +kernel)) fun v_90 f_91 => ?_
    have f_92 := q_is_eq f_91 e_94
    obtain ⟨g_95, h⟩ := gd_s h
    obtain ⟨x_97, hc_96, h⟩ := bp_s h
    refine go_callV (x := 311) (mi := 13) (n := 1) (ci := 3) (as := [v_90]) (rest := [v3, v_82]) (by decide +kernel) (by decide +kernel) rfl rfl (q_sum8 _ (Nat.le_of_ble_eq_true rfl)) R f_87 g_95 (om_X2_clockOfArrival (Nat.le_trans (by decide) hd) R g_95 f_87 f_92 hc_96) (fun _ S_101 q_104 => ?_) (fun _ _ qq => kr_x qq)
    refine kr_z (by decide) q_104 fun v_99 f_100 R_102 E_103 => ?_
    obtain ⟨x_106, m_107, hc_105, h⟩ := bd_s h
    refine go_callV (x := 129) (mi := 82) (n := 2) (ci := 9) (as := [v3, v_99]) (rest := []) (by decide +kernel) (by decide +kernel) rfl rfl (q_sum8 _ (Nat.le_of_ble_eq_true rfl)) R_102 f_84 (fx_k (c := 9) R_102 (by decide +kernel)) (om_X8_set (Nat.le_trans (by decide) hd) R_102 f_84 f3 f_100 hc_105) (fun _ S_110 q_113 => ?_) (fun _ _ qq => kr_x qq)
    refine kr_v q_113 fun R_111 E_112 => ?_
    have E_114 := E_112
    refine go_goto (o := 41) (t := 128) (by decide +kernel) (by decide +kernel) ?_
    exact oj_X4_doOtherLine_128 hd R_111 l_27 f0 l_28 f1 l_32 f_13 l_25 f_23 (fun b => hQ (Ext.tr E_114 b)) h
  have h := it_f hp_81 h
  by_cases hp_116 : p2 = 21
  · have h := it_t hp_116 h
    refine go_tsin (dflt := 110) (lo := 19) (hi := 23) (offs := #[36, 56, 78, 110, 91]) (o := 78) (t := 90) (by decide +kernel) f2 (by omega) (by omega) (by rw [hp_116]; decide) (by decide +kernel) ?_
    refine go_aload_n (n := 1) (by decide +kernel) l_28 f1 ?_
    refine go_dup (by decide +kernel) f1 (Or.inr rfl) ?_
    obtain ⟨x_120, e_121, h⟩ := lx_s h
    refine go_getf (x := 186) (ci := 2) (kf := 5) (fin := 0) (t := 0) (by decide +kernel) (by decide +kernel) (by decide +kernel) R f1 g_3 fun v_117 f_118 => ?_
    have f_119 := q_is_eq f_118 e_121
    refine go_iconst (n := 1) (z := 1) (by decide +kernel) (by decide) fun v_122 f_123 => ?_
    refine go_iadd (by decide +kernel) f_119 f_123 fun v_124 f_125 => ?_
    obtain ⟨m_126, e_127, h⟩ := up_s h
    refine go_putf (x := 186) (ci := 2) (kf := 5) (fin := 0) (zt := 0) (by decide +kernel) (by decide +kernel) (by decide) (by decide +kernel) (by decide) (Or.inl rfl) R f1 f_125 (fun hq => absurd hq (by decide)) g_3 e_127 (fx_f (j := 5) R.2 g_3 (by decide +kernel)) fun S_128 R_129 E_130 => ?_
    have E_131 := E_130
    refine go_goto (o := 28) (t := 128) (by decide +kernel) (by decide +kernel) ?_
    exact oj_X4_doOtherLine_128 hd R_129 l_27 f0 l_28 f1 l_32 f_13 l_25 f_23 (fun b => hQ (Ext.tr E_131 b)) h
  have h := it_f hp_116 h
  by_cases hp_133 : p2 = 23
  · have h := it_t hp_133 h
    refine go_tsin (dflt := 110) (lo := 19) (hi := 23) (offs := #[36, 56, 78, 110, 91]) (o := 91) (t := 103) (by decide +kernel) f2 (by omega) (by omega) (by rw [hp_133]; decide) (by decide +kernel) ?_
    refine go_aload_n (n := 0) (by decide +kernel) l_27 f0 ?_
    refine go_bipush (n := 13) (z := 13) (by decide +kernel) (by decide) fun v_134 f_135 => ?_
    refine go_aload_n (n := 0) (by decide +kernel) l_27 f0 ?_
    refine go_getf (x := 10) (ci := 5) (kf := 0) (fin := 1) (t := 2) (by decide +kernel) (by decide +kernel) (by decide +kernel) R f0 (fx_k (c := 5) R (by decide +kernel)) fun v_136 f_137 => ?_
    have f_138 := q_is_eq (b := 17) f_137 (fx_v R (by decide +kernel)).symm
    refine go_iload_n (n := 3) (by decide +kernel) l_30 f3 ?_
    obtain ⟨x_140, hc_139, h⟩ := bp_s h
    refine go_callV (x := 217) (mi := 81) (n := 1) (ci := 9) (as := [v3]) (rest := [v_134, v0]) (by decide +kernel) (by decide +kernel) rfl rfl (q_sum8 _ (Nat.le_of_ble_eq_true rfl)) R f_138 (fx_k (c := 9) R (by decide +kernel)) (om_X8_value (Nat.le_trans (by decide) hd) R f_138 f3 hc_139) (fun _ S_144 q_147 => ?_) (fun _ _ qq => kr_x qq)
    refine kr_z (by decide) q_147 fun v_142 f_143 R_145 E_146 => ?_
    refine go_iconst (n := 0) (z := 0) (by decide +kernel) (by decide) fun v_148 f_149 => ?_
    obtain ⟨x_151, m_152, hc_150, h⟩ := bd_s h
    refine go_callV (x := 198) (mi := 44) (n := 3) (ci := 5) (as := [v_134, v_142, v_148]) (rest := []) (by decide +kernel) (by decide +kernel) rfl rfl (q_sum8 _ (Nat.le_of_ble_eq_true rfl)) R_145 f0 (fx_k (c := 5) R_145 (by decide +kernel)) (om_X4_command (Nat.le_trans (by decide) hd) R_145 f0 f_135 f_143 f_149 hc_150) (fun _ S_155 q_158 => ?_) (fun _ _ qq => kr_x qq)
    refine kr_z (by decide) q_158 fun v_153 f_154 R_156 E_157 => ?_
    have E_159 := E_157
    refine go_pop (by decide +kernel) f_154 (Or.inl rfl) ?_
    refine go_goto (o := 9) (t := 128) (by decide +kernel) (by decide +kernel) ?_
    exact oj_X4_doOtherLine_128 hd R_156 l_27 f0 l_28 f1 l_32 f_13 l_25 f_23 (fun b => hQ (Ext.tr E_159 b)) h
  have h := it_f hp_133 h
  by_cases hp_177 : p2 = 22
  · refine go_tsin (dflt := 110) (lo := 19) (hi := 23) (offs := #[36, 56, 78, 110, 91]) (o := 110) (t := 122) (by decide +kernel) f2 (by omega) (by omega) (by rw [hp_177]; decide) (by decide +kernel) ?_
    exact oj_X4_doOtherLine_122 hd R l_27 f0 l_28 f1 l_32 f_13 hQ h
  refine go_tsout (dflt := 110) (lo := 19) (hi := 23) (offs := #[36, 56, 78, 110, 91]) (t := 122) (by decide +kernel) f2 (by omega) (by decide +kernel) ?_
  exact oj_X4_doOtherLine_122 hd R l_27 f0 l_28 f1 l_32 f_13 hQ h
end DF8
