/-! THE ROOM, without any plain state: what each method keeps (written by wip/whole/gen/gen938.py), 01. -/
section GW01
set_option maxHeartbeats 4000000 in
theorem gw_X0_init {m0 : MM} {p0 p1 p2 p3 p4 p5 : Int} {rz : Int} {rm : MM} (hF : Fix m0) (g0 : okc m0 p0 1)
  (h : fm_X0_init p0 p1 p2 p3 p4 p5 m0 = some (rz, rm)) : Gr fW_X0_init p0 m0 rm := by
  have hQ : Gr fW_X0_init p0 m0 rm → Gr fW_X0_init p0 m0 rm := id
  unfold fm_X0_init at h
  obtain ⟨m_3, e_4, h⟩ := up_s h
  have E_7 := ext_up e_4 (And.left g0) (by decide)
  have w_8 := Gr.upE (Gr.rf (W := fW_X0_init) (e := p0) hF) e_4 (ext_up e_4 (And.left g0) (by decide)) (And.left g0) (fx_f (j := 5) hF g0 (by decide +kernel)) g0 (by decide) (by first | exact saf_k (by decide) | (unfold saf; decide))
  have g_12 := Ext.ok E_7 g0
  obtain ⟨m_13, e_14, h⟩ := up_s h
  have E_17 := ext_up e_14 (And.left g_12) (by decide)
  have w_18 := Gr.upE w_8 e_14 (ext_up e_14 (And.left g_12) (by decide)) (And.left g_12) (fx_f (j := 6) (Gr.fix w_8) g_12 (by decide +kernel)) g_12 (by decide) (by first | exact saf_k (by decide) | (unfold saf; decide))
  have g_22 := Ext.ok E_17 g_12
  obtain ⟨m_23, e_24, h⟩ := up_s h
  have E_27 := ext_up e_24 (And.left g_22) (by decide)
  have w_28 := Gr.upE w_18 e_24 (ext_up e_24 (And.left g_22) (by decide)) (And.left g_22) (fx_f (j := 7) (Gr.fix w_18) g_22 (by decide +kernel)) g_22 (by decide) (by first | exact saf_k (by decide) | (unfold saf; decide))
  have g_32 := Ext.ok E_27 g_22
  obtain ⟨m_33, e_34, h⟩ := up_s h
  have E_37 := ext_up e_34 (And.left g_32) (by decide)
  have w_38 := Gr.upE w_28 e_34 (ext_up e_34 (And.left g_32) (by decide)) (And.left g_32) (fx_f (j := 8) (Gr.fix w_28) g_32 (by decide +kernel)) g_32 (by decide) (by first | exact saf_k (by decide) | (unfold saf; decide))
  have g_42 := Ext.ok E_37 g_32
  obtain ⟨m_43, e_44, h⟩ := up_s h
  have E_47 := ext_up e_44 (And.left g_42) (by decide)
  have w_48 := Gr.upE w_38 e_44 (ext_up e_44 (And.left g_42) (by decide)) (And.left g_42) (fx_f (j := 9) (Gr.fix w_38) g_42 (by decide +kernel)) g_42 (by decide) (by first | exact saf_k (by decide) | (unfold saf; decide))
  have g_52 := Ext.ok E_47 g_42
  obtain ⟨m_53, e_54, h⟩ := up_s h
  have E_57 := ext_up e_54 (And.left g_52) (by decide)
  have w_58 := Gr.upE w_48 e_54 (ext_up e_54 (And.left g_52) (by decide)) (And.left g_52) (fx_f (j := 10) (Gr.fix w_48) g_52 (by decide +kernel)) g_52 (by decide) (by first | exact saf_k (by decide) | (unfold saf; decide))
  have g_60 := Ext.ok E_57 g_52
  obtain ⟨m_61, e_62, h⟩ := up_s h
  have E_65 := ext_up e_62 (And.left g_60) (by decide)
  have w_66 := Gr.upE w_58 e_62 (ext_up e_62 (And.left g_60) (by decide)) (And.left g_60) (fx_f (j := 0) (Gr.fix w_58) g_60 (by decide +kernel)) g_60 (by decide) (by first | exact saf_k (by decide) | (unfold saf; decide))
  have g_68 := Ext.ok E_65 g_60
  obtain ⟨m_69, e_70, h⟩ := up_s h
  have E_73 := ext_up e_70 (And.left g_68) (by decide)
  have w_74 := Gr.upE w_66 e_70 (ext_up e_70 (And.left g_68) (by decide)) (And.left g_68) (fx_f (j := 1) (Gr.fix w_66) g_68 (by decide +kernel)) g_68 (by decide) (by first | exact saf_k (by decide) | (unfold saf; decide))
  have g_76 := Ext.ok E_73 g_68
  obtain ⟨m_77, e_78, h⟩ := up_s h
  have E_81 := ext_up e_78 (And.left g_76) (by decide)
  have w_82 := Gr.upE w_74 e_78 (ext_up e_78 (And.left g_76) (by decide)) (And.left g_76) (fx_f (j := 2) (Gr.fix w_74) g_76 (by decide +kernel)) g_76 (by decide) (by first | exact saf_k (by decide) | (unfold saf; decide))
  have g_84 := Ext.ok E_81 g_76
  obtain ⟨m_85, e_86, h⟩ := up_s h
  have E_89 := ext_up e_86 (And.left g_84) (by decide)
  have w_90 := Gr.upE w_82 e_86 (ext_up e_86 (And.left g_84) (by decide)) (And.left g_84) (fx_f (j := 3) (Gr.fix w_82) g_84 (by decide +kernel)) g_84 (by decide) (by first | exact saf_k (by decide) | (unfold saf; decide))
  have g_92 := Ext.ok E_89 g_84
  obtain ⟨m_93, e_94, h⟩ := up_s h
  have E_97 := ext_up e_94 (And.left g_92) (by decide)
  have w_98 := Gr.upE w_90 e_94 (ext_up e_94 (And.left g_92) (by decide)) (And.left g_92) (fx_f (j := 4) (Gr.fix w_90) g_92 (by decide +kernel)) g_92 (by decide) (by first | exact saf_k (by decide) | (unfold saf; decide))
  cases h
  exact hQ w_98
set_option maxHeartbeats 4000000 in
theorem gw_X0_beTaken {m0 : MM} {p0 p1 : Int} {rz : Int} {rm : MM} (hF : Fix m0) (g0 : okc m0 p0 1)
  (h : fm_X0_beTaken p0 p1 m0 = some (rz, rm)) : Gr fW_X0_beTaken 0 m0 rm := by
  have hQ : Gr fW_X0_beTaken 0 m0 rm → Gr fW_X0_beTaken 0 m0 rm := id
  unfold fm_X0_beTaken at h
  obtain ⟨m_3, e_4, h⟩ := up_s h
  have E_7 := ext_up e_4 (And.left g0) (by decide)
  have w_8 := Gr.upK (y := 5) (Gr.rf (W := fW_X0_beTaken) (e := 0) hF) e_4 (ext_up e_4 (And.left g0) (by decide)) (And.left g0) (fx_f (j := 5) hF g0 (by decide +kernel)) g0 (Or.inr rfl) (by decide +kernel) g0 (by decide) (by first | exact saf_k (by decide) | (unfold saf; decide))
  have g_12 := Ext.ok E_7 g0
  obtain ⟨x_14, e_15, h⟩ := lx_s h
  obtain ⟨m_20, e_21, h⟩ := up_s h
  have E_24 := ext_up e_21 (And.left g_12) (by decide)
  have w_25 := Gr.upK (y := 6) w_8 e_21 (ext_up e_21 (And.left g_12) (by decide)) (And.left g_12) (fx_f (j := 6) (Gr.fix w_8) g_12 (by decide +kernel)) g_12 (Or.inr rfl) (by decide +kernel) g_12 (by decide) (by first | exact saf_k (by decide) | (unfold saf; decide))
  have g_27 := Ext.ok E_24 g_12
  obtain ⟨m_28, e_29, h⟩ := up_s h
  have E_32 := ext_up e_29 (And.left g_27) (by decide)
  have w_33 := Gr.upK (y := 8) w_25 e_29 (ext_up e_29 (And.left g_27) (by decide)) (And.left g_27) (fx_f (j := 8) (Gr.fix w_25) g_27 (by decide +kernel)) g_27 (Or.inr rfl) (by decide +kernel) g_27 (by decide) (by first | exact saf_k (by decide) | (unfold saf; decide))
  have g_35 := Ext.ok E_32 g_27
  obtain ⟨m_36, e_37, h⟩ := up_s h
  have E_40 := ext_up e_37 (And.left g_35) (by decide)
  have w_41 := Gr.upK (y := 9) w_33 e_37 (ext_up e_37 (And.left g_35) (by decide)) (And.left g_35) (fx_f (j := 9) (Gr.fix w_33) g_35 (by decide +kernel)) g_35 (Or.inr rfl) (by decide +kernel) g_35 (by decide) (by first | exact saf_k (by decide) | (unfold saf; decide))
  cases h
  exact hQ w_41
set_option maxHeartbeats 4000000 in
theorem gw_X1_start {m0 : MM} {p0 p1 p2 p3 : Int} {rz : Int} {rm : MM} (hF : Fix m0) (g0 : okc m0 p0 2)
  (h : fm_X1_start p0 p1 p2 p3 m0 = some (rz, rm)) : Gr fW_X1_start 0 m0 rm := by
  have hQ : Gr fW_X1_start 0 m0 rm → Gr fW_X1_start 0 m0 rm := id
  unfold fm_X1_start at h
  obtain ⟨m_1, e_2, h⟩ := up_s h
  have E_5 := ext_up e_2 (And.left g0) (by decide)
  have w_6 := Gr.upK (y := 0) (Gr.rf (W := fW_X1_start) (e := 0) hF) e_2 (ext_up e_2 (And.left g0) (by decide)) (And.left g0) (fx_f (j := 0) hF g0 (by decide +kernel)) g0 (Or.inr rfl) (by decide +kernel) g0 (by decide) (by first | exact saf_k (by decide) | (unfold saf; decide))
  have g_8 := Ext.ok E_5 g0
  obtain ⟨m_9, e_10, h⟩ := up_s h
  have E_13 := ext_up e_10 (And.left g_8) (by decide)
  have w_14 := Gr.upK (y := 1) w_6 e_10 (ext_up e_10 (And.left g_8) (by decide)) (And.left g_8) (fx_f (j := 1) (Gr.fix w_6) g_8 (by decide +kernel)) g_8 (Or.inr rfl) (by decide +kernel) g_8 (by decide) (by first | exact saf_k (by decide) | (unfold saf; decide))
  have g_16 := Ext.ok E_13 g_8
  obtain ⟨m_17, e_18, h⟩ := up_s h
  have E_21 := ext_up e_18 (And.left g_16) (by decide)
  have w_22 := Gr.upK (y := 2) w_14 e_18 (ext_up e_18 (And.left g_16) (by decide)) (And.left g_16) (fx_f (j := 2) (Gr.fix w_14) g_16 (by decide +kernel)) g_16 (Or.inr rfl) (by decide +kernel) g_16 (by decide) (by first | exact saf_k (by decide) | (unfold saf; decide))
  have g_26 := Ext.ok E_21 g_16
  obtain ⟨m_27, e_28, h⟩ := up_s h
  have E_31 := ext_up e_28 (And.left g_26) (by decide)
  have w_32 := Gr.upK (y := 3) w_22 e_28 (ext_up e_28 (And.left g_26) (by decide)) (And.left g_26) (fx_f (j := 3) (Gr.fix w_22) g_26 (by decide +kernel)) g_26 (Or.inr rfl) (by decide +kernel) g_26 (by decide) (by first | exact saf_k (by decide) | (unfold saf; decide))
  have g_34 := Ext.ok E_31 g_26
  obtain ⟨m_35, e_36, h⟩ := up_s h
  have E_39 := ext_up e_36 (And.left g_34) (by decide)
  have w_40 := Gr.upK (y := 4) w_32 e_36 (ext_up e_36 (And.left g_34) (by decide)) (And.left g_34) (fx_f (j := 4) (Gr.fix w_32) g_34 (by decide +kernel)) g_34 (Or.inr rfl) (by decide +kernel) g_34 (by decide) (by first | exact saf_k (by decide) | (unfold saf; decide))
  have g_44 := Ext.ok E_39 g_34
  obtain ⟨m_45, e_46, h⟩ := up_s h
  have E_49 := ext_up e_46 (And.left g_44) (by decide)
  have w_50 := Gr.upK (y := 5) w_40 e_46 (ext_up e_46 (And.left g_44) (by decide)) (And.left g_44) (fx_f (j := 5) (Gr.fix w_40) g_44 (by decide +kernel)) g_44 (Or.inr rfl) (by decide +kernel) g_44 (by decide) (by first | exact saf_k (by decide) | (unfold saf; decide))
  have g_54 := Ext.ok E_49 g_44
  obtain ⟨m_55, e_56, h⟩ := up_s h
  have E_59 := ext_up e_56 (And.left g_54) (by decide)
  have w_60 := Gr.upK (y := 6) w_50 e_56 (ext_up e_56 (And.left g_54) (by decide)) (And.left g_54) (fx_f (j := 6) (Gr.fix w_50) g_54 (by decide +kernel)) g_54 (Or.inr rfl) (by decide +kernel) g_54 (by decide) (by first | exact saf_k (by decide) | (unfold saf; decide))
  have g_64 := Ext.ok E_59 g_54
  obtain ⟨m_65, e_66, h⟩ := up_s h
  have E_69 := ext_up e_66 (And.left g_64) (by decide)
  have w_70 := Gr.upK (y := 7) w_60 e_66 (ext_up e_66 (And.left g_64) (by decide)) (And.left g_64) (fx_f (j := 7) (Gr.fix w_60) g_64 (by decide +kernel)) g_64 (Or.inr rfl) (by decide +kernel) g_64 (by decide) (by first | exact saf_k (by decide) | (unfold saf; decide))
  have g_74 := Ext.ok E_69 g_64
  obtain ⟨m_75, e_76, h⟩ := up_s h
  have E_79 := ext_up e_76 (And.left g_74) (by decide)
  have w_80 := Gr.upK (y := 8) w_70 e_76 (ext_up e_76 (And.left g_74) (by decide)) (And.left g_74) (fx_f (j := 8) (Gr.fix w_70) g_74 (by decide +kernel)) g_74 (Or.inr rfl) (by decide +kernel) g_74 (by decide) (by first | exact saf_k (by decide) | (unfold saf; decide))
  have g_84 := Ext.ok E_79 g_74
  obtain ⟨m_85, e_86, h⟩ := up_s h
  have E_89 := ext_up e_86 (And.left g_84) (by decide)
  have w_90 := Gr.upK (y := 9) w_80 e_86 (ext_up e_86 (And.left g_84) (by decide)) (And.left g_84) (fx_f (j := 9) (Gr.fix w_80) g_84 (by decide +kernel)) g_84 (Or.inr rfl) (by decide +kernel) g_84 (by decide) (by first | exact saf_k (by decide) | (unfold saf; decide))
  have g_94 := Ext.ok E_89 g_84
  obtain ⟨m_95, e_96, h⟩ := up_s h
  have E_99 := ext_up e_96 (And.left g_94) (by decide)
  have w_100 := Gr.upK (y := 10) w_90 e_96 (ext_up e_96 (And.left g_94) (by decide)) (And.left g_94) (fx_f (j := 10) (Gr.fix w_90) g_94 (by decide +kernel)) g_94 (Or.inr rfl) (by decide +kernel) g_94 (by decide) (by first | exact saf_k (by decide) | (unfold saf; decide))
  cases h
  exact hQ w_100
set_option maxHeartbeats 4000000 in
theorem gw_X1_waitFor {m0 : MM} {p0 p1 p2 : Int} {rz : Int} {rm : MM} (hF : Fix m0) (g0 : okc m0 p0 2)
  (h : fm_X1_waitFor p0 p1 p2 m0 = some (rz, rm)) : Gr fW_X1_waitFor 0 m0 rm := by
  have hQ : Gr fW_X1_waitFor 0 m0 rm → Gr fW_X1_waitFor 0 m0 rm := id
  unfold fm_X1_waitFor at h
  obtain ⟨m_1, e_2, h⟩ := up_s h
  have E_5 := ext_up e_2 (And.left g0) (by decide)
  have w_6 := Gr.upK (y := 7) (Gr.rf (W := fW_X1_waitFor) (e := 0) hF) e_2 (ext_up e_2 (And.left g0) (by decide)) (And.left g0) (fx_f (j := 7) hF g0 (by decide +kernel)) g0 (Or.inr rfl) (by decide +kernel) g0 (by decide) (by first | exact saf_k (by decide) | (unfold saf; decide))
  have g_8 := Ext.ok E_5 g0
  obtain ⟨m_9, e_10, h⟩ := up_s h
  have E_13 := ext_up e_10 (And.left g_8) (by decide)
  have w_14 := Gr.upK (y := 8) w_6 e_10 (ext_up e_10 (And.left g_8) (by decide)) (And.left g_8) (fx_f (j := 8) (Gr.fix w_6) g_8 (by decide +kernel)) g_8 (Or.inr rfl) (by decide +kernel) g_8 (by decide) (by first | exact saf_k (by decide) | (unfold saf; decide))
  cases h
  exact hQ w_14
set_option maxHeartbeats 4000000 in
theorem gw_X1_goOnAt {m0 : MM} {p0 p1 : Int} {rz : Int} {rm : MM} (hF : Fix m0) (g0 : okc m0 p0 2)
  (h : fm_X1_goOnAt p0 p1 m0 = some (rz, rm)) : Gr fW_X1_goOnAt 0 m0 rm := by
  have hQ : Gr fW_X1_goOnAt 0 m0 rm → Gr fW_X1_goOnAt 0 m0 rm := id
  unfold fm_X1_goOnAt at h
  obtain ⟨m_3, e_4, h⟩ := up_s h
  have E_7 := ext_up e_4 (And.left g0) (by decide)
  have w_8 := Gr.upK (y := 7) (Gr.rf (W := fW_X1_goOnAt) (e := 0) hF) e_4 (ext_up e_4 (And.left g0) (by decide)) (And.left g0) (fx_f (j := 7) hF g0 (by decide +kernel)) g0 (Or.inr rfl) (by decide +kernel) g0 (by decide) (by first | exact saf_k (by decide) | (unfold saf; decide))
  have g_10 := Ext.ok E_7 g0
  obtain ⟨m_11, e_12, h⟩ := up_s h
  have E_15 := ext_up e_12 (And.left g_10) (by decide)
  have w_16 := Gr.upK (y := 4) w_8 e_12 (ext_up e_12 (And.left g_10) (by decide)) (And.left g_10) (fx_f (j := 4) (Gr.fix w_8) g_10 (by decide +kernel)) g_10 (Or.inr rfl) (by decide +kernel) g_10 (by decide) (by first | exact saf_k (by decide) | (unfold saf; decide))
  cases h
  exact hQ w_16
set_option maxHeartbeats 4000000 in
theorem gwj_X1_isBare_33 {P : Prop} {m : MM} {p0 s0 : Int} {rz : Int} {rm : MM} (hF : Fix m) (g0 : okc m p0 2) (hQ : Gr fW_X1_isBare 0 m rm → P)
  (h : fj_X1_isBare_33 p0 s0 m = some (rz, rm)) : P := by
  unfold fj_X1_isBare_33 at h
  obtain ⟨x_44, e_45, h⟩ := lx_s h
  rcases it_s h with ⟨hp_46, h⟩ | ⟨hp_46, h⟩
  · obtain ⟨m_49, e_50, h⟩ := up_s h
    have E_53 := ext_up e_50 (And.left g0) (by decide)
    have w_54 := Gr.upK (y := 6) (Gr.rf (W := fW_X1_isBare) (e := 0) hF) e_50 (ext_up e_50 (And.left g0) (by decide)) (And.left g0) (fx_f (j := 6) hF g0 (by decide +kernel)) g0 (Or.inr rfl) (by decide +kernel) g0 (by decide) (by first | exact saf_k (by decide) | (unfold saf; decide))
    obtain ⟨g_56, h⟩ := gd_s h
    cases h
    exact hQ w_54
  · rcases it_s h with ⟨hp_57, h⟩ | ⟨hp_57, h⟩
    · obtain ⟨m_70, e_71, h⟩ := up_s h
      have E_74 := ext_up e_71 (And.left g0) (by decide)
      have w_75 := Gr.upK (y := 6) (Gr.rf (W := fW_X1_isBare) (e := 0) hF) e_71 (ext_up e_71 (And.left g0) (by decide)) (And.left g0) (fx_f (j := 6) hF g0 (by decide +kernel)) g0 (Or.inr rfl) (by decide +kernel) g0 (by decide) (by first | exact saf_k (by decide) | (unfold saf; decide))
      obtain ⟨g_77, h⟩ := gd_s h
      cases h
      exact hQ w_75
    · obtain ⟨m_60, e_61, h⟩ := up_s h
      have E_64 := ext_up e_61 (And.left g0) (by decide)
      have w_65 := Gr.upK (y := 6) (Gr.rf (W := fW_X1_isBare) (e := 0) hF) e_61 (ext_up e_61 (And.left g0) (by decide)) (And.left g0) (fx_f (j := 6) hF g0 (by decide +kernel)) g0 (Or.inr rfl) (by decide +kernel) g0 (by decide) (by first | exact saf_k (by decide) | (unfold saf; decide))
      obtain ⟨g_67, h⟩ := gd_s h
      cases h
      exact hQ w_65
set_option maxHeartbeats 4000000 in
theorem gw_X1_isBare {m0 : MM} {p0 : Int} {rz : Int} {rm : MM} (hF : Fix m0) (g0 : okc m0 p0 2)
  (h : fm_X1_isBare p0 m0 = some (rz, rm)) : Gr fW_X1_isBare 0 m0 rm := by
  have hQ : Gr fW_X1_isBare 0 m0 rm → Gr fW_X1_isBare 0 m0 rm := id
  unfold fm_X1_isBare at h
  obtain ⟨x_6, e_7, h⟩ := lx_s h
  obtain ⟨x_13, hc_12, h⟩ := bp_s h
  obtain ⟨m_21, e_22, h⟩ := up_s h
  have E_25 := ext_up e_22 (And.left g0) (by decide)
  have w_26 := Gr.upK (y := 5) (Gr.rf (W := fW_X1_isBare) (e := 0) hF) e_22 (ext_up e_22 (And.left g0) (by decide)) (And.left g0) (fx_f (j := 5) hF g0 (by decide +kernel)) g0 (Or.inr rfl) (by decide +kernel) g0 (by decide) (by first | exact saf_k (by decide) | (unfold saf; decide))
  have g_30 := Ext.ok E_25 g0
  obtain ⟨x_32, e_33, h⟩ := lx_s h
  rcases it_s h with ⟨hp_34, h⟩ | ⟨hp_34, h⟩
  · exact gwj_X1_isBare_33 (Gr.fix w_26) g_30 (fun f => hQ (Gr.trS w_26 f)) h
  · obtain ⟨x_81, e_82, h⟩ := lx_s h
    rcases it_s h with ⟨hp_83, h⟩ | ⟨hp_83, h⟩
    · exact gwj_X1_isBare_33 (Gr.fix w_26) g_30 (fun f => hQ (Gr.trS w_26 f)) h
    · exact gwj_X1_isBare_33 (Gr.fix w_26) g_30 (fun f => hQ (Gr.trS w_26 f)) h
set_option maxHeartbeats 4000000 in
theorem gw_X2_init {m0 : MM} {p0 p1 : Int} {rz : Int} {rm : MM} (hF : Fix m0) (g0 : okc m0 p0 3)
  (h : fm_X2_init p0 p1 m0 = some (rz, rm)) : Gr fW_X2_init p0 m0 rm := by
  have hQ : Gr fW_X2_init p0 m0 rm → Gr fW_X2_init p0 m0 rm := id
  unfold fm_X2_init at h
  obtain ⟨m_3, e_4, h⟩ := up_s h
  have E_7 := ext_up e_4 (And.left g0) (by decide)
  have w_8 := Gr.upE (Gr.rf (W := fW_X2_init) (e := p0) hF) e_4 (ext_up e_4 (And.left g0) (by decide)) (And.left g0) (fx_f (j := 1) hF g0 (by decide +kernel)) g0 (by decide) (by first | exact saf_k (by decide) | (unfold saf; decide))
  have g_12 := Ext.ok E_7 g0
  obtain ⟨m_13, e_14, h⟩ := up_s h
  have E_17 := ext_up e_14 (And.left g_12) (by decide)
  have w_18 := Gr.upE w_8 e_14 (ext_up e_14 (And.left g_12) (by decide)) (And.left g_12) (fx_f (j := 2) (Gr.fix w_8) g_12 (by decide +kernel)) g_12 (by decide) (by first | exact saf_k (by decide) | (unfold saf; decide))
  have g_22 := Ext.ok E_17 g_12
  obtain ⟨m_23, e_24, h⟩ := up_s h
  have E_27 := ext_up e_24 (And.left g_22) (by decide)
  have w_28 := Gr.upE w_18 e_24 (ext_up e_24 (And.left g_22) (by decide)) (And.left g_22) (fx_f (j := 3) (Gr.fix w_18) g_22 (by decide +kernel)) g_22 (by decide) (by first | exact saf_k (by decide) | (unfold saf; decide))
  have g_32 := Ext.ok E_27 g_22
  obtain ⟨m_33, e_34, h⟩ := up_s h
  have E_37 := ext_up e_34 (And.left g_32) (by decide)
  have w_38 := Gr.upE w_28 e_34 (ext_up e_34 (And.left g_32) (by decide)) (And.left g_32) (fx_f (j := 4) (Gr.fix w_28) g_32 (by decide +kernel)) g_32 (by decide) (by first | exact saf_k (by decide) | (unfold saf; decide))
  have g_40 := Ext.ok E_37 g_32
  obtain ⟨g_41, h⟩ := gd_s h
  obtain ⟨m_42, e_43, h⟩ := up_s h
  have E_46 := ext_up e_43 (And.left g_40) (by decide)
  have w_47 := Gr.upE w_38 e_43 (ext_up e_43 (And.left g_40) (by decide)) (And.left g_40) (fx_new (Gr.fix w_38) g_41 (by decide)) g_40 (by decide) (by first | exact saf_k (by decide) | (unfold saf; decide))
  cases h
  exact hQ w_47
set_option maxHeartbeats 4000000 in
theorem gwj_X2_put_27 {P : Prop} {m : MM} {p0 y1 y2 y3 y6 : Int} {rz : Int} {rm : MM} (hF : Fix m) (g0 : okc m p0 3) (hQ : Gr fW_X2_put 0 m rm → P)
  (h : fj_X2_put_27 p0 y1 y2 y3 y6 m = some (rz, rm)) : P := by
  unfold fj_X2_put_27 at h
  obtain ⟨x_16, e_17, h⟩ := lx_s h
  obtain ⟨g_56, h⟩ := gd_s h
  obtain ⟨x_58, m_59, hc_57, h⟩ := bd_s h
  have w_66 := (gw_X5_add hF g_56 hc_57)
  have E_64 := Gr.ext w_66
  have w_67 := Gr.tr0 (Gr.rf (W := fW_X2_put) (e := 0) hF) w_66 (by decide +kernel)
  have g_71 := Ext.ok E_64 g0
  obtain ⟨x_73, e_74, h⟩ := lx_s h
  obtain ⟨g_77, h⟩ := gd_s h
  obtain ⟨x_79, e_80, h⟩ := lx_s h
  obtain ⟨m_81, e_82, h⟩ := up_s h
  have E_85 := ext_up e_82 (And.left g_71) (by decide)
  have w_86 := Gr.upK (y := 1) w_67 e_82 (ext_up e_82 (And.left g_71) (by decide)) (And.left g_71) (fx_f (j := 1) (Gr.fix w_67) g_71 (by decide +kernel)) g_71 (Or.inr rfl) (by decide +kernel) g_71 (by decide) (by first | exact saf_k (by decide) | (unfold saf; decide))
  rcases it_s h with ⟨hp_90, h⟩ | ⟨hp_90, h⟩
  · rcases it_s h with ⟨hp_93, h⟩ | ⟨hp_93, h⟩
    · have g_96 := Ext.ok E_85 g_71
      obtain ⟨x_98, e_99, h⟩ := lx_s h
      obtain ⟨m_104, e_105, h⟩ := up_s h
      have E_108 := ext_up e_105 (And.left g_96) (by decide)
      have w_109 := Gr.upK (y := 3) w_86 e_105 (ext_up e_105 (And.left g_96) (by decide)) (And.left g_96) (fx_f (j := 3) (Gr.fix w_86) g_96 (by decide +kernel)) g_96 (Or.inr rfl) (by decide +kernel) g_96 (by decide) (by first | exact saf_k (by decide) | (unfold saf; decide))
      have g_111 := Ext.ok E_108 g_96
      obtain ⟨m_112, e_113, h⟩ := up_s h
      have E_116 := ext_up e_113 (And.left g_111) (by decide)
      have w_117 := Gr.upK (y := 4) w_109 e_113 (ext_up e_113 (And.left g_111) (by decide)) (And.left g_111) (fx_f (j := 4) (Gr.fix w_109) g_111 (by decide +kernel)) g_111 (Or.inr rfl) (by decide +kernel) g_111 (by decide) (by first | exact saf_k (by decide) | (unfold saf; decide))
      cases h
      exact hQ w_117
    · cases h
      exact hQ w_86
  · have g_121 := Ext.ok E_85 g_71
    obtain ⟨x_123, e_124, h⟩ := lx_s h
    obtain ⟨m_129, e_130, h⟩ := up_s h
    have E_133 := ext_up e_130 (And.left g_121) (by decide)
    have w_134 := Gr.upK (y := 2) w_86 e_130 (ext_up e_130 (And.left g_121) (by decide)) (And.left g_121) (fx_f (j := 2) (Gr.fix w_86) g_121 (by decide +kernel)) g_121 (Or.inr rfl) (by decide +kernel) g_121 (by decide) (by first | exact saf_k (by decide) | (unfold saf; decide))
    cases h
    exact hQ w_134
set_option maxHeartbeats 4000000 in
theorem gw_X2_put {m0 : MM} {p0 p1 p2 p3 p4 p5 : Int} {rz : Int} {rm : MM} (hF : Fix m0) (g0 : okc m0 p0 3)
  (h : fm_X2_put p0 p1 p2 p3 p4 p5 m0 = some (rz, rm)) : Gr fW_X2_put 0 m0 rm := by
  have hQ : Gr fW_X2_put 0 m0 rm → Gr fW_X2_put 0 m0 rm := id
  unfold fm_X2_put at h
  rcases it_s h with ⟨hp_12, h⟩ | ⟨hp_12, h⟩
  · exact gwj_X2_put_27 hF g0 hQ h
  · obtain ⟨x_150, e_151, h⟩ := lx_s h
    exact gwj_X2_put_27 hF g0 hQ h
set_option maxHeartbeats 4000000 in
theorem gwl_X2_countAgain_28 {P : Prop} {mb : MM} {p0 : Int} {rz : Int} {rm : MM} (hF0 : Fix mb) (gb : okc mb p0 3) (hQ : Gr fW_X2_countAgain 0 mb rm → P) :
  ∀ (n : Nat) {m : MM} {y1 : Int} , Gr fW_X2_countAgain 0 mb m → fl_X2_countAgain_28 p0 n y1 m = some (rz, rm) → P := by
  intro n
  induction n with
  | zero => intro m y1 w h; cases h
  | succ n ih0 =>
    intro m y1 w h
    have ih : ∀ mq : MM, Gr fW_X2_countAgain 0 mb mq → ∀ {z1 : Int}, fl_X2_countAgain_28 p0 n z1 mq = some (rz, rm) → P := fun mq b => by intros; exact ih0 b ‹_›
    have g0 := Ext.ok (Gr.ext w) gb
    unfold fl_X2_countAgain_28 at h
    obtain ⟨x_58, e_59, h⟩ := lx_s h
    rcases it_s h with ⟨hp_60, h⟩ | ⟨hp_60, h⟩
    · obtain ⟨x_62, hc_61, h⟩ := bp_s h
      rcases it_s h with ⟨hp_77, h⟩ | ⟨hp_77, h⟩
      · rcases it_s h with ⟨hp_80, h⟩ | ⟨hp_80, h⟩
        · obtain ⟨x_93, e_94, h⟩ := lx_s h
          obtain ⟨m_99, e_100, h⟩ := up_s h
          have E_103 := ext_up e_100 (And.left g0) (by decide)
          have w_104 := Gr.upK (y := 3) w e_100 (ext_up e_100 (And.left g0) (by decide)) (And.left g0) (fx_f (j := 3) (Gr.fix w) g0 (by decide +kernel)) g0 (Or.inr rfl) (by decide +kernel) g0 (by decide) (by first | exact saf_k (by decide) | (unfold saf; decide))
          have g_106 := Ext.ok E_103 g0
          obtain ⟨x_108, hc_107, h⟩ := bp_s h
          obtain ⟨m_116, e_117, h⟩ := up_s h
          have E_120 := ext_up e_117 (And.left g_106) (by decide)
          have w_121 := Gr.upK (y := 4) w_104 e_117 (ext_up e_117 (And.left g_106) (by decide)) (And.left g_106) (fx_f (j := 4) (Gr.fix w_104) g_106 (by decide +kernel)) g_106 (Or.inr rfl) (by decide +kernel) g_106 (by decide) (by first | exact saf_k (by decide) | (unfold saf; decide))
          obtain ⟨x_128, e_129, h⟩ := lx_s h
          exact ih m_116 w_121 h
        · obtain ⟨x_86, e_87, h⟩ := lx_s h
          exact ih m w h
      · obtain ⟨x_135, e_136, h⟩ := lx_s h
        obtain ⟨m_141, e_142, h⟩ := up_s h
        have E_145 := ext_up e_142 (And.left g0) (by decide)
        have w_146 := Gr.upK (y := 2) w e_142 (ext_up e_142 (And.left g0) (by decide)) (And.left g0) (fx_f (j := 2) (Gr.fix w) g0 (by decide +kernel)) g0 (Or.inr rfl) (by decide +kernel) g0 (by decide) (by first | exact saf_k (by decide) | (unfold saf; decide))
        obtain ⟨x_153, e_154, h⟩ := lx_s h
        exact ih m_141 w_146 h
    · cases h
      exact hQ w
set_option maxHeartbeats 4000000 in
theorem gw_X2_countAgain {m0 : MM} {p0 : Int} {rz : Int} {rm : MM} (hF : Fix m0) (g0 : okc m0 p0 3)
  (h : fm_X2_countAgain p0 m0 = some (rz, rm)) : Gr fW_X2_countAgain 0 m0 rm := by
  have hQ : Gr fW_X2_countAgain 0 m0 rm → Gr fW_X2_countAgain 0 m0 rm := id
  unfold fm_X2_countAgain at h
  obtain ⟨x_4, e_5, h⟩ := lx_s h
  obtain ⟨g_8, h⟩ := gd_s h
  obtain ⟨x_10, e_11, h⟩ := lx_s h
  obtain ⟨m_12, e_13, h⟩ := up_s h
  have E_16 := ext_up e_13 (And.left g0) (by decide)
  have w_17 := Gr.upK (y := 1) (Gr.rf (W := fW_X2_countAgain) (e := 0) hF) e_13 (ext_up e_13 (And.left g0) (by decide)) (And.left g0) (fx_f (j := 1) hF g0 (by decide +kernel)) g0 (Or.inr rfl) (by decide +kernel) g0 (by decide) (by first | exact saf_k (by decide) | (unfold saf; decide))
  have g_21 := Ext.ok E_16 g0
  obtain ⟨m_22, e_23, h⟩ := up_s h
  have E_26 := ext_up e_23 (And.left g_21) (by decide)
  have w_27 := Gr.upK (y := 2) w_17 e_23 (ext_up e_23 (And.left g_21) (by decide)) (And.left g_21) (fx_f (j := 2) (Gr.fix w_17) g_21 (by decide +kernel)) g_21 (Or.inr rfl) (by decide +kernel) g_21 (by decide) (by first | exact saf_k (by decide) | (unfold saf; decide))
  have g_31 := Ext.ok E_26 g_21
  obtain ⟨m_32, e_33, h⟩ := up_s h
  have E_36 := ext_up e_33 (And.left g_31) (by decide)
  have w_37 := Gr.upK (y := 3) w_27 e_33 (ext_up e_33 (And.left g_31) (by decide)) (And.left g_31) (fx_f (j := 3) (Gr.fix w_27) g_31 (by decide +kernel)) g_31 (Or.inr rfl) (by decide +kernel) g_31 (by decide) (by first | exact saf_k (by decide) | (unfold saf; decide))
  have g_41 := Ext.ok E_36 g_31
  obtain ⟨m_42, e_43, h⟩ := up_s h
  have E_46 := ext_up e_43 (And.left g_41) (by decide)
  have w_47 := Gr.upK (y := 4) w_37 e_43 (ext_up e_43 (And.left g_41) (by decide)) (And.left g_41) (fx_f (j := 4) (Gr.fix w_37) g_41 (by decide +kernel)) g_41 (Or.inr rfl) (by decide +kernel) g_41 (by decide) (by first | exact saf_k (by decide) | (unfold saf; decide))
  have g_157 := Ext.ok E_46 g_41
  refine gwl_X2_countAgain_28 (Gr.fix w_47) g_157  (fun f => hQ (Gr.trS w_47 f)) BIG (Gr.rf (Gr.fix w_47)) h
set_option maxHeartbeats 4000000 in
theorem gw_X2_cut {m0 : MM} {p0 p1 : Int} {rz : Int} {rm : MM} (hF : Fix m0) (g0 : okc m0 p0 3)
  (h : fm_X2_cut p0 p1 m0 = some (rz, rm)) : Gr fW_X2_cut 0 m0 rm := by
  have hQ : Gr fW_X2_cut 0 m0 rm → Gr fW_X2_cut 0 m0 rm := id
  unfold fm_X2_cut at h
  obtain ⟨x_4, e_5, h⟩ := lx_s h
  obtain ⟨g_6, h⟩ := gd_s h
  obtain ⟨x_8, m_9, hc_7, h⟩ := bd_s h
  have w_16 := (gw_X5_cut hF g_6 hc_7)
  have E_14 := Gr.ext w_16
  have w_17 := Gr.tr0 (Gr.rf (W := fW_X2_cut) (e := 0) hF) w_16 (by decide +kernel)
  have g_19 := Ext.ok E_14 g0
  obtain ⟨x_21, m_22, hc_20, h⟩ := bd_s h
  have w_29 := (gw_X2_countAgain (Gr.fix w_17) g_19 hc_20)
  have E_27 := Gr.ext w_29
  have w_30 := Gr.tr0 w_17 w_29 (by decide +kernel)
  cases h
  exact hQ w_30
set_option maxHeartbeats 4000000 in
theorem gwl_J7_fill_53178_5 {P : Prop} {mb : MM} {y1 y3 : Int} {rz : Int} {rm : MM} (hF0 : Fix mb) (hQ : Gr fW_J7_fill_53178 0 mb rm → P) :
  ∀ (n : Nat) {m : MM} {y2 : Int} , Gr fW_J7_fill_53178 0 mb m → fl_J7_fill_53178_5 y1 y3 n y2 m = some (rz, rm) → P := by
  intro n
  induction n with
  | zero => intro m y2 w h; cases h
  | succ n ih0 =>
    intro m y2 w h
    have ih : ∀ mq : MM, Gr fW_J7_fill_53178 0 mb mq → ∀ {z2 : Int}, fl_J7_fill_53178_5 y1 y3 n z2 mq = some (rz, rm) → P := fun mq b => by intros; exact ih0 b ‹_›
    unfold fl_J7_fill_53178_5 at h
    rcases it_s h with ⟨hp_17, h⟩ | ⟨hp_17, h⟩
    · obtain ⟨g_18, h⟩ := gd_s h
      obtain ⟨m_19, e_20, h⟩ := up_s h
      have E_23 := ext_up e_20 (And.left (fx_kF (c := 100) (Gr.fix w) (by decide +kernel))) (And.left g_18)
      have w_24 := Gr.upC (y := (-9)) w e_20 (ext_up e_20 (And.left (fx_kF (c := 100) (Gr.fix w) (by decide +kernel))) (And.left g_18)) (And.left (fx_kF (c := 100) (Gr.fix w) (by decide +kernel))) (fx_a (Gr.fix w) (fx_kF (c := 100) (Gr.fix w) (by decide +kernel)) (And.left g_18) (by decide +kernel)) (Or.inl rfl) (by decide +kernel) (fx_kF (c := 100) (Gr.fix w) (by decide +kernel)) (And.left g_18) (by first | exact saf_k (by decide) | (unfold saf; decide))
      obtain ⟨x_31, e_32, h⟩ := lx_s h
      exact ih m_19 w_24 h
    · cases h
      exact hQ w
set_option maxHeartbeats 4000000 in
theorem gw_J7_fill_53178 {m0 : MM} {p1 : Int} {rz : Int} {rm : MM} (hF : Fix m0)
  (h : fm_J7_fill_53178 p1 m0 = some (rz, rm)) : Gr fW_J7_fill_53178 0 m0 rm := by
  have hQ : Gr fW_J7_fill_53178 0 m0 rm → Gr fW_J7_fill_53178 0 m0 rm := id
  unfold fm_J7_fill_53178 at h
  refine gwl_J7_fill_53178_5 hF  hQ BIG (Gr.rf hF) h
set_option maxHeartbeats 4000000 in
theorem gwl_X8_clear_10 {P : Prop} {mb : MM} {k35 : MM → Option (Int × MM)} {rz : Int} {rm : MM} (hF0 : Fix mb)
  (hk35 : ∀ mq : MM, Gr fW_X8_clear 0 mb mq → k35 mq = some (rz, rm) → P) (hQ : Gr fW_X8_clear 0 mb rm → P) :
  ∀ (n : Nat) {m : MM} {y1 : Int} , Gr fW_X8_clear 0 mb m → fl_X8_clear_10 k35 n y1 m = some (rz, rm) → P := by
  intro n
  induction n with
  | zero => intro m y1 w h; cases h
  | succ n ih0 =>
    intro m y1 w h
    have ih : ∀ mq : MM, Gr fW_X8_clear 0 mb mq → ∀ {z1 : Int}, fl_X8_clear_10 k35 n z1 mq = some (rz, rm) → P := fun mq b => by intros; exact ih0 b ‹_›
    unfold fl_X8_clear_10 at h
    rcases it_s h with ⟨hp_30, h⟩ | ⟨hp_30, h⟩
    · obtain ⟨g_36, h⟩ := gd_s h
      obtain ⟨x_38, e_39, h⟩ := lx_s h
      obtain ⟨g_42, h⟩ := gd_s h
      obtain ⟨x_44, m_45, hc_43, h⟩ := bd_s h
      have w_52 := (gw_X5_cut (Gr.fix w) g_42 hc_43)
      have E_50 := Gr.ext w_52
      have w_53 := Gr.tr0 w w_52 (by decide +kernel)
      obtain ⟨x_60, e_61, h⟩ := lx_s h
      exact ih m_45 w_53 h
    · exact hk35 m w h
set_option maxHeartbeats 4000000 in
theorem gw_X8_clear {m0 : MM} {rz : Int} {rm : MM} (hF : Fix m0)
  (h : fm_X8_clear m0 = some (rz, rm)) : Gr fW_X8_clear 0 m0 rm := by
  have hQ : Gr fW_X8_clear 0 m0 rm → Gr fW_X8_clear 0 m0 rm := id
  unfold fm_X8_clear at h
  obtain ⟨x_7, m_8, hc_6, h⟩ := bd_s h
  have w_15 := (gw_J7_fill_53178 hF hc_6)
  have E_13 := Gr.ext w_15
  have w_16 := Gr.tr0 (Gr.rf (W := fW_X8_clear) (e := 0) hF) w_15 (by decide +kernel)
  refine gwl_X8_clear_10 (Gr.fix w_16) ?_ (fun f => hQ (Gr.trS w_16 f)) BIG (Gr.rf (Gr.fix w_16)) h
  intro m_70 w_73
  intro h
  have E_71 := Gr.ext w_73
  have w_74 := Gr.trS w_16 w_73
  obtain ⟨x_81, m_82, hc_80, h⟩ := bd_s h
  have w_89 := (gw_X5_cut (Gr.fix w_74) (fx_kF (c := 6) (Gr.fix w_74) (by decide +kernel)) hc_80)
  have E_87 := Gr.ext w_89
  have w_90 := Gr.tr0 w_74 w_89 (by decide +kernel)
  obtain ⟨m_94, e_95, h⟩ := up_s h
  have E_98 := ext_up e_95 (And.left (fx_kF (c := 9) (Gr.fix w_90) (by decide +kernel))) (by decide)
  have w_99 := Gr.upC (y := 4) w_90 e_95 (ext_up e_95 (And.left (fx_kF (c := 9) (Gr.fix w_90) (by decide +kernel))) (by decide)) (And.left (fx_kF (c := 9) (Gr.fix w_90) (by decide +kernel))) (fx_f (j := 4) (Gr.fix w_90) (fx_kF (c := 9) (Gr.fix w_90) (by decide +kernel)) (by decide +kernel)) (Or.inr rfl) (by decide +kernel) (fx_kF (c := 9) (Gr.fix w_90) (by decide +kernel)) (by decide) (by first | exact saf_k (by decide) | (unfold saf; decide))
  obtain ⟨m_103, e_104, h⟩ := up_s h
  have E_107 := ext_up e_104 (And.left (fx_kF (c := 9) (Gr.fix w_99) (by decide +kernel))) (by decide)
  have w_108 := Gr.upC (y := 5) w_99 e_104 (ext_up e_104 (And.left (fx_kF (c := 9) (Gr.fix w_99) (by decide +kernel))) (by decide)) (And.left (fx_kF (c := 9) (Gr.fix w_99) (by decide +kernel))) (fx_f (j := 5) (Gr.fix w_99) (fx_kF (c := 9) (Gr.fix w_99) (by decide +kernel)) (by decide +kernel)) (Or.inr rfl) (by decide +kernel) (fx_kF (c := 9) (Gr.fix w_99) (by decide +kernel)) (by decide) (by first | exact saf_k (by decide) | (unfold saf; decide))
  obtain ⟨m_112, e_113, h⟩ := up_s h
  have E_116 := ext_up e_113 (And.left (fx_kF (c := 9) (Gr.fix w_108) (by decide +kernel))) (by decide)
  have w_117 := Gr.upC (y := 6) w_108 e_113 (ext_up e_113 (And.left (fx_kF (c := 9) (Gr.fix w_108) (by decide +kernel))) (by decide)) (And.left (fx_kF (c := 9) (Gr.fix w_108) (by decide +kernel))) (fx_f (j := 6) (Gr.fix w_108) (fx_kF (c := 9) (Gr.fix w_108) (by decide +kernel)) (by decide +kernel)) (Or.inr rfl) (by decide +kernel) (fx_kF (c := 9) (Gr.fix w_108) (by decide +kernel)) (by decide) (by first | exact saf_k (by decide) | (unfold saf; decide))
  obtain ⟨m_121, e_122, h⟩ := up_s h
  have E_125 := ext_up e_122 (And.left (fx_kF (c := 9) (Gr.fix w_117) (by decide +kernel))) (by decide)
  have w_126 := Gr.upC (y := 7) w_117 e_122 (ext_up e_122 (And.left (fx_kF (c := 9) (Gr.fix w_117) (by decide +kernel))) (by decide)) (And.left (fx_kF (c := 9) (Gr.fix w_117) (by decide +kernel))) (fx_f (j := 7) (Gr.fix w_117) (fx_kF (c := 9) (Gr.fix w_117) (by decide +kernel)) (by decide +kernel)) (Or.inr rfl) (by decide +kernel) (fx_kF (c := 9) (Gr.fix w_117) (by decide +kernel)) (by decide) (by first | exact saf_k (by decide) | (unfold saf; decide))
  obtain ⟨m_130, e_131, h⟩ := up_s h
  have E_134 := ext_up e_131 (And.left (fx_kF (c := 9) (Gr.fix w_126) (by decide +kernel))) (by decide)
  have w_135 := Gr.upC (y := 8) w_126 e_131 (ext_up e_131 (And.left (fx_kF (c := 9) (Gr.fix w_126) (by decide +kernel))) (by decide)) (And.left (fx_kF (c := 9) (Gr.fix w_126) (by decide +kernel))) (fx_f (j := 8) (Gr.fix w_126) (fx_kF (c := 9) (Gr.fix w_126) (by decide +kernel)) (by decide +kernel)) (Or.inr rfl) (by decide +kernel) (fx_kF (c := 9) (Gr.fix w_126) (by decide +kernel)) (by decide) (by first | exact saf_k (by decide) | (unfold saf; decide))
  obtain ⟨m_139, e_140, h⟩ := up_s h
  have E_143 := ext_up e_140 (And.left (fx_kF (c := 9) (Gr.fix w_135) (by decide +kernel))) (by decide)
  have w_144 := Gr.upC (y := 9) w_135 e_140 (ext_up e_140 (And.left (fx_kF (c := 9) (Gr.fix w_135) (by decide +kernel))) (by decide)) (And.left (fx_kF (c := 9) (Gr.fix w_135) (by decide +kernel))) (fx_f (j := 9) (Gr.fix w_135) (fx_kF (c := 9) (Gr.fix w_135) (by decide +kernel)) (by decide +kernel)) (Or.inr rfl) (by decide +kernel) (fx_kF (c := 9) (Gr.fix w_135) (by decide +kernel)) (by decide) (by first | exact saf_k (by decide) | (unfold saf; decide))
  obtain ⟨m_148, e_149, h⟩ := up_s h
  have E_152 := ext_up e_149 (And.left (fx_kF (c := 9) (Gr.fix w_144) (by decide +kernel))) (by decide)
  have w_153 := Gr.upC (y := 10) w_144 e_149 (ext_up e_149 (And.left (fx_kF (c := 9) (Gr.fix w_144) (by decide +kernel))) (by decide)) (And.left (fx_kF (c := 9) (Gr.fix w_144) (by decide +kernel))) (fx_f (j := 10) (Gr.fix w_144) (fx_kF (c := 9) (Gr.fix w_144) (by decide +kernel)) (by decide +kernel)) (Or.inr rfl) (by decide +kernel) (fx_kF (c := 9) (Gr.fix w_144) (by decide +kernel)) (by decide) (by first | exact saf_k (by decide) | (unfold saf; decide))
  obtain ⟨m_157, e_158, h⟩ := up_s h
  have E_161 := ext_up e_158 (And.left (fx_kF (c := 9) (Gr.fix w_153) (by decide +kernel))) (by decide)
  have w_162 := Gr.upC (y := 11) w_153 e_158 (ext_up e_158 (And.left (fx_kF (c := 9) (Gr.fix w_153) (by decide +kernel))) (by decide)) (And.left (fx_kF (c := 9) (Gr.fix w_153) (by decide +kernel))) (fx_f (j := 11) (Gr.fix w_153) (fx_kF (c := 9) (Gr.fix w_153) (by decide +kernel)) (by decide +kernel)) (Or.inr rfl) (by decide +kernel) (fx_kF (c := 9) (Gr.fix w_153) (by decide +kernel)) (by decide) (by first | exact saf_k (by decide) | (unfold saf; decide))
  obtain ⟨m_166, e_167, h⟩ := up_s h
  have E_170 := ext_up e_167 (And.left (fx_kF (c := 9) (Gr.fix w_162) (by decide +kernel))) (by decide)
  have w_171 := Gr.upC (y := 12) w_162 e_167 (ext_up e_167 (And.left (fx_kF (c := 9) (Gr.fix w_162) (by decide +kernel))) (by decide)) (And.left (fx_kF (c := 9) (Gr.fix w_162) (by decide +kernel))) (fx_f (j := 12) (Gr.fix w_162) (fx_kF (c := 9) (Gr.fix w_162) (by decide +kernel)) (by decide +kernel)) (Or.inr rfl) (by decide +kernel) (fx_kF (c := 9) (Gr.fix w_162) (by decide +kernel)) (by decide) (by first | exact saf_k (by decide) | (unfold saf; decide))
  obtain ⟨m_175, e_176, h⟩ := up_s h
  have E_179 := ext_up e_176 (And.left (fx_kF (c := 9) (Gr.fix w_171) (by decide +kernel))) (by decide)
  have w_180 := Gr.upC (y := 13) w_171 e_176 (ext_up e_176 (And.left (fx_kF (c := 9) (Gr.fix w_171) (by decide +kernel))) (by decide)) (And.left (fx_kF (c := 9) (Gr.fix w_171) (by decide +kernel))) (fx_f (j := 13) (Gr.fix w_171) (fx_kF (c := 9) (Gr.fix w_171) (by decide +kernel)) (by decide +kernel)) (Or.inr rfl) (by decide +kernel) (fx_kF (c := 9) (Gr.fix w_171) (by decide +kernel)) (by decide) (by first | exact saf_k (by decide) | (unfold saf; decide))
  cases h
  exact hQ w_180
set_option maxHeartbeats 4000000 in
theorem gwj_X4_load_63 {P : Prop} {m : MM} {rz : Int} {rm : MM} (hF : Fix m) (hQ : Gr fW_X4_load 0 m rm → P)
  (h : fj_X4_load_63 m = some (rz, rm)) : P := by
  unfold fj_X4_load_63 at h
  obtain ⟨m_73, e_74, h⟩ := up_s h
  have E_77 := ext_up e_74 (And.left (fx_kF (c := 5) hF (by decide +kernel))) (by decide)
  have w_78 := Gr.upC (y := 7) (Gr.rf (W := fW_X4_load) (e := 0) hF) e_74 (ext_up e_74 (And.left (fx_kF (c := 5) hF (by decide +kernel))) (by decide)) (And.left (fx_kF (c := 5) hF (by decide +kernel))) (fx_f (j := 7) hF (fx_kF (c := 5) hF (by decide +kernel)) (by decide +kernel)) (Or.inr rfl) (by decide +kernel) (fx_kF (c := 5) hF (by decide +kernel)) (by decide) (by first | exact saf_k (by decide) | (unfold saf; decide))
  obtain ⟨x_86, m_87, hc_85, h⟩ := bd_s h
  have w_94 := (gw_X2_cut (Gr.fix w_78) (fx_kF (c := 3) (Gr.fix w_78) (by decide +kernel)) hc_85)
  have E_92 := Gr.ext w_94
  have w_95 := Gr.tr0 w_78 w_94 (by decide +kernel)
  obtain ⟨m_99, e_100, h⟩ := up_s h
  have E_103 := ext_up e_100 (And.left (fx_kF (c := 5) (Gr.fix w_95) (by decide +kernel))) (by decide)
  have w_104 := Gr.upC (y := 8) w_95 e_100 (ext_up e_100 (And.left (fx_kF (c := 5) (Gr.fix w_95) (by decide +kernel))) (by decide)) (And.left (fx_kF (c := 5) (Gr.fix w_95) (by decide +kernel))) (fx_f (j := 8) (Gr.fix w_95) (fx_kF (c := 5) (Gr.fix w_95) (by decide +kernel)) (by decide +kernel)) (Or.inr rfl) (by decide +kernel) (fx_kF (c := 5) (Gr.fix w_95) (by decide +kernel)) (by decide) (by first | exact saf_k (by decide) | (unfold saf; decide))
  obtain ⟨m_108, e_109, h⟩ := up_s h
  have E_112 := ext_up e_109 (And.left (fx_kF (c := 5) (Gr.fix w_104) (by decide +kernel))) (by decide)
  have w_113 := Gr.upC (y := 9) w_104 e_109 (ext_up e_109 (And.left (fx_kF (c := 5) (Gr.fix w_104) (by decide +kernel))) (by decide)) (And.left (fx_kF (c := 5) (Gr.fix w_104) (by decide +kernel))) (fx_f (j := 9) (Gr.fix w_104) (fx_kF (c := 5) (Gr.fix w_104) (by decide +kernel)) (by decide +kernel)) (Or.inr rfl) (by decide +kernel) (fx_kF (c := 5) (Gr.fix w_104) (by decide +kernel)) (by decide) (by first | exact saf_k (by decide) | (unfold saf; decide))
  obtain ⟨m_117, e_118, h⟩ := up_s h
  have E_121 := ext_up e_118 (And.left (fx_kF (c := 5) (Gr.fix w_113) (by decide +kernel))) (by decide)
  have w_122 := Gr.upC (y := 10) w_113 e_118 (ext_up e_118 (And.left (fx_kF (c := 5) (Gr.fix w_113) (by decide +kernel))) (by decide)) (And.left (fx_kF (c := 5) (Gr.fix w_113) (by decide +kernel))) (fx_f (j := 10) (Gr.fix w_113) (fx_kF (c := 5) (Gr.fix w_113) (by decide +kernel)) (by decide +kernel)) (Or.inr rfl) (by decide +kernel) (fx_kF (c := 5) (Gr.fix w_113) (by decide +kernel)) (by decide) (by first | exact saf_k (by decide) | (unfold saf; decide))
  obtain ⟨m_126, e_127, h⟩ := up_s h
  have E_130 := ext_up e_127 (And.left (fx_kF (c := 5) (Gr.fix w_122) (by decide +kernel))) (by decide)
  have w_131 := Gr.upC (y := 11) w_122 e_127 (ext_up e_127 (And.left (fx_kF (c := 5) (Gr.fix w_122) (by decide +kernel))) (by decide)) (And.left (fx_kF (c := 5) (Gr.fix w_122) (by decide +kernel))) (fx_f (j := 11) (Gr.fix w_122) (fx_kF (c := 5) (Gr.fix w_122) (by decide +kernel)) (by decide +kernel)) (Or.inr rfl) (by decide +kernel) (fx_kF (c := 5) (Gr.fix w_122) (by decide +kernel)) (by decide) (by first | exact saf_k (by decide) | (unfold saf; decide))
  cases h
  exact hQ w_131
set_option maxHeartbeats 4000000 in
theorem gwj_X4_load_56 {P : Prop} {m : MM} {rz : Int} {rm : MM} (hF : Fix m) (hQ : Gr fW_X4_load 0 m rm → P)
  (h : fj_X4_load_56 m = some (rz, rm)) : P := by
  unfold fj_X4_load_56 at h
  obtain ⟨x_60, m_61, hc_59, h⟩ := bd_s h
  have w_68 := (gw_X8_clear hF hc_59)
  have E_66 := Gr.ext w_68
  have w_69 := Gr.tr0 (Gr.rf (W := fW_X4_load) (e := 0) hF) w_68 (by decide +kernel)
  exact gwj_X4_load_63 (Gr.fix w_69) (fun f => hQ (Gr.trS w_69 f)) h
set_option maxHeartbeats 4000000 in
theorem gwj_X4_load_32 {P : Prop} {m : MM} {y1 y3 s0 : Int} {rz : Int} {rm : MM} (hF : Fix m) (hQ : Gr fW_X4_load 0 m rm → P)
  (h : fj_X4_load_32 y1 y3 s0 m = some (rz, rm)) : P := by
  unfold fj_X4_load_32 at h
  obtain ⟨m_33, e_34, h⟩ := up_s h
  have E_37 := ext_up e_34 (And.left (fx_kF (c := 5) hF (by decide +kernel))) (by decide)
  have w_38 := Gr.upC (y := 5) (Gr.rf (W := fW_X4_load) (e := 0) hF) e_34 (ext_up e_34 (And.left (fx_kF (c := 5) hF (by decide +kernel))) (by decide)) (And.left (fx_kF (c := 5) hF (by decide +kernel))) (fx_f (j := 5) hF (fx_kF (c := 5) hF (by decide +kernel)) (by decide +kernel)) (Or.inr rfl) (by decide +kernel) (fx_kF (c := 5) hF (by decide +kernel)) (by decide) (by first | exact saf_k (by decide) | (unfold saf; decide))
  obtain ⟨g_42, h⟩ := gd_s h
  obtain ⟨x_44, e_45, h⟩ := lx_s h
  obtain ⟨m_46, e_47, h⟩ := up_s h
  have E_50 := ext_up e_47 (And.left (fx_kF (c := 5) (Gr.fix w_38) (by decide +kernel))) (by decide)
  have w_51 := Gr.upC (y := 6) w_38 e_47 (ext_up e_47 (And.left (fx_kF (c := 5) (Gr.fix w_38) (by decide +kernel))) (by decide)) (And.left (fx_kF (c := 5) (Gr.fix w_38) (by decide +kernel))) (fx_f (j := 6) (Gr.fix w_38) (fx_kF (c := 5) (Gr.fix w_38) (by decide +kernel)) (by decide +kernel)) (Or.inr rfl) (by decide +kernel) (fx_kF (c := 5) (Gr.fix w_38) (by decide +kernel)) (by decide) (by first | exact saf_k (by decide) | (unfold saf; decide))
  rcases it_s h with ⟨hp_55, h⟩ | ⟨hp_55, h⟩
  · obtain ⟨x_136, e_137, h⟩ := lx_s h
    obtain ⟨g_139, h⟩ := gd_s h
    have g_140 := Ext.ok E_50 g_42
    rcases it_s h with ⟨hp_138, h⟩ | ⟨hp_138, h⟩
    · exact gwj_X4_load_63 (Gr.fix w_51) (fun f => hQ (Gr.trS w_51 f)) h
    · exact gwj_X4_load_56 (Gr.fix w_51) (fun f => hQ (Gr.trS w_51 f)) h
  · exact gwj_X4_load_56 (Gr.fix w_51) (fun f => hQ (Gr.trS w_51 f)) h
set_option maxHeartbeats 4000000 in
theorem gw_X4_load {m0 : MM} {p1 p2 p3 : Int} {rz : Int} {rm : MM} (hF : Fix m0)
  (h : fm_X4_load p1 p2 p3 m0 = some (rz, rm)) : Gr fW_X4_load 0 m0 rm := by
  have hQ : Gr fW_X4_load 0 m0 rm → Gr fW_X4_load 0 m0 rm := id
  unfold fm_X4_load at h
  obtain ⟨g_3, h⟩ := gd_s h
  obtain ⟨x_5, e_6, h⟩ := lx_s h
  obtain ⟨m_7, e_8, h⟩ := up_s h
  have E_11 := ext_up e_8 (And.left (fx_kF (c := 5) hF (by decide +kernel))) (by decide)
  have w_12 := Gr.upC (y := 2) (Gr.rf (W := fW_X4_load) (e := 0) hF) e_8 (ext_up e_8 (And.left (fx_kF (c := 5) hF (by decide +kernel))) (by decide)) (And.left (fx_kF (c := 5) hF (by decide +kernel))) (fx_f (j := 2) hF (fx_kF (c := 5) hF (by decide +kernel)) (by decide +kernel)) (Or.inr rfl) (by decide +kernel) (fx_kF (c := 5) hF (by decide +kernel)) (by decide) (by first | exact saf_k (by decide) | (unfold saf; decide))
  obtain ⟨m_14, e_15, h⟩ := up_s h
  have E_18 := ext_up e_15 (And.left (fx_kF (c := 5) (Gr.fix w_12) (by decide +kernel))) (by decide)
  have w_19 := Gr.upC (y := 3) w_12 e_15 (ext_up e_15 (And.left (fx_kF (c := 5) (Gr.fix w_12) (by decide +kernel))) (by decide)) (And.left (fx_kF (c := 5) (Gr.fix w_12) (by decide +kernel))) (fx_f (j := 3) (Gr.fix w_12) (fx_kF (c := 5) (Gr.fix w_12) (by decide +kernel)) (by decide +kernel)) (Or.inr rfl) (by decide +kernel) (fx_kF (c := 5) (Gr.fix w_12) (by decide +kernel)) (by decide) (by first | exact saf_k (by decide) | (unfold saf; decide))
  obtain ⟨m_21, e_22, h⟩ := up_s h
  have E_25 := ext_up e_22 (And.left (fx_kF (c := 5) (Gr.fix w_19) (by decide +kernel))) (by decide)
  have w_26 := Gr.upC (y := 4) w_19 e_22 (ext_up e_22 (And.left (fx_kF (c := 5) (Gr.fix w_19) (by decide +kernel))) (by decide)) (And.left (fx_kF (c := 5) (Gr.fix w_19) (by decide +kernel))) (fx_f (j := 4) (Gr.fix w_19) (fx_kF (c := 5) (Gr.fix w_19) (by decide +kernel)) (by decide +kernel)) (Or.inr rfl) (by decide +kernel) (fx_kF (c := 5) (Gr.fix w_19) (by decide +kernel)) (by decide) (by first | exact saf_k (by decide) | (unfold saf; decide))
  rcases it_s h with ⟨hp_30, h⟩ | ⟨hp_30, h⟩
  · have g_143 := Ext.ok (Ext.tr (Ext.tr E_11 E_18) E_25) g_3
    obtain ⟨x_145, e_146, h⟩ := lx_s h
    exact gwj_X4_load_32 (Gr.fix w_26) (fun f => hQ (Gr.trS w_26 f)) h
  · exact gwj_X4_load_32 (Gr.fix w_26) (fun f => hQ (Gr.trS w_26 f)) h
set_option maxHeartbeats 4000000 in
theorem gw_X8_set {m0 : MM} {p1 p2 : Int} {rz : Int} {rm : MM} (hF : Fix m0)
  (h : fm_X8_set p1 p2 m0 = some (rz, rm)) : Gr fW_X8_set 0 m0 rm := by
  have hQ : Gr fW_X8_set 0 m0 rm → Gr fW_X8_set 0 m0 rm := id
  unfold fm_X8_set at h
  rcases it_s h with ⟨hp_1, h⟩ | ⟨hp_1, h⟩
  · cases h
    exact hQ (Gr.rf (W := fW_X8_set) (e := 0) hF)
  · rcases it_s h with ⟨hp_8, h⟩ | ⟨hp_8, h⟩
    · obtain ⟨g_12, h⟩ := gd_s h
      obtain ⟨m_13, e_14, h⟩ := up_s h
      have E_17 := ext_up e_14 (And.left (fx_kF (c := 100) hF (by decide +kernel))) (And.left g_12)
      have w_18 := Gr.upC (y := (-9)) (Gr.rf (W := fW_X8_set) (e := 0) hF) e_14 (ext_up e_14 (And.left (fx_kF (c := 100) hF (by decide +kernel))) (And.left g_12)) (And.left (fx_kF (c := 100) hF (by decide +kernel))) (fx_a hF (fx_kF (c := 100) hF (by decide +kernel)) (And.left g_12) (by decide +kernel)) (Or.inl rfl) (by decide +kernel) (fx_kF (c := 100) hF (by decide +kernel)) (And.left g_12) (by first | exact saf_k (by decide) | (unfold saf; decide))
      cases h
      exact hQ w_18
    · cases h
      exact hQ (Gr.rf (W := fW_X8_set) (e := 0) hF)
set_option maxHeartbeats 4000000 in
theorem gw_X8_beginBranch {m0 : MM} {p1 p2 : Int} {rz : Int} {rm : MM} (hF : Fix m0)
  (h : fm_X8_beginBranch p1 p2 m0 = some (rz, rm)) : Gr fW_X8_beginBranch 0 m0 rm := by
  have hQ : Gr fW_X8_beginBranch 0 m0 rm → Gr fW_X8_beginBranch 0 m0 rm := id
  unfold fm_X8_beginBranch at h
  obtain ⟨x_4, e_5, h⟩ := lx_s h
  obtain ⟨x_15, e_16, h⟩ := lx_s h
  rcases it_s h with ⟨hp_23, h⟩ | ⟨hp_23, h⟩
  · obtain ⟨g_32, h⟩ := gd_s h
    obtain ⟨x_34, e_35, h⟩ := lx_s h
    obtain ⟨g_36, h⟩ := gd_s h
    obtain ⟨x_38, m_39, hc_37, h⟩ := bd_s h
    have w_46 := (gw_X1_start hF g_36 hc_37)
    have E_44 := Gr.ext w_46
    have w_47 := Gr.tr0 (Gr.rf (W := fW_X8_beginBranch) (e := 0) hF) w_46 (by decide +kernel)
    obtain ⟨x_52, e_53, h⟩ := lx_s h
    obtain ⟨m_58, e_59, h⟩ := up_s h
    have E_62 := ext_up e_59 (And.left (fx_kF (c := 9) (Gr.fix w_47) (by decide +kernel))) (by decide)
    have w_63 := Gr.upC (y := 5) w_47 e_59 (ext_up e_59 (And.left (fx_kF (c := 9) (Gr.fix w_47) (by decide +kernel))) (by decide)) (And.left (fx_kF (c := 9) (Gr.fix w_47) (by decide +kernel))) (fx_f (j := 5) (Gr.fix w_47) (fx_kF (c := 9) (Gr.fix w_47) (by decide +kernel)) (by decide +kernel)) (Or.inr rfl) (by decide +kernel) (fx_kF (c := 9) (Gr.fix w_47) (by decide +kernel)) (by decide) (by first | exact saf_k (by decide) | (unfold saf; decide))
    obtain ⟨x_68, e_69, h⟩ := lx_s h
    obtain ⟨m_74, e_75, h⟩ := up_s h
    have E_78 := ext_up e_75 (And.left (fx_kF (c := 9) (Gr.fix w_63) (by decide +kernel))) (by decide)
    have w_79 := Gr.upC (y := 6) w_63 e_75 (ext_up e_75 (And.left (fx_kF (c := 9) (Gr.fix w_63) (by decide +kernel))) (by decide)) (And.left (fx_kF (c := 9) (Gr.fix w_63) (by decide +kernel))) (fx_f (j := 6) (Gr.fix w_63) (fx_kF (c := 9) (Gr.fix w_63) (by decide +kernel)) (by decide +kernel)) (Or.inr rfl) (by decide +kernel) (fx_kF (c := 9) (Gr.fix w_63) (by decide +kernel)) (by decide) (by first | exact saf_k (by decide) | (unfold saf; decide))
    cases h
    exact hQ w_79
  · cases h
    exact hQ (Gr.rf (W := fW_X8_beginBranch) (e := 0) hF)
set_option maxHeartbeats 4000000 in
theorem gw_X4_getStuck {m0 : MM} {p1 : Int} {rz : Int} {rm : MM} (hF : Fix m0)
  (h : fm_X4_getStuck p1 m0 = some (rz, rm)) : Gr fW_X4_getStuck 0 m0 rm := by
  have hQ : Gr fW_X4_getStuck 0 m0 rm → Gr fW_X4_getStuck 0 m0 rm := id
  unfold fm_X4_getStuck at h
  obtain ⟨m_3, e_4, h⟩ := up_s h
  have E_7 := ext_up e_4 (And.left (fx_kF (c := 5) hF (by decide +kernel))) (by decide)
  have w_8 := Gr.upC (y := 10) (Gr.rf (W := fW_X4_getStuck) (e := 0) hF) e_4 (ext_up e_4 (And.left (fx_kF (c := 5) hF (by decide +kernel))) (by decide)) (And.left (fx_kF (c := 5) hF (by decide +kernel))) (fx_f (j := 10) hF (fx_kF (c := 5) hF (by decide +kernel)) (by decide +kernel)) (Or.inr rfl) (by decide +kernel) (fx_kF (c := 5) hF (by decide +kernel)) (by decide) (by first | exact saf_k (by decide) | (unfold saf; decide))
  obtain ⟨m_10, e_11, h⟩ := up_s h
  have E_14 := ext_up e_11 (And.left (fx_kF (c := 5) (Gr.fix w_8) (by decide +kernel))) (by decide)
  have w_15 := Gr.upC (y := 11) w_8 e_11 (ext_up e_11 (And.left (fx_kF (c := 5) (Gr.fix w_8) (by decide +kernel))) (by decide)) (And.left (fx_kF (c := 5) (Gr.fix w_8) (by decide +kernel))) (fx_f (j := 11) (Gr.fix w_8) (fx_kF (c := 5) (Gr.fix w_8) (by decide +kernel)) (by decide +kernel)) (Or.inr rfl) (by decide +kernel) (fx_kF (c := 5) (Gr.fix w_8) (by decide +kernel)) (by decide) (by first | exact saf_k (by decide) | (unfold saf; decide))
  cases h
  exact hQ w_15
set_option maxHeartbeats 4000000 in
theorem gwj_X4_command_65 {P : Prop} {m : MM} {y4 : Int} {rz : Int} {rm : MM} (hF : Fix m) (hQ : Gr fW_X4_command 0 m rm → P)
  (h : fj_X4_command_65 y4 m = some (rz, rm)) : P := by
  unfold fj_X4_command_65 at h
  obtain ⟨m_162, e_163, h⟩ := up_s h
  have E_166 := ext_up e_163 (And.left (fx_kF (c := 9) hF (by decide +kernel))) (by decide)
  have w_167 := Gr.upC (y := 12) (Gr.rf (W := fW_X4_command) (e := 0) hF) e_163 (ext_up e_163 (And.left (fx_kF (c := 9) hF (by decide +kernel))) (by decide)) (And.left (fx_kF (c := 9) hF (by decide +kernel))) (fx_f (j := 12) hF (fx_kF (c := 9) hF (by decide +kernel)) (by decide +kernel)) (Or.inr rfl) (by decide +kernel) (fx_kF (c := 9) hF (by decide +kernel)) (by decide) (by first | exact saf_k (by decide) | (unfold saf; decide))
  cases h
  exact hQ w_167
set_option maxHeartbeats 4000000 in
theorem gw_X4_command {m0 : MM} {p1 p2 p3 : Int} {rz : Int} {rm : MM} (hF : Fix m0)
  (h : fm_X4_command p1 p2 p3 m0 = some (rz, rm)) : Gr fW_X4_command 0 m0 rm := by
  have hQ : Gr fW_X4_command 0 m0 rm → Gr fW_X4_command 0 m0 rm := id
  unfold fm_X4_command at h
  obtain ⟨x_4, e_5, h⟩ := lx_s h
  obtain ⟨x_12, e_13, h⟩ := lx_s h
  obtain ⟨g_14, h⟩ := gd_s h
  obtain ⟨x_16, hc_15, h⟩ := bp_s h
  obtain ⟨m_34, e_35, h⟩ := up_s h
  have E_38 := ext_up e_35 (And.left (fx_kF (c := 9) hF (by decide +kernel))) (by decide)
  have w_39 := Gr.upC (y := 12) (Gr.rf (W := fW_X4_command) (e := 0) hF) e_35 (ext_up e_35 (And.left (fx_kF (c := 9) hF (by decide +kernel))) (by decide)) (And.left (fx_kF (c := 9) hF (by decide +kernel))) (fx_f (j := 12) hF (fx_kF (c := 9) hF (by decide +kernel)) (by decide +kernel)) (Or.inr rfl) (by decide +kernel) (fx_kF (c := 9) hF (by decide +kernel)) (by decide) (by first | exact saf_k (by decide) | (unfold saf; decide))
  obtain ⟨x_42, hc_41, h⟩ := bp_s h
  rcases it_s h with ⟨hp_50, h⟩ | ⟨hp_50, h⟩
  · obtain ⟨x_150, e_151, h⟩ := lx_s h
    rcases it_s h with ⟨hp_154, h⟩ | ⟨hp_154, h⟩
    · exact gwj_X4_command_65 (Gr.fix w_39) (fun f => hQ (Gr.trS w_39 f)) h
    · obtain ⟨x_172, e_173, h⟩ := lx_s h
      obtain ⟨g_174, h⟩ := gd_s h
      obtain ⟨x_176, hc_175, h⟩ := bp_s h
      rcases it_s h with ⟨hp_184, h⟩ | ⟨hp_184, h⟩
      · obtain ⟨x_186, m_187, hc_185, h⟩ := bd_s h
        have w_194 := (gw_X4_getStuck (Gr.fix w_39) hc_185)
        have E_192 := Gr.ext w_194
        have w_195 := Gr.tr0 w_39 w_194 (by decide +kernel)
        cases h
        exact hQ w_195
      · exact gwj_X4_command_65 (Gr.fix w_39) (fun f => hQ (Gr.trS w_39 f)) h
  · obtain ⟨x_57, e_58, h⟩ := lx_s h
    obtain ⟨x_62, e_63, h⟩ := lx_s h
    obtain ⟨g_66, h⟩ := gd_s h
    obtain ⟨x_68, e_69, h⟩ := lx_s h
    rcases it_s h with ⟨hp_70, h⟩ | ⟨hp_70, h⟩
    · obtain ⟨x_125, hc_124, h⟩ := bp_s h
      obtain ⟨x_134, m_135, hc_133, h⟩ := bd_s h
      have w_142 := (gw_X4_getStuck (Gr.fix w_39) hc_133)
      have E_140 := Gr.ext w_142
      have w_143 := Gr.tr0 w_39 w_142 (by decide +kernel)
      cases h
      exact hQ w_143
    · obtain ⟨x_79, m_80, hc_78, h⟩ := bd_s h
      have w_87 := (gw_X2_put (Gr.fix w_39) (fx_kF (c := 3) (Gr.fix w_39) (by decide +kernel)) hc_78)
      have E_85 := Gr.ext w_87
      have w_88 := Gr.tr0 w_39 w_87 (by decide +kernel)
      obtain ⟨x_93, e_94, h⟩ := lx_s h
      obtain ⟨g_97, h⟩ := gd_s h
      obtain ⟨x_99, e_100, h⟩ := lx_s h
      obtain ⟨x_107, e_108, h⟩ := lx_s h
      cases h
      exact hQ w_88
end GW01
