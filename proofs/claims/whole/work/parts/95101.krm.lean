/-! THE ROOM: how many objects there are: what each method makes (written by wip/whole/gen/gen951.py), 01. -/
section KW01
set_option maxHeartbeats 4000000 in
theorem kw_X0_init {m0 : MM} {p0 p1 p2 p3 p4 p5 : Int} {rz : Int} {rm : MM} (hF : Fix m0) (g0 : okc m0 p0 1)
  (h : fm_X0_init p0 p1 p2 p3 p4 p5 m0 = some (rz, rm)) : Kr fW_X0_init p0 0 m0 rm := by
  have hQ : Kr fW_X0_init p0 0 m0 rm → Kr fW_X0_init p0 0 m0 rm := id
  unfold fm_X0_init at h
  obtain ⟨m_3, e_4, h⟩ := up_s h
  have E_7 := ext_up e_4 (And.left g0) (by decide)
  have w_8 := Kr.upE (Kr.rf (W := fW_X0_init) (e := p0) hF) e_4 (ext_up e_4 (And.left g0) (by decide)) (And.left g0) (fx_f (j := 5) hF g0 (by decide +kernel)) g0 (by decide) (by first | exact Or.inl (by decide) | exact Or.inr (by decide))
  have g_12 := Ext.ok E_7 g0
  obtain ⟨m_13, e_14, h⟩ := up_s h
  have E_17 := ext_up e_14 (And.left g_12) (by decide)
  have w_18 := Kr.upE w_8 e_14 (ext_up e_14 (And.left g_12) (by decide)) (And.left g_12) (fx_f (j := 6) (Kr.fix w_8) g_12 (by decide +kernel)) g_12 (by decide) (by first | exact Or.inl (by decide) | exact Or.inr (by decide))
  have g_22 := Ext.ok E_17 g_12
  obtain ⟨m_23, e_24, h⟩ := up_s h
  have E_27 := ext_up e_24 (And.left g_22) (by decide)
  have w_28 := Kr.upE w_18 e_24 (ext_up e_24 (And.left g_22) (by decide)) (And.left g_22) (fx_f (j := 7) (Kr.fix w_18) g_22 (by decide +kernel)) g_22 (by decide) (by first | exact Or.inl (by decide) | exact Or.inr (by decide))
  have g_32 := Ext.ok E_27 g_22
  obtain ⟨m_33, e_34, h⟩ := up_s h
  have E_37 := ext_up e_34 (And.left g_32) (by decide)
  have w_38 := Kr.upE w_28 e_34 (ext_up e_34 (And.left g_32) (by decide)) (And.left g_32) (fx_f (j := 8) (Kr.fix w_28) g_32 (by decide +kernel)) g_32 (by decide) (by first | exact Or.inl (by decide) | exact Or.inr (by decide))
  have g_42 := Ext.ok E_37 g_32
  obtain ⟨m_43, e_44, h⟩ := up_s h
  have E_47 := ext_up e_44 (And.left g_42) (by decide)
  have w_48 := Kr.upE w_38 e_44 (ext_up e_44 (And.left g_42) (by decide)) (And.left g_42) (fx_f (j := 9) (Kr.fix w_38) g_42 (by decide +kernel)) g_42 (by decide) (by first | exact Or.inl (by decide) | exact Or.inr (by decide))
  have g_52 := Ext.ok E_47 g_42
  obtain ⟨m_53, e_54, h⟩ := up_s h
  have E_57 := ext_up e_54 (And.left g_52) (by decide)
  have w_58 := Kr.upE w_48 e_54 (ext_up e_54 (And.left g_52) (by decide)) (And.left g_52) (fx_f (j := 10) (Kr.fix w_48) g_52 (by decide +kernel)) g_52 (by decide) (by first | exact Or.inl (by decide) | exact Or.inr (by decide))
  have g_60 := Ext.ok E_57 g_52
  obtain ⟨m_61, e_62, h⟩ := up_s h
  have E_65 := ext_up e_62 (And.left g_60) (by decide)
  have w_66 := Kr.upE w_58 e_62 (ext_up e_62 (And.left g_60) (by decide)) (And.left g_60) (fx_f (j := 0) (Kr.fix w_58) g_60 (by decide +kernel)) g_60 (by decide) (by first | exact Or.inl (by decide) | exact Or.inr (by decide))
  have g_68 := Ext.ok E_65 g_60
  obtain ⟨m_69, e_70, h⟩ := up_s h
  have E_73 := ext_up e_70 (And.left g_68) (by decide)
  have w_74 := Kr.upE w_66 e_70 (ext_up e_70 (And.left g_68) (by decide)) (And.left g_68) (fx_f (j := 1) (Kr.fix w_66) g_68 (by decide +kernel)) g_68 (by decide) (by first | exact Or.inl (by decide) | exact Or.inr (by decide))
  have g_76 := Ext.ok E_73 g_68
  obtain ⟨m_77, e_78, h⟩ := up_s h
  have E_81 := ext_up e_78 (And.left g_76) (by decide)
  have w_82 := Kr.upE w_74 e_78 (ext_up e_78 (And.left g_76) (by decide)) (And.left g_76) (fx_f (j := 2) (Kr.fix w_74) g_76 (by decide +kernel)) g_76 (by decide) (by first | exact Or.inl (by decide) | exact Or.inr (by decide))
  have g_84 := Ext.ok E_81 g_76
  obtain ⟨m_85, e_86, h⟩ := up_s h
  have E_89 := ext_up e_86 (And.left g_84) (by decide)
  have w_90 := Kr.upE w_82 e_86 (ext_up e_86 (And.left g_84) (by decide)) (And.left g_84) (fx_f (j := 3) (Kr.fix w_82) g_84 (by decide +kernel)) g_84 (by decide) (by first | exact Or.inl (by decide) | exact Or.inr (by decide))
  have g_92 := Ext.ok E_89 g_84
  obtain ⟨m_93, e_94, h⟩ := up_s h
  have E_97 := ext_up e_94 (And.left g_92) (by decide)
  have w_98 := Kr.upE w_90 e_94 (ext_up e_94 (And.left g_92) (by decide)) (And.left g_92) (fx_f (j := 4) (Kr.fix w_90) g_92 (by decide +kernel)) g_92 (by decide) (by first | exact Or.inl (by decide) | exact Or.inr (by decide))
  cases h
  exact hQ w_98
set_option maxHeartbeats 4000000 in
theorem kw_X0_beTaken {m0 : MM} {p0 p1 : Int} {rz : Int} {rm : MM} (hF : Fix m0) (g0 : okc m0 p0 1)
  (h : fm_X0_beTaken p0 p1 m0 = some (rz, rm)) : Kr fW_X0_beTaken 0 0 m0 rm := by
  have hQ : Kr fW_X0_beTaken 0 0 m0 rm → Kr fW_X0_beTaken 0 0 m0 rm := id
  unfold fm_X0_beTaken at h
  obtain ⟨m_3, e_4, h⟩ := up_s h
  have E_7 := ext_up e_4 (And.left g0) (by decide)
  have w_8 := Kr.upK (y := 5) (Kr.rf (W := fW_X0_beTaken) (e := 0) hF) e_4 (ext_up e_4 (And.left g0) (by decide)) (And.left g0) (fx_f (j := 5) hF g0 (by decide +kernel)) g0 (Or.inr rfl) (by decide +kernel) g0 (by decide) (by first | exact Or.inl (by decide) | exact Or.inr (by decide))
  have g_12 := Ext.ok E_7 g0
  obtain ⟨x_14, e_15, h⟩ := lx_s h
  obtain ⟨m_20, e_21, h⟩ := up_s h
  have E_24 := ext_up e_21 (And.left g_12) (by decide)
  have w_25 := Kr.upK (y := 6) w_8 e_21 (ext_up e_21 (And.left g_12) (by decide)) (And.left g_12) (fx_f (j := 6) (Kr.fix w_8) g_12 (by decide +kernel)) g_12 (Or.inr rfl) (by decide +kernel) g_12 (by decide) (by first | exact Or.inl (by decide) | exact Or.inr (by decide))
  have g_27 := Ext.ok E_24 g_12
  obtain ⟨m_28, e_29, h⟩ := up_s h
  have E_32 := ext_up e_29 (And.left g_27) (by decide)
  have w_33 := Kr.upK (y := 8) w_25 e_29 (ext_up e_29 (And.left g_27) (by decide)) (And.left g_27) (fx_f (j := 8) (Kr.fix w_25) g_27 (by decide +kernel)) g_27 (Or.inr rfl) (by decide +kernel) g_27 (by decide) (by first | exact Or.inl (by decide) | exact Or.inr (by decide))
  have g_35 := Ext.ok E_32 g_27
  obtain ⟨m_36, e_37, h⟩ := up_s h
  have E_40 := ext_up e_37 (And.left g_35) (by decide)
  have w_41 := Kr.upK (y := 9) w_33 e_37 (ext_up e_37 (And.left g_35) (by decide)) (And.left g_35) (fx_f (j := 9) (Kr.fix w_33) g_35 (by decide +kernel)) g_35 (Or.inr rfl) (by decide +kernel) g_35 (by decide) (by first | exact Or.inl (by decide) | exact Or.inr (by decide))
  cases h
  exact hQ w_41
set_option maxHeartbeats 4000000 in
theorem kw_X1_start {m0 : MM} {p0 p1 p2 p3 : Int} {rz : Int} {rm : MM} (hF : Fix m0) (g0 : okc m0 p0 2)
  (h : fm_X1_start p0 p1 p2 p3 m0 = some (rz, rm)) : Kr fW_X1_start 0 0 m0 rm := by
  have hQ : Kr fW_X1_start 0 0 m0 rm → Kr fW_X1_start 0 0 m0 rm := id
  unfold fm_X1_start at h
  obtain ⟨m_1, e_2, h⟩ := up_s h
  have E_5 := ext_up e_2 (And.left g0) (by decide)
  have w_6 := Kr.upK (y := 0) (Kr.rf (W := fW_X1_start) (e := 0) hF) e_2 (ext_up e_2 (And.left g0) (by decide)) (And.left g0) (fx_f (j := 0) hF g0 (by decide +kernel)) g0 (Or.inr rfl) (by decide +kernel) g0 (by decide) (by first | exact Or.inl (by decide) | exact Or.inr (by decide))
  have g_8 := Ext.ok E_5 g0
  obtain ⟨m_9, e_10, h⟩ := up_s h
  have E_13 := ext_up e_10 (And.left g_8) (by decide)
  have w_14 := Kr.upK (y := 1) w_6 e_10 (ext_up e_10 (And.left g_8) (by decide)) (And.left g_8) (fx_f (j := 1) (Kr.fix w_6) g_8 (by decide +kernel)) g_8 (Or.inr rfl) (by decide +kernel) g_8 (by decide) (by first | exact Or.inl (by decide) | exact Or.inr (by decide))
  have g_16 := Ext.ok E_13 g_8
  obtain ⟨m_17, e_18, h⟩ := up_s h
  have E_21 := ext_up e_18 (And.left g_16) (by decide)
  have w_22 := Kr.upK (y := 2) w_14 e_18 (ext_up e_18 (And.left g_16) (by decide)) (And.left g_16) (fx_f (j := 2) (Kr.fix w_14) g_16 (by decide +kernel)) g_16 (Or.inr rfl) (by decide +kernel) g_16 (by decide) (by first | exact Or.inl (by decide) | exact Or.inr (by decide))
  have g_26 := Ext.ok E_21 g_16
  obtain ⟨m_27, e_28, h⟩ := up_s h
  have E_31 := ext_up e_28 (And.left g_26) (by decide)
  have w_32 := Kr.upK (y := 3) w_22 e_28 (ext_up e_28 (And.left g_26) (by decide)) (And.left g_26) (fx_f (j := 3) (Kr.fix w_22) g_26 (by decide +kernel)) g_26 (Or.inr rfl) (by decide +kernel) g_26 (by decide) (by first | exact Or.inl (by decide) | exact Or.inr (by decide))
  have g_34 := Ext.ok E_31 g_26
  obtain ⟨m_35, e_36, h⟩ := up_s h
  have E_39 := ext_up e_36 (And.left g_34) (by decide)
  have w_40 := Kr.upK (y := 4) w_32 e_36 (ext_up e_36 (And.left g_34) (by decide)) (And.left g_34) (fx_f (j := 4) (Kr.fix w_32) g_34 (by decide +kernel)) g_34 (Or.inr rfl) (by decide +kernel) g_34 (by decide) (by first | exact Or.inl (by decide) | exact Or.inr (by decide))
  have g_44 := Ext.ok E_39 g_34
  obtain ⟨m_45, e_46, h⟩ := up_s h
  have E_49 := ext_up e_46 (And.left g_44) (by decide)
  have w_50 := Kr.upK (y := 5) w_40 e_46 (ext_up e_46 (And.left g_44) (by decide)) (And.left g_44) (fx_f (j := 5) (Kr.fix w_40) g_44 (by decide +kernel)) g_44 (Or.inr rfl) (by decide +kernel) g_44 (by decide) (by first | exact Or.inl (by decide) | exact Or.inr (by decide))
  have g_54 := Ext.ok E_49 g_44
  obtain ⟨m_55, e_56, h⟩ := up_s h
  have E_59 := ext_up e_56 (And.left g_54) (by decide)
  have w_60 := Kr.upK (y := 6) w_50 e_56 (ext_up e_56 (And.left g_54) (by decide)) (And.left g_54) (fx_f (j := 6) (Kr.fix w_50) g_54 (by decide +kernel)) g_54 (Or.inr rfl) (by decide +kernel) g_54 (by decide) (by first | exact Or.inl (by decide) | exact Or.inr (by decide))
  have g_64 := Ext.ok E_59 g_54
  obtain ⟨m_65, e_66, h⟩ := up_s h
  have E_69 := ext_up e_66 (And.left g_64) (by decide)
  have w_70 := Kr.upK (y := 7) w_60 e_66 (ext_up e_66 (And.left g_64) (by decide)) (And.left g_64) (fx_f (j := 7) (Kr.fix w_60) g_64 (by decide +kernel)) g_64 (Or.inr rfl) (by decide +kernel) g_64 (by decide) (by first | exact Or.inl (by decide) | exact Or.inr (by decide))
  have g_74 := Ext.ok E_69 g_64
  obtain ⟨m_75, e_76, h⟩ := up_s h
  have E_79 := ext_up e_76 (And.left g_74) (by decide)
  have w_80 := Kr.upK (y := 8) w_70 e_76 (ext_up e_76 (And.left g_74) (by decide)) (And.left g_74) (fx_f (j := 8) (Kr.fix w_70) g_74 (by decide +kernel)) g_74 (Or.inr rfl) (by decide +kernel) g_74 (by decide) (by first | exact Or.inl (by decide) | exact Or.inr (by decide))
  have g_84 := Ext.ok E_79 g_74
  obtain ⟨m_85, e_86, h⟩ := up_s h
  have E_89 := ext_up e_86 (And.left g_84) (by decide)
  have w_90 := Kr.upK (y := 9) w_80 e_86 (ext_up e_86 (And.left g_84) (by decide)) (And.left g_84) (fx_f (j := 9) (Kr.fix w_80) g_84 (by decide +kernel)) g_84 (Or.inr rfl) (by decide +kernel) g_84 (by decide) (by first | exact Or.inl (by decide) | exact Or.inr (by decide))
  have g_94 := Ext.ok E_89 g_84
  obtain ⟨m_95, e_96, h⟩ := up_s h
  have E_99 := ext_up e_96 (And.left g_94) (by decide)
  have w_100 := Kr.upK (y := 10) w_90 e_96 (ext_up e_96 (And.left g_94) (by decide)) (And.left g_94) (fx_f (j := 10) (Kr.fix w_90) g_94 (by decide +kernel)) g_94 (Or.inr rfl) (by decide +kernel) g_94 (by decide) (by first | exact Or.inl (by decide) | exact Or.inr (by decide))
  cases h
  exact hQ w_100
set_option maxHeartbeats 4000000 in
theorem kw_X1_waitFor {m0 : MM} {p0 p1 p2 : Int} {rz : Int} {rm : MM} (hF : Fix m0) (g0 : okc m0 p0 2)
  (h : fm_X1_waitFor p0 p1 p2 m0 = some (rz, rm)) : Kr fW_X1_waitFor 0 0 m0 rm := by
  have hQ : Kr fW_X1_waitFor 0 0 m0 rm → Kr fW_X1_waitFor 0 0 m0 rm := id
  unfold fm_X1_waitFor at h
  obtain ⟨m_1, e_2, h⟩ := up_s h
  have E_5 := ext_up e_2 (And.left g0) (by decide)
  have w_6 := Kr.upK (y := 7) (Kr.rf (W := fW_X1_waitFor) (e := 0) hF) e_2 (ext_up e_2 (And.left g0) (by decide)) (And.left g0) (fx_f (j := 7) hF g0 (by decide +kernel)) g0 (Or.inr rfl) (by decide +kernel) g0 (by decide) (by first | exact Or.inl (by decide) | exact Or.inr (by decide))
  have g_8 := Ext.ok E_5 g0
  obtain ⟨m_9, e_10, h⟩ := up_s h
  have E_13 := ext_up e_10 (And.left g_8) (by decide)
  have w_14 := Kr.upK (y := 8) w_6 e_10 (ext_up e_10 (And.left g_8) (by decide)) (And.left g_8) (fx_f (j := 8) (Kr.fix w_6) g_8 (by decide +kernel)) g_8 (Or.inr rfl) (by decide +kernel) g_8 (by decide) (by first | exact Or.inl (by decide) | exact Or.inr (by decide))
  cases h
  exact hQ w_14
set_option maxHeartbeats 4000000 in
theorem kw_X1_goOnAt {m0 : MM} {p0 p1 : Int} {rz : Int} {rm : MM} (hF : Fix m0) (g0 : okc m0 p0 2)
  (h : fm_X1_goOnAt p0 p1 m0 = some (rz, rm)) : Kr fW_X1_goOnAt 0 0 m0 rm := by
  have hQ : Kr fW_X1_goOnAt 0 0 m0 rm → Kr fW_X1_goOnAt 0 0 m0 rm := id
  unfold fm_X1_goOnAt at h
  obtain ⟨m_3, e_4, h⟩ := up_s h
  have E_7 := ext_up e_4 (And.left g0) (by decide)
  have w_8 := Kr.upK (y := 7) (Kr.rf (W := fW_X1_goOnAt) (e := 0) hF) e_4 (ext_up e_4 (And.left g0) (by decide)) (And.left g0) (fx_f (j := 7) hF g0 (by decide +kernel)) g0 (Or.inr rfl) (by decide +kernel) g0 (by decide) (by first | exact Or.inl (by decide) | exact Or.inr (by decide))
  have g_10 := Ext.ok E_7 g0
  obtain ⟨m_11, e_12, h⟩ := up_s h
  have E_15 := ext_up e_12 (And.left g_10) (by decide)
  have w_16 := Kr.upK (y := 4) w_8 e_12 (ext_up e_12 (And.left g_10) (by decide)) (And.left g_10) (fx_f (j := 4) (Kr.fix w_8) g_10 (by decide +kernel)) g_10 (Or.inr rfl) (by decide +kernel) g_10 (by decide) (by first | exact Or.inl (by decide) | exact Or.inr (by decide))
  cases h
  exact hQ w_16
set_option maxHeartbeats 4000000 in
theorem kwj_X1_isBare_33 {P : Prop} {m : MM} {p0 s0 : Int} {rz : Int} {rm : MM} (hF : Fix m) (g0 : okc m p0 2) (hQ : Kr fW_X1_isBare 0 0 m rm → P)
  (h : fj_X1_isBare_33 p0 s0 m = some (rz, rm)) : P := by
  unfold fj_X1_isBare_33 at h
  obtain ⟨x_44, e_45, h⟩ := lx_s h
  rcases it_s h with ⟨hp_46, h⟩ | ⟨hp_46, h⟩
  · obtain ⟨m_49, e_50, h⟩ := up_s h
    have E_53 := ext_up e_50 (And.left g0) (by decide)
    have w_54 := Kr.upK (y := 6) (Kr.rf (W := fW_X1_isBare) (e := 0) hF) e_50 (ext_up e_50 (And.left g0) (by decide)) (And.left g0) (fx_f (j := 6) hF g0 (by decide +kernel)) g0 (Or.inr rfl) (by decide +kernel) g0 (by decide) (by first | exact Or.inl (by decide) | exact Or.inr (by decide))
    obtain ⟨g_56, h⟩ := gd_s h
    cases h
    exact hQ w_54
  · rcases it_s h with ⟨hp_57, h⟩ | ⟨hp_57, h⟩
    · obtain ⟨m_70, e_71, h⟩ := up_s h
      have E_74 := ext_up e_71 (And.left g0) (by decide)
      have w_75 := Kr.upK (y := 6) (Kr.rf (W := fW_X1_isBare) (e := 0) hF) e_71 (ext_up e_71 (And.left g0) (by decide)) (And.left g0) (fx_f (j := 6) hF g0 (by decide +kernel)) g0 (Or.inr rfl) (by decide +kernel) g0 (by decide) (by first | exact Or.inl (by decide) | exact Or.inr (by decide))
      obtain ⟨g_77, h⟩ := gd_s h
      cases h
      exact hQ w_75
    · obtain ⟨m_60, e_61, h⟩ := up_s h
      have E_64 := ext_up e_61 (And.left g0) (by decide)
      have w_65 := Kr.upK (y := 6) (Kr.rf (W := fW_X1_isBare) (e := 0) hF) e_61 (ext_up e_61 (And.left g0) (by decide)) (And.left g0) (fx_f (j := 6) hF g0 (by decide +kernel)) g0 (Or.inr rfl) (by decide +kernel) g0 (by decide) (by first | exact Or.inl (by decide) | exact Or.inr (by decide))
      obtain ⟨g_67, h⟩ := gd_s h
      cases h
      exact hQ w_65
set_option maxHeartbeats 4000000 in
theorem kw_X1_isBare {m0 : MM} {p0 : Int} {rz : Int} {rm : MM} (hF : Fix m0) (g0 : okc m0 p0 2)
  (h : fm_X1_isBare p0 m0 = some (rz, rm)) : Kr fW_X1_isBare 0 0 m0 rm := by
  have hQ : Kr fW_X1_isBare 0 0 m0 rm → Kr fW_X1_isBare 0 0 m0 rm := id
  unfold fm_X1_isBare at h
  obtain ⟨x_6, e_7, h⟩ := lx_s h
  obtain ⟨x_13, hc_12, h⟩ := bp_s h
  obtain ⟨m_21, e_22, h⟩ := up_s h
  have E_25 := ext_up e_22 (And.left g0) (by decide)
  have w_26 := Kr.upK (y := 5) (Kr.rf (W := fW_X1_isBare) (e := 0) hF) e_22 (ext_up e_22 (And.left g0) (by decide)) (And.left g0) (fx_f (j := 5) hF g0 (by decide +kernel)) g0 (Or.inr rfl) (by decide +kernel) g0 (by decide) (by first | exact Or.inl (by decide) | exact Or.inr (by decide))
  have g_30 := Ext.ok E_25 g0
  obtain ⟨x_32, e_33, h⟩ := lx_s h
  rcases it_s h with ⟨hp_34, h⟩ | ⟨hp_34, h⟩
  · exact kwj_X1_isBare_33 (Kr.fix w_26) g_30 (fun f => hQ (Kr.trS w_26 f)) h
  · obtain ⟨x_81, e_82, h⟩ := lx_s h
    rcases it_s h with ⟨hp_83, h⟩ | ⟨hp_83, h⟩
    · exact kwj_X1_isBare_33 (Kr.fix w_26) g_30 (fun f => hQ (Kr.trS w_26 f)) h
    · exact kwj_X1_isBare_33 (Kr.fix w_26) g_30 (fun f => hQ (Kr.trS w_26 f)) h
set_option maxHeartbeats 4000000 in
theorem kw_X2_init {m0 : MM} {p0 p1 : Int} {rz : Int} {rm : MM} (hF : Fix m0) (g0 : okc m0 p0 3)
  (h : fm_X2_init p0 p1 m0 = some (rz, rm)) : Kr fW_X2_init p0 0 m0 rm := by
  have hQ : Kr fW_X2_init p0 0 m0 rm → Kr fW_X2_init p0 0 m0 rm := id
  unfold fm_X2_init at h
  obtain ⟨m_3, e_4, h⟩ := up_s h
  have E_7 := ext_up e_4 (And.left g0) (by decide)
  have w_8 := Kr.upE (Kr.rf (W := fW_X2_init) (e := p0) hF) e_4 (ext_up e_4 (And.left g0) (by decide)) (And.left g0) (fx_f (j := 1) hF g0 (by decide +kernel)) g0 (by decide) (by first | exact Or.inl (by decide) | exact Or.inr (by decide))
  have g_12 := Ext.ok E_7 g0
  obtain ⟨m_13, e_14, h⟩ := up_s h
  have E_17 := ext_up e_14 (And.left g_12) (by decide)
  have w_18 := Kr.upE w_8 e_14 (ext_up e_14 (And.left g_12) (by decide)) (And.left g_12) (fx_f (j := 2) (Kr.fix w_8) g_12 (by decide +kernel)) g_12 (by decide) (by first | exact Or.inl (by decide) | exact Or.inr (by decide))
  have g_22 := Ext.ok E_17 g_12
  obtain ⟨m_23, e_24, h⟩ := up_s h
  have E_27 := ext_up e_24 (And.left g_22) (by decide)
  have w_28 := Kr.upE w_18 e_24 (ext_up e_24 (And.left g_22) (by decide)) (And.left g_22) (fx_f (j := 3) (Kr.fix w_18) g_22 (by decide +kernel)) g_22 (by decide) (by first | exact Or.inl (by decide) | exact Or.inr (by decide))
  have g_32 := Ext.ok E_27 g_22
  obtain ⟨m_33, e_34, h⟩ := up_s h
  have E_37 := ext_up e_34 (And.left g_32) (by decide)
  have w_38 := Kr.upE w_28 e_34 (ext_up e_34 (And.left g_32) (by decide)) (And.left g_32) (fx_f (j := 4) (Kr.fix w_28) g_32 (by decide +kernel)) g_32 (by decide) (by first | exact Or.inl (by decide) | exact Or.inr (by decide))
  have g_40 := Ext.ok E_37 g_32
  obtain ⟨g_41, h⟩ := gd_s h
  obtain ⟨m_42, e_43, h⟩ := up_s h
  have E_46 := ext_up e_43 (And.left g_40) (by decide)
  have w_47 := Kr.upE w_38 e_43 (ext_up e_43 (And.left g_40) (by decide)) (And.left g_40) (fx_new (Kr.fix w_38) g_41 (by decide)) g_40 (by decide) (by first | exact Or.inl (by decide) | exact Or.inr (by decide))
  cases h
  exact hQ w_47
set_option maxHeartbeats 4000000 in
theorem kwj_X5_add_112 {P : Prop} {m : MM} {p0 y1 y3 y4 : Int} {rz : Int} {rm : MM} (hF : Fix m) (g0 : okc m p0 6) (hQ : Kr fW_X5_add 0 0 m rm → P)
  (h : fj_X5_add_112 p0 y1 y3 y4 m = some (rz, rm)) : P := by
  unfold fj_X5_add_112 at h
  obtain ⟨x_65, e_66, h⟩ := lx_s h
  obtain ⟨g_69, h⟩ := gd_s h
  obtain ⟨g_70, h⟩ := gd_s h
  obtain ⟨x_72, e_73, h⟩ := lx_s h
  obtain ⟨g_76, h⟩ := gd_s h
  rcases it_s h with ⟨hp_77, h⟩ | ⟨hp_77, h⟩
  · obtain ⟨g_84, h⟩ := gd_s h
    obtain ⟨g_85, h⟩ := gd_s h
    obtain ⟨m_86, e_87, h⟩ := up_s h
    have E_90 := ext_up e_87 (And.left g_76) (And.left g_84)
    have w_91 := Kr.upA (Kr.rf (W := fW_X5_add) (e := 0) hF) e_87 (ext_up e_87 (And.left g_76) (And.left g_84)) (And.left g_76) (fx_a hF g_76 (And.left g_84) (by decide +kernel)) g_76 g_85 (by decide +kernel) g_76 (And.left g_84) (by first | exact Or.inl (by decide) | exact Or.inr (by decide))
    have g_95 := Ext.ok E_90 g0
    obtain ⟨x_97, e_98, h⟩ := lx_s h
    obtain ⟨m_103, e_104, h⟩ := up_s h
    have E_107 := ext_up e_104 (And.left g_95) (by decide)
    have w_108 := Kr.upK (y := 2) w_91 e_104 (ext_up e_104 (And.left g_95) (by decide)) (And.left g_95) (fx_f (j := 2) (Kr.fix w_91) g_95 (by decide +kernel)) g_95 (Or.inr rfl) (by decide +kernel) g_95 (by decide) (by first | exact Or.inl (by decide) | exact Or.inr (by decide))
    cases h
    exact hQ w_108
  · cases h
    exact hQ (Kr.rf (W := fW_X5_add) (e := 0) hF)
set_option maxHeartbeats 4000000 in
theorem kwj_X5_add_83 {P : Prop} {m : MM} {p0 y1 y3 y4 : Int} {rz : Int} {rm : MM} (hF : Fix m) (g0 : okc m p0 6) (hQ : Kr fW_X5_add 0 0 m rm → P)
  (h : fj_X5_add_83 p0 y1 y3 y4 m = some (rz, rm)) : P := by
  unfold fj_X5_add_83 at h
  obtain ⟨x_46, e_47, h⟩ := lx_s h
  obtain ⟨g_50, h⟩ := gd_s h
  rcases it_s h with ⟨hp_51, h⟩ | ⟨hp_51, h⟩
  · obtain ⟨g_57, h⟩ := gd_s h
    obtain ⟨x_59, e_60, h⟩ := lx_s h
    rcases it_s h with ⟨hp_61, h⟩ | ⟨hp_61, h⟩
    · obtain ⟨x_115, m_116, e_117, e_118, h⟩ := nw_s h
      have g_124 := okc_nwF (c := 101) hF e_117 e_118
      have E_123 := ext_nw hF e_118
      have n_125 := Kr.nge (Kr.rf (W := fW_X5_add) (e := 0) hF) e_117
      have w_126 := Kr.nw0 (kd := 101) (Kr.rf (W := fW_X5_add) (e := 0) hF) e_118 (by decide +kernel) (by decide)
      have g_128 := Ext.ok E_123 g_50
      have g_129 := Ext.okx E_123 g_50 g_57
      obtain ⟨m_130, e_131, h⟩ := up_s h
      have E_134 := ext_up e_131 (And.left g_128) (And.left g_129)
      have w_135 := Kr.upK (y := (-9)) w_126 e_131 (ext_up e_131 (And.left g_128) (And.left g_129)) (And.left g_128) (fx_a (Kr.fix w_126) g_128 (And.left g_129) (by decide +kernel)) g_128 (Or.inl rfl) (by decide +kernel) g_128 (And.left g_129) (by first | exact Or.inl (by decide) | exact Or.inr (by decide))
      have g_137 := Ext.ok (Ext.tr E_123 E_134) g0
      exact kwj_X5_add_112 (Kr.fix w_135) g_137 (fun f => hQ (Kr.trS w_135 f)) h
    · exact kwj_X5_add_112 hF g0 hQ h
  · cases h
    exact hQ (Kr.rf (W := fW_X5_add) (e := 0) hF)
set_option maxHeartbeats 4000000 in
theorem kwl_X5_add_41 {P : Prop} {mb : MM} {p0 y1 y3 y4 y5 : Int} {k77 : MM → Option (Int × MM)} {rz : Int} {rm : MM} (hF0 : Fix mb) (gb : okc mb p0 6)
  (hk77 : ∀ mq : MM, Kr fW_X5_add 0 0 mb mq → k77 mq = some (rz, rm) → P) (hQ : Kr fW_X5_add 0 0 mb rm → P) :
  ∀ (n : Nat) {m : MM} {y6 : Int} , Kr fW_X5_add 0 0 mb m → fl_X5_add_41 p0 y1 y3 y4 y5 k77 n y6 m = some (rz, rm) → P := by
  intro n
  induction n with
  | zero => intro m y6 w h; cases h
  | succ n ih0 =>
    intro m y6 w h
    have ih : ∀ mq : MM, Kr fW_X5_add 0 0 mb mq → ∀ {z6 : Int}, fl_X5_add_41 p0 y1 y3 y4 y5 k77 n z6 mq = some (rz, rm) → P := fun mq b => by intros; exact ih0 b ‹_›
    have g0 := Ext.ok (Kr.ext w) gb
    unfold fl_X5_add_41 at h
    obtain ⟨x_181, e_182, h⟩ := lx_s h
    obtain ⟨g_185, h⟩ := gd_s h
    rcases it_s h with ⟨hp_186, h⟩ | ⟨hp_186, h⟩
    · obtain ⟨g_189, h⟩ := gd_s h
      rcases it_s h with ⟨hp_190, h⟩ | ⟨hp_190, h⟩
      · obtain ⟨g_196, h⟩ := gd_s h
        obtain ⟨x_198, e_199, h⟩ := lx_s h
        obtain ⟨g_200, h⟩ := gd_s h
        obtain ⟨g_206, h⟩ := gd_s h
        obtain ⟨m_201, e_202, h⟩ := up_s h
        have E_205 := ext_up e_202 (And.left g_189) (And.left g_200)
        have w_207 := Kr.upK (y := (-9)) w e_202 (ext_up e_202 (And.left g_189) (And.left g_200)) (And.left g_189) (fx_a (Kr.fix w) g_189 (And.left g_200) (by decide +kernel)) g_189 (Or.inl rfl) (by decide +kernel) g_189 (And.left g_200) (by first | exact Or.inl (by decide) | exact Or.inr (by decide))
        obtain ⟨x_214, e_215, h⟩ := lx_s h
        exact ih m_201 w_207 h
      · exact hk77 m w h
    · exact hk77 m w h
set_option maxHeartbeats 4000000 in
theorem kw_X5_add {m0 : MM} {p0 p1 : Int} {rz : Int} {rm : MM} (hF : Fix m0) (g0 : okc m0 p0 6)
  (h : fm_X5_add p0 p1 m0 = some (rz, rm)) : Kr fW_X5_add 0 0 m0 rm := by
  have hQ : Kr fW_X5_add 0 0 m0 rm → Kr fW_X5_add 0 0 m0 rm := id
  unfold fm_X5_add at h
  obtain ⟨x_4, e_5, h⟩ := lx_s h
  obtain ⟨x_10, e_11, h⟩ := lx_s h
  obtain ⟨x_25, e_26, h⟩ := lx_s h
  obtain ⟨x_37, e_38, h⟩ := lx_s h
  obtain ⟨g_41, h⟩ := gd_s h
  rcases it_s h with ⟨hp_42, h⟩ | ⟨hp_42, h⟩
  · exact kwj_X5_add_83 hF g0 hQ h
  · obtain ⟨g_147, h⟩ := gd_s h
    obtain ⟨x_148, m_149, e_150, e_151, h⟩ := nw_s h
    have g_157 := okc_nwF (c := 108) hF e_150 e_151
    have E_156 := ext_nw hF e_151
    have n_158 := Kr.nge (Kr.rf (W := fW_X5_add) (e := 0) hF) e_150
    have w_159 := Kr.nw0 (kd := 108) (Kr.rf (W := fW_X5_add) (e := 0) hF) e_151 (by decide +kernel) (by decide)
    have g_254 := Ext.ok E_156 g0
    refine kwl_X5_add_41 (Kr.fix w_159) g_254 ?_ (fun f => hQ (Kr.trS w_159 f)) BIG (Kr.rf (Kr.fix w_159)) h
    intro m_240 w_243
    intro h
    have E_241 := Kr.ext w_243
    have w_244 := Kr.trS w_159 w_243
    have g_245 := Ext.ok (Ext.tr E_156 E_241) g0
    obtain ⟨m_246, e_247, h⟩ := up_s h
    have E_250 := ext_up e_247 (And.left g_245) (by decide)
    have w_251 := Kr.upK (y := 0) w_244 e_247 (ext_up e_247 (And.left g_245) (by decide)) (And.left g_245) (fx_f (j := 0) (Kr.fix w_244) g_245 (by decide +kernel)) g_245 (Or.inr rfl) (by decide +kernel) g_245 (by decide) (by first | exact Or.inl (by decide) | exact Or.inr (by decide))
    have g_253 := Ext.ok E_250 g_245
    exact kwj_X5_add_83 (Kr.fix w_251) g_253 (fun f => hQ (Kr.trS w_251 f)) h
set_option maxHeartbeats 4000000 in
theorem kwj_X2_put_27 {P : Prop} {m : MM} {p0 y1 y2 y3 y6 : Int} {rz : Int} {rm : MM} (hF : Fix m) (g0 : okc m p0 3) (hQ : Kr fW_X2_put 0 0 m rm → P)
  (h : fj_X2_put_27 p0 y1 y2 y3 y6 m = some (rz, rm)) : P := by
  unfold fj_X2_put_27 at h
  obtain ⟨x_16, e_17, h⟩ := lx_s h
  obtain ⟨g_56, h⟩ := gd_s h
  obtain ⟨x_58, m_59, hc_57, h⟩ := bd_s h
  have w_66 := (kw_X5_add hF g_56 hc_57)
  have E_64 := Kr.ext w_66
  have w_67 := Kr.tr0 (Kr.rf (W := fW_X2_put) (e := 0) hF) w_66 (by decide +kernel)
  have g_71 := Ext.ok E_64 g0
  obtain ⟨x_73, e_74, h⟩ := lx_s h
  obtain ⟨g_77, h⟩ := gd_s h
  obtain ⟨x_79, e_80, h⟩ := lx_s h
  obtain ⟨m_81, e_82, h⟩ := up_s h
  have E_85 := ext_up e_82 (And.left g_71) (by decide)
  have w_86 := Kr.upK (y := 1) w_67 e_82 (ext_up e_82 (And.left g_71) (by decide)) (And.left g_71) (fx_f (j := 1) (Kr.fix w_67) g_71 (by decide +kernel)) g_71 (Or.inr rfl) (by decide +kernel) g_71 (by decide) (by first | exact Or.inl (by decide) | exact Or.inr (by decide))
  rcases it_s h with ⟨hp_90, h⟩ | ⟨hp_90, h⟩
  · rcases it_s h with ⟨hp_93, h⟩ | ⟨hp_93, h⟩
    · have g_96 := Ext.ok E_85 g_71
      obtain ⟨x_98, e_99, h⟩ := lx_s h
      obtain ⟨m_104, e_105, h⟩ := up_s h
      have E_108 := ext_up e_105 (And.left g_96) (by decide)
      have w_109 := Kr.upK (y := 3) w_86 e_105 (ext_up e_105 (And.left g_96) (by decide)) (And.left g_96) (fx_f (j := 3) (Kr.fix w_86) g_96 (by decide +kernel)) g_96 (Or.inr rfl) (by decide +kernel) g_96 (by decide) (by first | exact Or.inl (by decide) | exact Or.inr (by decide))
      have g_111 := Ext.ok E_108 g_96
      obtain ⟨m_112, e_113, h⟩ := up_s h
      have E_116 := ext_up e_113 (And.left g_111) (by decide)
      have w_117 := Kr.upK (y := 4) w_109 e_113 (ext_up e_113 (And.left g_111) (by decide)) (And.left g_111) (fx_f (j := 4) (Kr.fix w_109) g_111 (by decide +kernel)) g_111 (Or.inr rfl) (by decide +kernel) g_111 (by decide) (by first | exact Or.inl (by decide) | exact Or.inr (by decide))
      cases h
      exact hQ w_117
    · cases h
      exact hQ w_86
  · have g_121 := Ext.ok E_85 g_71
    obtain ⟨x_123, e_124, h⟩ := lx_s h
    obtain ⟨m_129, e_130, h⟩ := up_s h
    have E_133 := ext_up e_130 (And.left g_121) (by decide)
    have w_134 := Kr.upK (y := 2) w_86 e_130 (ext_up e_130 (And.left g_121) (by decide)) (And.left g_121) (fx_f (j := 2) (Kr.fix w_86) g_121 (by decide +kernel)) g_121 (Or.inr rfl) (by decide +kernel) g_121 (by decide) (by first | exact Or.inl (by decide) | exact Or.inr (by decide))
    cases h
    exact hQ w_134
set_option maxHeartbeats 4000000 in
theorem kw_X2_put {m0 : MM} {p0 p1 p2 p3 p4 p5 : Int} {rz : Int} {rm : MM} (hF : Fix m0) (g0 : okc m0 p0 3)
  (h : fm_X2_put p0 p1 p2 p3 p4 p5 m0 = some (rz, rm)) : Kr fW_X2_put 0 0 m0 rm := by
  have hQ : Kr fW_X2_put 0 0 m0 rm → Kr fW_X2_put 0 0 m0 rm := id
  unfold fm_X2_put at h
  rcases it_s h with ⟨hp_12, h⟩ | ⟨hp_12, h⟩
  · exact kwj_X2_put_27 hF g0 hQ h
  · obtain ⟨x_150, e_151, h⟩ := lx_s h
    exact kwj_X2_put_27 hF g0 hQ h
set_option maxHeartbeats 4000000 in
theorem kwj_X5_cut_72 {P : Prop} {m : MM} {p0 y2 y3 s0 : Int} {rz : Int} {rm : MM} {c : Int → MM → Option (Int × MM)} {k106 : MM → Option (Int × MM)} (hF : Fix m) (g0 : okc m p0 6)
  (hc : ∀ mq : MM, Kr fW_X5_cut 0 0 m mq → ∀ {z3 : Int}, c z3 mq = some (rz, rm) → P)
  (hk106 : ∀ mq : MM, Kr fW_X5_cut 0 0 m mq → k106 mq = some (rz, rm) → P) (hQ : Kr fW_X5_cut 0 0 m rm → P)
  (h : fj_X5_cut_72 c k106 p0 y2 y3 s0 m = some (rz, rm)) : P := by
  unfold fj_X5_cut_72 at h
  obtain ⟨x_82, e_83, h⟩ := lx_s h
  rcases it_s h with ⟨hp_84, h⟩ | ⟨hp_84, h⟩
  · obtain ⟨g_87, h⟩ := gd_s h
    obtain ⟨g_88, h⟩ := gd_s h
    obtain ⟨m_89, e_90, h⟩ := up_s h
    have E_93 := ext_up e_90 (And.left g_87) (And.left g_88)
    have w_94 := Kr.upK (y := (-9)) (Kr.rf (W := fW_X5_cut) (e := 0) hF) e_90 (ext_up e_90 (And.left g_87) (And.left g_88)) (And.left g_87) (fx_a hF g_87 (And.left g_88) (by decide +kernel)) g_87 (Or.inl rfl) (by decide +kernel) g_87 (And.left g_88) (by first | exact Or.inl (by decide) | exact Or.inr (by decide))
    obtain ⟨x_101, e_102, h⟩ := lx_s h
    exact hc m_89 w_94 h
  · obtain ⟨g_111, h⟩ := gd_s h
    obtain ⟨g_112, h⟩ := gd_s h
    obtain ⟨x_114, e_115, h⟩ := lx_s h
    obtain ⟨x_119, m_120, hc_118, h⟩ := bd_s h
    have w_127 := (kw_J7_copyOf_c38d5 hF hc_118)
    have E_125 := Kr.ext w_127
    have w_128 := Kr.tr0 (Kr.rf (W := fW_X5_cut) (e := 0) hF) w_127 (by decide +kernel)
    have g_130 := Ext.ok E_125 g_111
    have g_131 := Ext.okx E_125 g_111 g_112
    obtain ⟨g_137, h⟩ := gd_s h
    obtain ⟨m_132, e_133, h⟩ := up_s h
    have E_136 := ext_up e_133 (And.left g_130) (And.left g_131)
    have w_138 := Kr.upK (y := (-9)) w_128 e_133 (ext_up e_133 (And.left g_130) (And.left g_131)) (And.left g_130) (fx_a (Kr.fix w_128) g_130 (And.left g_131) (by decide +kernel)) g_130 (Or.inl rfl) (by decide +kernel) g_130 (And.left g_131) (by first | exact Or.inl (by decide) | exact Or.inr (by decide))
    obtain ⟨x_145, e_146, h⟩ := lx_s h
    exact hc m_132 w_138 h
set_option maxHeartbeats 4000000 in
theorem kwl_X5_cut_26 {P : Prop} {mb : MM} {p0 y2 : Int} {k106 : MM → Option (Int × MM)} {rz : Int} {rm : MM} (hF0 : Fix mb) (gb : okc mb p0 6)
  (hk106 : ∀ mq : MM, Kr fW_X5_cut 0 0 mb mq → k106 mq = some (rz, rm) → P) (hQ : Kr fW_X5_cut 0 0 mb rm → P) :
  ∀ (n : Nat) {m : MM} {y3 : Int} , Kr fW_X5_cut 0 0 mb m → fl_X5_cut_26 p0 y2 k106 n y3 m = some (rz, rm) → P := by
  intro n
  induction n with
  | zero => intro m y3 w h; cases h
  | succ n ih0 =>
    intro m y3 w h
    have ih : ∀ mq : MM, Kr fW_X5_cut 0 0 mb mq → ∀ {z3 : Int}, fl_X5_cut_26 p0 y2 k106 n z3 mq = some (rz, rm) → P := fun mq b => by intros; exact ih0 b ‹_›
    have g0 := Ext.ok (Kr.ext w) gb
    unfold fl_X5_cut_26 at h
    obtain ⟨x_58, e_59, h⟩ := lx_s h
    rcases it_s h with ⟨hp_60, h⟩ | ⟨hp_60, h⟩
    · obtain ⟨x_64, e_65, h⟩ := lx_s h
      obtain ⟨g_68, h⟩ := gd_s h
      rcases it_s h with ⟨hp_69, h⟩ | ⟨hp_69, h⟩
      · rcases it_s h with ⟨hp_70, h⟩ | ⟨hp_70, h⟩
        · obtain ⟨x_153, e_154, h⟩ := lx_s h
          rcases it_s h with ⟨hp_159, h⟩ | ⟨hp_159, h⟩
          · obtain ⟨g_167, h⟩ := gd_s h
            obtain ⟨x_169, e_170, h⟩ := lx_s h
            rcases it_s h with ⟨hp_171, h⟩ | ⟨hp_171, h⟩
            · exact kwj_X5_cut_72 (Kr.fix w) g0 (fun mq f => ih mq (Kr.trS w f)) (fun mq f => hk106 mq (Kr.trS w f)) (fun f => hQ (Kr.trS w f)) h
            · exact kwj_X5_cut_72 (Kr.fix w) g0 (fun mq f => ih mq (Kr.trS w f)) (fun mq f => hk106 mq (Kr.trS w f)) (fun f => hQ (Kr.trS w f)) h
          · exact kwj_X5_cut_72 (Kr.fix w) g0 (fun mq f => ih mq (Kr.trS w f)) (fun mq f => hk106 mq (Kr.trS w f)) (fun f => hQ (Kr.trS w f)) h
        · exact kwj_X5_cut_72 (Kr.fix w) g0 (fun mq f => ih mq (Kr.trS w f)) (fun mq f => hk106 mq (Kr.trS w f)) (fun f => hQ (Kr.trS w f)) h
      · exact hk106 m w h
    · exact hk106 m w h
set_option maxHeartbeats 4000000 in
theorem kw_X5_cut {m0 : MM} {p0 p1 : Int} {rz : Int} {rm : MM} (hF : Fix m0) (g0 : okc m0 p0 6)
  (h : fm_X5_cut p0 p1 m0 = some (rz, rm)) : Kr fW_X5_cut 0 0 m0 rm := by
  have hQ : Kr fW_X5_cut 0 0 m0 rm → Kr fW_X5_cut 0 0 m0 rm := id
  unfold fm_X5_cut at h
  obtain ⟨x_4, e_5, h⟩ := lx_s h
  obtain ⟨x_9, hc_8, h⟩ := bp_s h
  obtain ⟨x_18, hc_17, h⟩ := bp_s h
  obtain ⟨m_26, e_27, h⟩ := up_s h
  have E_30 := ext_up e_27 (And.left g0) (by decide)
  have w_31 := Kr.upK (y := 2) (Kr.rf (W := fW_X5_cut) (e := 0) hF) e_27 (ext_up e_27 (And.left g0) (by decide)) (And.left g0) (fx_f (j := 2) hF g0 (by decide +kernel)) g0 (Or.inr rfl) (by decide +kernel) g0 (by decide) (by first | exact Or.inl (by decide) | exact Or.inr (by decide))
  have g_35 := Ext.ok E_30 g0
  obtain ⟨x_37, e_38, h⟩ := lx_s h
  obtain ⟨x_43, e_44, h⟩ := lx_s h
  refine kwl_X5_cut_26 (Kr.fix w_31) g_35 ?_ (fun f => hQ (Kr.trS w_31 f)) BIG (Kr.rf (Kr.fix w_31)) h
  intro m_185 w_188
  intro h
  have E_186 := Kr.ext w_188
  have w_189 := Kr.trS w_31 w_188
  have g_192 := Ext.ok E_186 g_35
  obtain ⟨x_194, e_195, h⟩ := lx_s h
  obtain ⟨x_197, hc_196, h⟩ := bp_s h
  obtain ⟨m_205, e_206, h⟩ := up_s h
  have E_209 := ext_up e_206 (And.left g_192) (by decide)
  have w_210 := Kr.upK (y := 1) w_189 e_206 (ext_up e_206 (And.left g_192) (by decide)) (And.left g_192) (fx_f (j := 1) (Kr.fix w_189) g_192 (by decide +kernel)) g_192 (Or.inr rfl) (by decide +kernel) g_192 (by decide) (by first | exact Or.inl (by decide) | exact Or.inr (by decide))
  cases h
  exact hQ w_210
set_option maxHeartbeats 4000000 in
theorem kwl_X2_countAgain_28 {P : Prop} {mb : MM} {p0 : Int} {rz : Int} {rm : MM} (hF0 : Fix mb) (gb : okc mb p0 3) (hQ : Kr fW_X2_countAgain 0 0 mb rm → P) :
  ∀ (n : Nat) {m : MM} {y1 : Int} , Kr fW_X2_countAgain 0 0 mb m → fl_X2_countAgain_28 p0 n y1 m = some (rz, rm) → P := by
  intro n
  induction n with
  | zero => intro m y1 w h; cases h
  | succ n ih0 =>
    intro m y1 w h
    have ih : ∀ mq : MM, Kr fW_X2_countAgain 0 0 mb mq → ∀ {z1 : Int}, fl_X2_countAgain_28 p0 n z1 mq = some (rz, rm) → P := fun mq b => by intros; exact ih0 b ‹_›
    have g0 := Ext.ok (Kr.ext w) gb
    unfold fl_X2_countAgain_28 at h
    obtain ⟨x_58, e_59, h⟩ := lx_s h
    rcases it_s h with ⟨hp_60, h⟩ | ⟨hp_60, h⟩
    · obtain ⟨x_62, hc_61, h⟩ := bp_s h
      rcases it_s h with ⟨hp_77, h⟩ | ⟨hp_77, h⟩
      · rcases it_s h with ⟨hp_80, h⟩ | ⟨hp_80, h⟩
        · obtain ⟨x_93, e_94, h⟩ := lx_s h
          obtain ⟨m_99, e_100, h⟩ := up_s h
          have E_103 := ext_up e_100 (And.left g0) (by decide)
          have w_104 := Kr.upK (y := 3) w e_100 (ext_up e_100 (And.left g0) (by decide)) (And.left g0) (fx_f (j := 3) (Kr.fix w) g0 (by decide +kernel)) g0 (Or.inr rfl) (by decide +kernel) g0 (by decide) (by first | exact Or.inl (by decide) | exact Or.inr (by decide))
          have g_106 := Ext.ok E_103 g0
          obtain ⟨x_108, hc_107, h⟩ := bp_s h
          obtain ⟨m_116, e_117, h⟩ := up_s h
          have E_120 := ext_up e_117 (And.left g_106) (by decide)
          have w_121 := Kr.upK (y := 4) w_104 e_117 (ext_up e_117 (And.left g_106) (by decide)) (And.left g_106) (fx_f (j := 4) (Kr.fix w_104) g_106 (by decide +kernel)) g_106 (Or.inr rfl) (by decide +kernel) g_106 (by decide) (by first | exact Or.inl (by decide) | exact Or.inr (by decide))
          obtain ⟨x_128, e_129, h⟩ := lx_s h
          exact ih m_116 w_121 h
        · obtain ⟨x_86, e_87, h⟩ := lx_s h
          exact ih m w h
      · obtain ⟨x_135, e_136, h⟩ := lx_s h
        obtain ⟨m_141, e_142, h⟩ := up_s h
        have E_145 := ext_up e_142 (And.left g0) (by decide)
        have w_146 := Kr.upK (y := 2) w e_142 (ext_up e_142 (And.left g0) (by decide)) (And.left g0) (fx_f (j := 2) (Kr.fix w) g0 (by decide +kernel)) g0 (Or.inr rfl) (by decide +kernel) g0 (by decide) (by first | exact Or.inl (by decide) | exact Or.inr (by decide))
        obtain ⟨x_153, e_154, h⟩ := lx_s h
        exact ih m_141 w_146 h
    · cases h
      exact hQ w
set_option maxHeartbeats 4000000 in
theorem kw_X2_countAgain {m0 : MM} {p0 : Int} {rz : Int} {rm : MM} (hF : Fix m0) (g0 : okc m0 p0 3)
  (h : fm_X2_countAgain p0 m0 = some (rz, rm)) : Kr fW_X2_countAgain 0 0 m0 rm := by
  have hQ : Kr fW_X2_countAgain 0 0 m0 rm → Kr fW_X2_countAgain 0 0 m0 rm := id
  unfold fm_X2_countAgain at h
  obtain ⟨x_4, e_5, h⟩ := lx_s h
  obtain ⟨g_8, h⟩ := gd_s h
  obtain ⟨x_10, e_11, h⟩ := lx_s h
  obtain ⟨m_12, e_13, h⟩ := up_s h
  have E_16 := ext_up e_13 (And.left g0) (by decide)
  have w_17 := Kr.upK (y := 1) (Kr.rf (W := fW_X2_countAgain) (e := 0) hF) e_13 (ext_up e_13 (And.left g0) (by decide)) (And.left g0) (fx_f (j := 1) hF g0 (by decide +kernel)) g0 (Or.inr rfl) (by decide +kernel) g0 (by decide) (by first | exact Or.inl (by decide) | exact Or.inr (by decide))
  have g_21 := Ext.ok E_16 g0
  obtain ⟨m_22, e_23, h⟩ := up_s h
  have E_26 := ext_up e_23 (And.left g_21) (by decide)
  have w_27 := Kr.upK (y := 2) w_17 e_23 (ext_up e_23 (And.left g_21) (by decide)) (And.left g_21) (fx_f (j := 2) (Kr.fix w_17) g_21 (by decide +kernel)) g_21 (Or.inr rfl) (by decide +kernel) g_21 (by decide) (by first | exact Or.inl (by decide) | exact Or.inr (by decide))
  have g_31 := Ext.ok E_26 g_21
  obtain ⟨m_32, e_33, h⟩ := up_s h
  have E_36 := ext_up e_33 (And.left g_31) (by decide)
  have w_37 := Kr.upK (y := 3) w_27 e_33 (ext_up e_33 (And.left g_31) (by decide)) (And.left g_31) (fx_f (j := 3) (Kr.fix w_27) g_31 (by decide +kernel)) g_31 (Or.inr rfl) (by decide +kernel) g_31 (by decide) (by first | exact Or.inl (by decide) | exact Or.inr (by decide))
  have g_41 := Ext.ok E_36 g_31
  obtain ⟨m_42, e_43, h⟩ := up_s h
  have E_46 := ext_up e_43 (And.left g_41) (by decide)
  have w_47 := Kr.upK (y := 4) w_37 e_43 (ext_up e_43 (And.left g_41) (by decide)) (And.left g_41) (fx_f (j := 4) (Kr.fix w_37) g_41 (by decide +kernel)) g_41 (Or.inr rfl) (by decide +kernel) g_41 (by decide) (by first | exact Or.inl (by decide) | exact Or.inr (by decide))
  have g_157 := Ext.ok E_46 g_41
  refine kwl_X2_countAgain_28 (Kr.fix w_47) g_157  (fun f => hQ (Kr.trS w_47 f)) BIG (Kr.rf (Kr.fix w_47)) h
set_option maxHeartbeats 4000000 in
theorem kw_X2_cut {m0 : MM} {p0 p1 : Int} {rz : Int} {rm : MM} (hF : Fix m0) (g0 : okc m0 p0 3)
  (h : fm_X2_cut p0 p1 m0 = some (rz, rm)) : Kr fW_X2_cut 0 0 m0 rm := by
  have hQ : Kr fW_X2_cut 0 0 m0 rm → Kr fW_X2_cut 0 0 m0 rm := id
  unfold fm_X2_cut at h
  obtain ⟨x_4, e_5, h⟩ := lx_s h
  obtain ⟨g_6, h⟩ := gd_s h
  obtain ⟨x_8, m_9, hc_7, h⟩ := bd_s h
  have w_16 := (kw_X5_cut hF g_6 hc_7)
  have E_14 := Kr.ext w_16
  have w_17 := Kr.tr0 (Kr.rf (W := fW_X2_cut) (e := 0) hF) w_16 (by decide +kernel)
  have g_19 := Ext.ok E_14 g0
  obtain ⟨x_21, m_22, hc_20, h⟩ := bd_s h
  have w_29 := (kw_X2_countAgain (Kr.fix w_17) g_19 hc_20)
  have E_27 := Kr.ext w_29
  have w_30 := Kr.tr0 w_17 w_29 (by decide +kernel)
  cases h
  exact hQ w_30
set_option maxHeartbeats 4000000 in
theorem kwl_X5_becomeFirst_41 {P : Prop} {mb : MM} {p0 y1 y3 y4 : Int} {k68 : MM → Option (Int × MM)} {rz : Int} {rm : MM} (hF0 : Fix mb) (gb : okc mb p0 6)
  (hk68 : ∀ mq : MM, Kr fW_X5_becomeFirst 0 0 mb mq → k68 mq = some (rz, rm) → P) (hQ : Kr fW_X5_becomeFirst 0 0 mb rm → P) :
  ∀ (n : Nat) {m : MM} {y5 : Int} , Kr fW_X5_becomeFirst 0 0 mb m → fl_X5_becomeFirst_41 p0 y1 y3 y4 k68 n y5 m = some (rz, rm) → P := by
  intro n
  induction n with
  | zero => intro m y5 w h; cases h
  | succ n ih0 =>
    intro m y5 w h
    have ih : ∀ mq : MM, Kr fW_X5_becomeFirst 0 0 mb mq → ∀ {z5 : Int}, fl_X5_becomeFirst_41 p0 y1 y3 y4 k68 n z5 mq = some (rz, rm) → P := fun mq b => by intros; exact ih0 b ‹_›
    have g0 := Ext.ok (Kr.ext w) gb
    unfold fl_X5_becomeFirst_41 at h
    rcases it_s h with ⟨hp_94, h⟩ | ⟨hp_94, h⟩
    · obtain ⟨x_98, e_99, h⟩ := lx_s h
      obtain ⟨g_102, h⟩ := gd_s h
      obtain ⟨x_104, e_105, h⟩ := lx_s h
      obtain ⟨g_108, h⟩ := gd_s h
      obtain ⟨g_109, h⟩ := gd_s h
      obtain ⟨x_111, e_112, h⟩ := lx_s h
      obtain ⟨g_113, h⟩ := gd_s h
      obtain ⟨g_114, h⟩ := gd_s h
      obtain ⟨g_120, h⟩ := gd_s h
      obtain ⟨m_115, e_116, h⟩ := up_s h
      have E_119 := ext_up e_116 (And.left g_113) (And.left g_114)
      have w_121 := Kr.upK (y := (-9)) w e_116 (ext_up e_116 (And.left g_113) (And.left g_114)) (And.left g_113) (fx_a (Kr.fix w) g_113 (And.left g_114) (by decide +kernel)) g_113 (Or.inl rfl) (by decide +kernel) g_113 (And.left g_114) (by first | exact Or.inl (by decide) | exact Or.inr (by decide))
      obtain ⟨x_128, e_129, h⟩ := lx_s h
      exact ih m_115 w_121 h
    · exact hk68 m w h
set_option maxHeartbeats 4000000 in
theorem kwl_X5_becomeFirst_89 {P : Prop} {mb : MM} {p0 y1 y3 : Int} {rz : Int} {rm : MM} (hF0 : Fix mb) (gb : okc mb p0 6) (hQ : Kr fW_X5_becomeFirst 0 0 mb rm → P) :
  ∀ (n : Nat) {m : MM} {y5 : Int} , Kr fW_X5_becomeFirst 0 0 mb m → fl_X5_becomeFirst_89 p0 y1 y3 n y5 m = some (rz, rm) → P := by
  intro n
  induction n with
  | zero => intro m y5 w h; cases h
  | succ n ih0 =>
    intro m y5 w h
    have ih : ∀ mq : MM, Kr fW_X5_becomeFirst 0 0 mb mq → ∀ {z5 : Int}, fl_X5_becomeFirst_89 p0 y1 y3 n z5 mq = some (rz, rm) → P := fun mq b => by intros; exact ih0 b ‹_›
    have g0 := Ext.ok (Kr.ext w) gb
    unfold fl_X5_becomeFirst_89 at h
    rcases it_s h with ⟨hp_187, h⟩ | ⟨hp_187, h⟩
    · obtain ⟨g_188, h⟩ := gd_s h
      obtain ⟨x_190, hc_189, h⟩ := bp_s h
      obtain ⟨x_199, m_200, hc_198, h⟩ := bd_s h
      have w_207 := (kw_X5_add (Kr.fix w) g0 hc_198)
      have E_205 := Kr.ext w_207
      have w_208 := Kr.tr0 w w_207 (by decide +kernel)
      obtain ⟨x_215, e_216, h⟩ := lx_s h
      exact ih m_200 w_208 h
    · cases h
      exact hQ w
set_option maxHeartbeats 4000000 in
theorem kw_X5_becomeFirst {m0 : MM} {p0 p1 p2 : Int} {rz : Int} {rm : MM} (hF : Fix m0) (g0 : okc m0 p0 6)
  (h : fm_X5_becomeFirst p0 p1 p2 m0 = some (rz, rm)) : Kr fW_X5_becomeFirst 0 0 m0 rm := by
  have hQ : Kr fW_X5_becomeFirst 0 0 m0 rm → Kr fW_X5_becomeFirst 0 0 m0 rm := id
  unfold fm_X5_becomeFirst at h
  obtain ⟨g_3, h⟩ := gd_s h
  obtain ⟨x_5, e_6, h⟩ := lx_s h
  obtain ⟨x_10, hc_9, h⟩ := bp_s h
  obtain ⟨x_19, hc_18, h⟩ := bp_s h
  obtain ⟨x_39, e_40, h⟩ := lx_s h
  obtain ⟨g_43, h⟩ := gd_s h
  obtain ⟨x_45, hc_44, h⟩ := bp_s h
  obtain ⟨g_63, h⟩ := gd_s h
  obtain ⟨x_64, m_65, e_66, e_67, h⟩ := nw_s h
  have g_73 := okc_nwF (c := 108) hF e_66 e_67
  have E_72 := ext_nw hF e_67
  have n_74 := Kr.nge (Kr.rf (W := fW_X5_becomeFirst) (e := 0) hF) e_66
  have w_75 := Kr.nw0 (kd := 108) (Kr.rf (W := fW_X5_becomeFirst) (e := 0) hF) e_67 (by decide +kernel) (by decide)
  have g_77 := Ext.ok E_72 g0
  obtain ⟨m_78, e_79, h⟩ := up_s h
  have E_82 := ext_up e_79 (And.left g_77) (by decide)
  have w_83 := Kr.upK (y := 0) w_75 e_79 (ext_up e_79 (And.left g_77) (by decide)) (And.left g_77) (fx_f (j := 0) (Kr.fix w_75) g_77 (by decide +kernel)) g_77 (Or.inr rfl) (by decide +kernel) g_77 (by decide) (by first | exact Or.inl (by decide) | exact Or.inr (by decide))
  have g_221 := Ext.ok E_82 g_77
  refine kwl_X5_becomeFirst_41 (Kr.fix w_83) g_221 ?_ (fun f => hQ (Kr.trS w_83 f)) BIG (Kr.rf (Kr.fix w_83)) h
  intro m_150 w_153
  intro h
  have E_151 := Kr.ext w_153
  have w_154 := Kr.trS w_83 w_153
  have g_155 := Ext.ok (Ext.tr E_82 E_151) g_77
  obtain ⟨m_156, e_157, h⟩ := up_s h
  have E_160 := ext_up e_157 (And.left g_155) (by decide)
  have w_161 := Kr.upK (y := 1) w_154 e_157 (ext_up e_157 (And.left g_155) (by decide)) (And.left g_155) (fx_f (j := 1) (Kr.fix w_154) g_155 (by decide +kernel)) g_155 (Or.inr rfl) (by decide +kernel) g_155 (by decide) (by first | exact Or.inl (by decide) | exact Or.inr (by decide))
  have g_167 := Ext.ok E_160 g_155
  obtain ⟨m_168, e_169, h⟩ := up_s h
  have E_172 := ext_up e_169 (And.left g_167) (by decide)
  have w_173 := Kr.upK (y := 2) w_161 e_169 (ext_up e_169 (And.left g_167) (by decide)) (And.left g_167) (fx_f (j := 2) (Kr.fix w_161) g_167 (by decide +kernel)) g_167 (Or.inr rfl) (by decide +kernel) g_167 (by decide) (by first | exact Or.inl (by decide) | exact Or.inr (by decide))
  have g_177 := Ext.ok E_172 g_167
  obtain ⟨x_179, e_180, h⟩ := lx_s h
  refine kwl_X5_becomeFirst_89 (Kr.fix w_173) g_177  (fun f => hQ (Kr.trS w_173 f)) BIG (Kr.rf (Kr.fix w_173)) h
set_option maxHeartbeats 4000000 in
theorem kw_X2_becomeFirst {m0 : MM} {p0 p1 p2 : Int} {rz : Int} {rm : MM} (hF : Fix m0) (g0 : okc m0 p0 3)
  (h : fm_X2_becomeFirst p0 p1 p2 m0 = some (rz, rm)) : Kr fW_X2_becomeFirst 0 0 m0 rm := by
  have hQ : Kr fW_X2_becomeFirst 0 0 m0 rm → Kr fW_X2_becomeFirst 0 0 m0 rm := id
  unfold fm_X2_becomeFirst at h
  obtain ⟨x_4, e_5, h⟩ := lx_s h
  obtain ⟨g_8, h⟩ := gd_s h
  obtain ⟨x_10, e_11, h⟩ := lx_s h
  obtain ⟨g_12, h⟩ := gd_s h
  obtain ⟨x_14, m_15, hc_13, h⟩ := bd_s h
  have w_22 := (kw_X5_becomeFirst hF g_12 hc_13)
  have E_20 := Kr.ext w_22
  have w_23 := Kr.tr0 (Kr.rf (W := fW_X2_becomeFirst) (e := 0) hF) w_22 (by decide +kernel)
  have g_25 := Ext.ok E_20 g0
  obtain ⟨x_27, m_28, hc_26, h⟩ := bd_s h
  have w_35 := (kw_X2_countAgain (Kr.fix w_23) g_25 hc_26)
  have E_33 := Kr.ext w_35
  have w_36 := Kr.tr0 w_23 w_35 (by decide +kernel)
  cases h
  exact hQ w_36
set_option maxHeartbeats 4000000 in
theorem kwl_J7_fill_53178_5 {P : Prop} {mb : MM} {y1 y3 : Int} {rz : Int} {rm : MM} (hF0 : Fix mb) (hQ : Kr fW_J7_fill_53178 0 0 mb rm → P) :
  ∀ (n : Nat) {m : MM} {y2 : Int} , Kr fW_J7_fill_53178 0 0 mb m → fl_J7_fill_53178_5 y1 y3 n y2 m = some (rz, rm) → P := by
  intro n
  induction n with
  | zero => intro m y2 w h; cases h
  | succ n ih0 =>
    intro m y2 w h
    have ih : ∀ mq : MM, Kr fW_J7_fill_53178 0 0 mb mq → ∀ {z2 : Int}, fl_J7_fill_53178_5 y1 y3 n z2 mq = some (rz, rm) → P := fun mq b => by intros; exact ih0 b ‹_›
    unfold fl_J7_fill_53178_5 at h
    rcases it_s h with ⟨hp_17, h⟩ | ⟨hp_17, h⟩
    · obtain ⟨g_18, h⟩ := gd_s h
      obtain ⟨m_19, e_20, h⟩ := up_s h
      have E_23 := ext_up e_20 (And.left (fx_kF (c := 100) (Kr.fix w) (by decide +kernel))) (And.left g_18)
      have w_24 := Kr.upC (y := (-9)) w e_20 (ext_up e_20 (And.left (fx_kF (c := 100) (Kr.fix w) (by decide +kernel))) (And.left g_18)) (And.left (fx_kF (c := 100) (Kr.fix w) (by decide +kernel))) (fx_a (Kr.fix w) (fx_kF (c := 100) (Kr.fix w) (by decide +kernel)) (And.left g_18) (by decide +kernel)) (Or.inl rfl) (by decide +kernel) (fx_kF (c := 100) (Kr.fix w) (by decide +kernel)) (And.left g_18) (by first | exact Or.inl (by decide) | exact Or.inr (by decide))
      obtain ⟨x_31, e_32, h⟩ := lx_s h
      exact ih m_19 w_24 h
    · cases h
      exact hQ w
set_option maxHeartbeats 4000000 in
theorem kw_J7_fill_53178 {m0 : MM} {p1 : Int} {rz : Int} {rm : MM} (hF : Fix m0)
  (h : fm_J7_fill_53178 p1 m0 = some (rz, rm)) : Kr fW_J7_fill_53178 0 0 m0 rm := by
  have hQ : Kr fW_J7_fill_53178 0 0 m0 rm → Kr fW_J7_fill_53178 0 0 m0 rm := id
  unfold fm_J7_fill_53178 at h
  refine kwl_J7_fill_53178_5 hF  hQ BIG (Kr.rf hF) h
set_option maxHeartbeats 4000000 in
theorem kwl_X8_clear_10 {P : Prop} {mb : MM} {k35 : MM → Option (Int × MM)} {rz : Int} {rm : MM} (hF0 : Fix mb)
  (hk35 : ∀ mq : MM, Kr fW_X8_clear 0 0 mb mq → k35 mq = some (rz, rm) → P) (hQ : Kr fW_X8_clear 0 0 mb rm → P) :
  ∀ (n : Nat) {m : MM} {y1 : Int} , Kr fW_X8_clear 0 0 mb m → fl_X8_clear_10 k35 n y1 m = some (rz, rm) → P := by
  intro n
  induction n with
  | zero => intro m y1 w h; cases h
  | succ n ih0 =>
    intro m y1 w h
    have ih : ∀ mq : MM, Kr fW_X8_clear 0 0 mb mq → ∀ {z1 : Int}, fl_X8_clear_10 k35 n z1 mq = some (rz, rm) → P := fun mq b => by intros; exact ih0 b ‹_›
    unfold fl_X8_clear_10 at h
    rcases it_s h with ⟨hp_30, h⟩ | ⟨hp_30, h⟩
    · obtain ⟨g_36, h⟩ := gd_s h
      obtain ⟨x_38, e_39, h⟩ := lx_s h
      obtain ⟨g_42, h⟩ := gd_s h
      obtain ⟨x_44, m_45, hc_43, h⟩ := bd_s h
      have w_52 := (kw_X5_cut (Kr.fix w) g_42 hc_43)
      have E_50 := Kr.ext w_52
      have w_53 := Kr.tr0 w w_52 (by decide +kernel)
      obtain ⟨x_60, e_61, h⟩ := lx_s h
      exact ih m_45 w_53 h
    · exact hk35 m w h
set_option maxHeartbeats 4000000 in
theorem kw_X8_clear {m0 : MM} {rz : Int} {rm : MM} (hF : Fix m0)
  (h : fm_X8_clear m0 = some (rz, rm)) : Kr fW_X8_clear 0 0 m0 rm := by
  have hQ : Kr fW_X8_clear 0 0 m0 rm → Kr fW_X8_clear 0 0 m0 rm := id
  unfold fm_X8_clear at h
  obtain ⟨x_7, m_8, hc_6, h⟩ := bd_s h
  have w_15 := (kw_J7_fill_53178 hF hc_6)
  have E_13 := Kr.ext w_15
  have w_16 := Kr.tr0 (Kr.rf (W := fW_X8_clear) (e := 0) hF) w_15 (by decide +kernel)
  refine kwl_X8_clear_10 (Kr.fix w_16) ?_ (fun f => hQ (Kr.trS w_16 f)) BIG (Kr.rf (Kr.fix w_16)) h
  intro m_70 w_73
  intro h
  have E_71 := Kr.ext w_73
  have w_74 := Kr.trS w_16 w_73
  obtain ⟨x_81, m_82, hc_80, h⟩ := bd_s h
  have w_89 := (kw_X5_cut (Kr.fix w_74) (fx_kF (c := 6) (Kr.fix w_74) (by decide +kernel)) hc_80)
  have E_87 := Kr.ext w_89
  have w_90 := Kr.tr0 w_74 w_89 (by decide +kernel)
  obtain ⟨m_94, e_95, h⟩ := up_s h
  have E_98 := ext_up e_95 (And.left (fx_kF (c := 9) (Kr.fix w_90) (by decide +kernel))) (by decide)
  have w_99 := Kr.upC (y := 4) w_90 e_95 (ext_up e_95 (And.left (fx_kF (c := 9) (Kr.fix w_90) (by decide +kernel))) (by decide)) (And.left (fx_kF (c := 9) (Kr.fix w_90) (by decide +kernel))) (fx_f (j := 4) (Kr.fix w_90) (fx_kF (c := 9) (Kr.fix w_90) (by decide +kernel)) (by decide +kernel)) (Or.inr rfl) (by decide +kernel) (fx_kF (c := 9) (Kr.fix w_90) (by decide +kernel)) (by decide) (by first | exact Or.inl (by decide) | exact Or.inr (by decide))
  obtain ⟨m_103, e_104, h⟩ := up_s h
  have E_107 := ext_up e_104 (And.left (fx_kF (c := 9) (Kr.fix w_99) (by decide +kernel))) (by decide)
  have w_108 := Kr.upC (y := 5) w_99 e_104 (ext_up e_104 (And.left (fx_kF (c := 9) (Kr.fix w_99) (by decide +kernel))) (by decide)) (And.left (fx_kF (c := 9) (Kr.fix w_99) (by decide +kernel))) (fx_f (j := 5) (Kr.fix w_99) (fx_kF (c := 9) (Kr.fix w_99) (by decide +kernel)) (by decide +kernel)) (Or.inr rfl) (by decide +kernel) (fx_kF (c := 9) (Kr.fix w_99) (by decide +kernel)) (by decide) (by first | exact Or.inl (by decide) | exact Or.inr (by decide))
  obtain ⟨m_112, e_113, h⟩ := up_s h
  have E_116 := ext_up e_113 (And.left (fx_kF (c := 9) (Kr.fix w_108) (by decide +kernel))) (by decide)
  have w_117 := Kr.upC (y := 6) w_108 e_113 (ext_up e_113 (And.left (fx_kF (c := 9) (Kr.fix w_108) (by decide +kernel))) (by decide)) (And.left (fx_kF (c := 9) (Kr.fix w_108) (by decide +kernel))) (fx_f (j := 6) (Kr.fix w_108) (fx_kF (c := 9) (Kr.fix w_108) (by decide +kernel)) (by decide +kernel)) (Or.inr rfl) (by decide +kernel) (fx_kF (c := 9) (Kr.fix w_108) (by decide +kernel)) (by decide) (by first | exact Or.inl (by decide) | exact Or.inr (by decide))
  obtain ⟨m_121, e_122, h⟩ := up_s h
  have E_125 := ext_up e_122 (And.left (fx_kF (c := 9) (Kr.fix w_117) (by decide +kernel))) (by decide)
  have w_126 := Kr.upC (y := 7) w_117 e_122 (ext_up e_122 (And.left (fx_kF (c := 9) (Kr.fix w_117) (by decide +kernel))) (by decide)) (And.left (fx_kF (c := 9) (Kr.fix w_117) (by decide +kernel))) (fx_f (j := 7) (Kr.fix w_117) (fx_kF (c := 9) (Kr.fix w_117) (by decide +kernel)) (by decide +kernel)) (Or.inr rfl) (by decide +kernel) (fx_kF (c := 9) (Kr.fix w_117) (by decide +kernel)) (by decide) (by first | exact Or.inl (by decide) | exact Or.inr (by decide))
  obtain ⟨m_130, e_131, h⟩ := up_s h
  have E_134 := ext_up e_131 (And.left (fx_kF (c := 9) (Kr.fix w_126) (by decide +kernel))) (by decide)
  have w_135 := Kr.upC (y := 8) w_126 e_131 (ext_up e_131 (And.left (fx_kF (c := 9) (Kr.fix w_126) (by decide +kernel))) (by decide)) (And.left (fx_kF (c := 9) (Kr.fix w_126) (by decide +kernel))) (fx_f (j := 8) (Kr.fix w_126) (fx_kF (c := 9) (Kr.fix w_126) (by decide +kernel)) (by decide +kernel)) (Or.inr rfl) (by decide +kernel) (fx_kF (c := 9) (Kr.fix w_126) (by decide +kernel)) (by decide) (by first | exact Or.inl (by decide) | exact Or.inr (by decide))
  obtain ⟨m_139, e_140, h⟩ := up_s h
  have E_143 := ext_up e_140 (And.left (fx_kF (c := 9) (Kr.fix w_135) (by decide +kernel))) (by decide)
  have w_144 := Kr.upC (y := 9) w_135 e_140 (ext_up e_140 (And.left (fx_kF (c := 9) (Kr.fix w_135) (by decide +kernel))) (by decide)) (And.left (fx_kF (c := 9) (Kr.fix w_135) (by decide +kernel))) (fx_f (j := 9) (Kr.fix w_135) (fx_kF (c := 9) (Kr.fix w_135) (by decide +kernel)) (by decide +kernel)) (Or.inr rfl) (by decide +kernel) (fx_kF (c := 9) (Kr.fix w_135) (by decide +kernel)) (by decide) (by first | exact Or.inl (by decide) | exact Or.inr (by decide))
  obtain ⟨m_148, e_149, h⟩ := up_s h
  have E_152 := ext_up e_149 (And.left (fx_kF (c := 9) (Kr.fix w_144) (by decide +kernel))) (by decide)
  have w_153 := Kr.upC (y := 10) w_144 e_149 (ext_up e_149 (And.left (fx_kF (c := 9) (Kr.fix w_144) (by decide +kernel))) (by decide)) (And.left (fx_kF (c := 9) (Kr.fix w_144) (by decide +kernel))) (fx_f (j := 10) (Kr.fix w_144) (fx_kF (c := 9) (Kr.fix w_144) (by decide +kernel)) (by decide +kernel)) (Or.inr rfl) (by decide +kernel) (fx_kF (c := 9) (Kr.fix w_144) (by decide +kernel)) (by decide) (by first | exact Or.inl (by decide) | exact Or.inr (by decide))
  obtain ⟨m_157, e_158, h⟩ := up_s h
  have E_161 := ext_up e_158 (And.left (fx_kF (c := 9) (Kr.fix w_153) (by decide +kernel))) (by decide)
  have w_162 := Kr.upC (y := 11) w_153 e_158 (ext_up e_158 (And.left (fx_kF (c := 9) (Kr.fix w_153) (by decide +kernel))) (by decide)) (And.left (fx_kF (c := 9) (Kr.fix w_153) (by decide +kernel))) (fx_f (j := 11) (Kr.fix w_153) (fx_kF (c := 9) (Kr.fix w_153) (by decide +kernel)) (by decide +kernel)) (Or.inr rfl) (by decide +kernel) (fx_kF (c := 9) (Kr.fix w_153) (by decide +kernel)) (by decide) (by first | exact Or.inl (by decide) | exact Or.inr (by decide))
  obtain ⟨m_166, e_167, h⟩ := up_s h
  have E_170 := ext_up e_167 (And.left (fx_kF (c := 9) (Kr.fix w_162) (by decide +kernel))) (by decide)
  have w_171 := Kr.upC (y := 12) w_162 e_167 (ext_up e_167 (And.left (fx_kF (c := 9) (Kr.fix w_162) (by decide +kernel))) (by decide)) (And.left (fx_kF (c := 9) (Kr.fix w_162) (by decide +kernel))) (fx_f (j := 12) (Kr.fix w_162) (fx_kF (c := 9) (Kr.fix w_162) (by decide +kernel)) (by decide +kernel)) (Or.inr rfl) (by decide +kernel) (fx_kF (c := 9) (Kr.fix w_162) (by decide +kernel)) (by decide) (by first | exact Or.inl (by decide) | exact Or.inr (by decide))
  obtain ⟨m_175, e_176, h⟩ := up_s h
  have E_179 := ext_up e_176 (And.left (fx_kF (c := 9) (Kr.fix w_171) (by decide +kernel))) (by decide)
  have w_180 := Kr.upC (y := 13) w_171 e_176 (ext_up e_176 (And.left (fx_kF (c := 9) (Kr.fix w_171) (by decide +kernel))) (by decide)) (And.left (fx_kF (c := 9) (Kr.fix w_171) (by decide +kernel))) (fx_f (j := 13) (Kr.fix w_171) (fx_kF (c := 9) (Kr.fix w_171) (by decide +kernel)) (by decide +kernel)) (Or.inr rfl) (by decide +kernel) (fx_kF (c := 9) (Kr.fix w_171) (by decide +kernel)) (by decide) (by first | exact Or.inl (by decide) | exact Or.inr (by decide))
  cases h
  exact hQ w_180
set_option maxHeartbeats 4000000 in
theorem kwj_X4_load_63 {P : Prop} {m : MM} {rz : Int} {rm : MM} (hF : Fix m) (hQ : Kr fW_X4_load 0 0 m rm → P)
  (h : fj_X4_load_63 m = some (rz, rm)) : P := by
  unfold fj_X4_load_63 at h
  obtain ⟨m_73, e_74, h⟩ := up_s h
  have E_77 := ext_up e_74 (And.left (fx_kF (c := 5) hF (by decide +kernel))) (by decide)
  have w_78 := Kr.upC (y := 7) (Kr.rf (W := fW_X4_load) (e := 0) hF) e_74 (ext_up e_74 (And.left (fx_kF (c := 5) hF (by decide +kernel))) (by decide)) (And.left (fx_kF (c := 5) hF (by decide +kernel))) (fx_f (j := 7) hF (fx_kF (c := 5) hF (by decide +kernel)) (by decide +kernel)) (Or.inr rfl) (by decide +kernel) (fx_kF (c := 5) hF (by decide +kernel)) (by decide) (by first | exact Or.inl (by decide) | exact Or.inr (by decide))
  obtain ⟨x_86, m_87, hc_85, h⟩ := bd_s h
  have w_94 := (kw_X2_cut (Kr.fix w_78) (fx_kF (c := 3) (Kr.fix w_78) (by decide +kernel)) hc_85)
  have E_92 := Kr.ext w_94
  have w_95 := Kr.tr0 w_78 w_94 (by decide +kernel)
  obtain ⟨m_99, e_100, h⟩ := up_s h
  have E_103 := ext_up e_100 (And.left (fx_kF (c := 5) (Kr.fix w_95) (by decide +kernel))) (by decide)
  have w_104 := Kr.upC (y := 8) w_95 e_100 (ext_up e_100 (And.left (fx_kF (c := 5) (Kr.fix w_95) (by decide +kernel))) (by decide)) (And.left (fx_kF (c := 5) (Kr.fix w_95) (by decide +kernel))) (fx_f (j := 8) (Kr.fix w_95) (fx_kF (c := 5) (Kr.fix w_95) (by decide +kernel)) (by decide +kernel)) (Or.inr rfl) (by decide +kernel) (fx_kF (c := 5) (Kr.fix w_95) (by decide +kernel)) (by decide) (by first | exact Or.inl (by decide) | exact Or.inr (by decide))
  obtain ⟨m_108, e_109, h⟩ := up_s h
  have E_112 := ext_up e_109 (And.left (fx_kF (c := 5) (Kr.fix w_104) (by decide +kernel))) (by decide)
  have w_113 := Kr.upC (y := 9) w_104 e_109 (ext_up e_109 (And.left (fx_kF (c := 5) (Kr.fix w_104) (by decide +kernel))) (by decide)) (And.left (fx_kF (c := 5) (Kr.fix w_104) (by decide +kernel))) (fx_f (j := 9) (Kr.fix w_104) (fx_kF (c := 5) (Kr.fix w_104) (by decide +kernel)) (by decide +kernel)) (Or.inr rfl) (by decide +kernel) (fx_kF (c := 5) (Kr.fix w_104) (by decide +kernel)) (by decide) (by first | exact Or.inl (by decide) | exact Or.inr (by decide))
  obtain ⟨m_117, e_118, h⟩ := up_s h
  have E_121 := ext_up e_118 (And.left (fx_kF (c := 5) (Kr.fix w_113) (by decide +kernel))) (by decide)
  have w_122 := Kr.upC (y := 10) w_113 e_118 (ext_up e_118 (And.left (fx_kF (c := 5) (Kr.fix w_113) (by decide +kernel))) (by decide)) (And.left (fx_kF (c := 5) (Kr.fix w_113) (by decide +kernel))) (fx_f (j := 10) (Kr.fix w_113) (fx_kF (c := 5) (Kr.fix w_113) (by decide +kernel)) (by decide +kernel)) (Or.inr rfl) (by decide +kernel) (fx_kF (c := 5) (Kr.fix w_113) (by decide +kernel)) (by decide) (by first | exact Or.inl (by decide) | exact Or.inr (by decide))
  obtain ⟨m_126, e_127, h⟩ := up_s h
  have E_130 := ext_up e_127 (And.left (fx_kF (c := 5) (Kr.fix w_122) (by decide +kernel))) (by decide)
  have w_131 := Kr.upC (y := 11) w_122 e_127 (ext_up e_127 (And.left (fx_kF (c := 5) (Kr.fix w_122) (by decide +kernel))) (by decide)) (And.left (fx_kF (c := 5) (Kr.fix w_122) (by decide +kernel))) (fx_f (j := 11) (Kr.fix w_122) (fx_kF (c := 5) (Kr.fix w_122) (by decide +kernel)) (by decide +kernel)) (Or.inr rfl) (by decide +kernel) (fx_kF (c := 5) (Kr.fix w_122) (by decide +kernel)) (by decide) (by first | exact Or.inl (by decide) | exact Or.inr (by decide))
  cases h
  exact hQ w_131
set_option maxHeartbeats 4000000 in
theorem kwj_X4_load_56 {P : Prop} {m : MM} {rz : Int} {rm : MM} (hF : Fix m) (hQ : Kr fW_X4_load 0 0 m rm → P)
  (h : fj_X4_load_56 m = some (rz, rm)) : P := by
  unfold fj_X4_load_56 at h
  obtain ⟨x_60, m_61, hc_59, h⟩ := bd_s h
  have w_68 := (kw_X8_clear hF hc_59)
  have E_66 := Kr.ext w_68
  have w_69 := Kr.tr0 (Kr.rf (W := fW_X4_load) (e := 0) hF) w_68 (by decide +kernel)
  exact kwj_X4_load_63 (Kr.fix w_69) (fun f => hQ (Kr.trS w_69 f)) h
set_option maxHeartbeats 4000000 in
theorem kwj_X4_load_32 {P : Prop} {m : MM} {y1 y3 s0 : Int} {rz : Int} {rm : MM} (hF : Fix m) (hQ : Kr fW_X4_load 0 0 m rm → P)
  (h : fj_X4_load_32 y1 y3 s0 m = some (rz, rm)) : P := by
  unfold fj_X4_load_32 at h
  obtain ⟨m_33, e_34, h⟩ := up_s h
  have E_37 := ext_up e_34 (And.left (fx_kF (c := 5) hF (by decide +kernel))) (by decide)
  have w_38 := Kr.upC (y := 5) (Kr.rf (W := fW_X4_load) (e := 0) hF) e_34 (ext_up e_34 (And.left (fx_kF (c := 5) hF (by decide +kernel))) (by decide)) (And.left (fx_kF (c := 5) hF (by decide +kernel))) (fx_f (j := 5) hF (fx_kF (c := 5) hF (by decide +kernel)) (by decide +kernel)) (Or.inr rfl) (by decide +kernel) (fx_kF (c := 5) hF (by decide +kernel)) (by decide) (by first | exact Or.inl (by decide) | exact Or.inr (by decide))
  obtain ⟨g_42, h⟩ := gd_s h
  obtain ⟨x_44, e_45, h⟩ := lx_s h
  obtain ⟨m_46, e_47, h⟩ := up_s h
  have E_50 := ext_up e_47 (And.left (fx_kF (c := 5) (Kr.fix w_38) (by decide +kernel))) (by decide)
  have w_51 := Kr.upC (y := 6) w_38 e_47 (ext_up e_47 (And.left (fx_kF (c := 5) (Kr.fix w_38) (by decide +kernel))) (by decide)) (And.left (fx_kF (c := 5) (Kr.fix w_38) (by decide +kernel))) (fx_f (j := 6) (Kr.fix w_38) (fx_kF (c := 5) (Kr.fix w_38) (by decide +kernel)) (by decide +kernel)) (Or.inr rfl) (by decide +kernel) (fx_kF (c := 5) (Kr.fix w_38) (by decide +kernel)) (by decide) (by first | exact Or.inl (by decide) | exact Or.inr (by decide))
  rcases it_s h with ⟨hp_55, h⟩ | ⟨hp_55, h⟩
  · obtain ⟨x_136, e_137, h⟩ := lx_s h
    obtain ⟨g_139, h⟩ := gd_s h
    have g_140 := Ext.ok E_50 g_42
    rcases it_s h with ⟨hp_138, h⟩ | ⟨hp_138, h⟩
    · exact kwj_X4_load_63 (Kr.fix w_51) (fun f => hQ (Kr.trS w_51 f)) h
    · exact kwj_X4_load_56 (Kr.fix w_51) (fun f => hQ (Kr.trS w_51 f)) h
  · exact kwj_X4_load_56 (Kr.fix w_51) (fun f => hQ (Kr.trS w_51 f)) h
set_option maxHeartbeats 4000000 in
theorem kw_X4_load {m0 : MM} {p1 p2 p3 : Int} {rz : Int} {rm : MM} (hF : Fix m0)
  (h : fm_X4_load p1 p2 p3 m0 = some (rz, rm)) : Kr fW_X4_load 0 0 m0 rm := by
  have hQ : Kr fW_X4_load 0 0 m0 rm → Kr fW_X4_load 0 0 m0 rm := id
  unfold fm_X4_load at h
  obtain ⟨g_3, h⟩ := gd_s h
  obtain ⟨x_5, e_6, h⟩ := lx_s h
  obtain ⟨m_7, e_8, h⟩ := up_s h
  have E_11 := ext_up e_8 (And.left (fx_kF (c := 5) hF (by decide +kernel))) (by decide)
  have w_12 := Kr.upC (y := 2) (Kr.rf (W := fW_X4_load) (e := 0) hF) e_8 (ext_up e_8 (And.left (fx_kF (c := 5) hF (by decide +kernel))) (by decide)) (And.left (fx_kF (c := 5) hF (by decide +kernel))) (fx_f (j := 2) hF (fx_kF (c := 5) hF (by decide +kernel)) (by decide +kernel)) (Or.inr rfl) (by decide +kernel) (fx_kF (c := 5) hF (by decide +kernel)) (by decide) (by first | exact Or.inl (by decide) | exact Or.inr (by decide))
  obtain ⟨m_14, e_15, h⟩ := up_s h
  have E_18 := ext_up e_15 (And.left (fx_kF (c := 5) (Kr.fix w_12) (by decide +kernel))) (by decide)
  have w_19 := Kr.upC (y := 3) w_12 e_15 (ext_up e_15 (And.left (fx_kF (c := 5) (Kr.fix w_12) (by decide +kernel))) (by decide)) (And.left (fx_kF (c := 5) (Kr.fix w_12) (by decide +kernel))) (fx_f (j := 3) (Kr.fix w_12) (fx_kF (c := 5) (Kr.fix w_12) (by decide +kernel)) (by decide +kernel)) (Or.inr rfl) (by decide +kernel) (fx_kF (c := 5) (Kr.fix w_12) (by decide +kernel)) (by decide) (by first | exact Or.inl (by decide) | exact Or.inr (by decide))
  obtain ⟨m_21, e_22, h⟩ := up_s h
  have E_25 := ext_up e_22 (And.left (fx_kF (c := 5) (Kr.fix w_19) (by decide +kernel))) (by decide)
  have w_26 := Kr.upC (y := 4) w_19 e_22 (ext_up e_22 (And.left (fx_kF (c := 5) (Kr.fix w_19) (by decide +kernel))) (by decide)) (And.left (fx_kF (c := 5) (Kr.fix w_19) (by decide +kernel))) (fx_f (j := 4) (Kr.fix w_19) (fx_kF (c := 5) (Kr.fix w_19) (by decide +kernel)) (by decide +kernel)) (Or.inr rfl) (by decide +kernel) (fx_kF (c := 5) (Kr.fix w_19) (by decide +kernel)) (by decide) (by first | exact Or.inl (by decide) | exact Or.inr (by decide))
  rcases it_s h with ⟨hp_30, h⟩ | ⟨hp_30, h⟩
  · have g_143 := Ext.ok (Ext.tr (Ext.tr E_11 E_18) E_25) g_3
    obtain ⟨x_145, e_146, h⟩ := lx_s h
    exact kwj_X4_load_32 (Kr.fix w_26) (fun f => hQ (Kr.trS w_26 f)) h
  · exact kwj_X4_load_32 (Kr.fix w_26) (fun f => hQ (Kr.trS w_26 f)) h
set_option maxHeartbeats 4000000 in
theorem kw_X8_set {m0 : MM} {p1 p2 : Int} {rz : Int} {rm : MM} (hF : Fix m0)
  (h : fm_X8_set p1 p2 m0 = some (rz, rm)) : Kr fW_X8_set 0 0 m0 rm := by
  have hQ : Kr fW_X8_set 0 0 m0 rm → Kr fW_X8_set 0 0 m0 rm := id
  unfold fm_X8_set at h
  rcases it_s h with ⟨hp_1, h⟩ | ⟨hp_1, h⟩
  · cases h
    exact hQ (Kr.rf (W := fW_X8_set) (e := 0) hF)
  · rcases it_s h with ⟨hp_8, h⟩ | ⟨hp_8, h⟩
    · obtain ⟨g_12, h⟩ := gd_s h
      obtain ⟨m_13, e_14, h⟩ := up_s h
      have E_17 := ext_up e_14 (And.left (fx_kF (c := 100) hF (by decide +kernel))) (And.left g_12)
      have w_18 := Kr.upC (y := (-9)) (Kr.rf (W := fW_X8_set) (e := 0) hF) e_14 (ext_up e_14 (And.left (fx_kF (c := 100) hF (by decide +kernel))) (And.left g_12)) (And.left (fx_kF (c := 100) hF (by decide +kernel))) (fx_a hF (fx_kF (c := 100) hF (by decide +kernel)) (And.left g_12) (by decide +kernel)) (Or.inl rfl) (by decide +kernel) (fx_kF (c := 100) hF (by decide +kernel)) (And.left g_12) (by first | exact Or.inl (by decide) | exact Or.inr (by decide))
      cases h
      exact hQ w_18
    · cases h
      exact hQ (Kr.rf (W := fW_X8_set) (e := 0) hF)
set_option maxHeartbeats 4000000 in
theorem kw_X8_beginBranch {m0 : MM} {p1 p2 : Int} {rz : Int} {rm : MM} (hF : Fix m0)
  (h : fm_X8_beginBranch p1 p2 m0 = some (rz, rm)) : Kr fW_X8_beginBranch 0 0 m0 rm := by
  have hQ : Kr fW_X8_beginBranch 0 0 m0 rm → Kr fW_X8_beginBranch 0 0 m0 rm := id
  unfold fm_X8_beginBranch at h
  obtain ⟨x_4, e_5, h⟩ := lx_s h
  obtain ⟨x_15, e_16, h⟩ := lx_s h
  rcases it_s h with ⟨hp_23, h⟩ | ⟨hp_23, h⟩
  · obtain ⟨g_32, h⟩ := gd_s h
    obtain ⟨x_34, e_35, h⟩ := lx_s h
    obtain ⟨g_36, h⟩ := gd_s h
    obtain ⟨x_38, m_39, hc_37, h⟩ := bd_s h
    have w_46 := (kw_X1_start hF g_36 hc_37)
    have E_44 := Kr.ext w_46
    have w_47 := Kr.tr0 (Kr.rf (W := fW_X8_beginBranch) (e := 0) hF) w_46 (by decide +kernel)
    obtain ⟨x_52, e_53, h⟩ := lx_s h
    obtain ⟨m_58, e_59, h⟩ := up_s h
    have E_62 := ext_up e_59 (And.left (fx_kF (c := 9) (Kr.fix w_47) (by decide +kernel))) (by decide)
    have w_63 := Kr.upC (y := 5) w_47 e_59 (ext_up e_59 (And.left (fx_kF (c := 9) (Kr.fix w_47) (by decide +kernel))) (by decide)) (And.left (fx_kF (c := 9) (Kr.fix w_47) (by decide +kernel))) (fx_f (j := 5) (Kr.fix w_47) (fx_kF (c := 9) (Kr.fix w_47) (by decide +kernel)) (by decide +kernel)) (Or.inr rfl) (by decide +kernel) (fx_kF (c := 9) (Kr.fix w_47) (by decide +kernel)) (by decide) (by first | exact Or.inl (by decide) | exact Or.inr (by decide))
    obtain ⟨x_68, e_69, h⟩ := lx_s h
    obtain ⟨m_74, e_75, h⟩ := up_s h
    have E_78 := ext_up e_75 (And.left (fx_kF (c := 9) (Kr.fix w_63) (by decide +kernel))) (by decide)
    have w_79 := Kr.upC (y := 6) w_63 e_75 (ext_up e_75 (And.left (fx_kF (c := 9) (Kr.fix w_63) (by decide +kernel))) (by decide)) (And.left (fx_kF (c := 9) (Kr.fix w_63) (by decide +kernel))) (fx_f (j := 6) (Kr.fix w_63) (fx_kF (c := 9) (Kr.fix w_63) (by decide +kernel)) (by decide +kernel)) (Or.inr rfl) (by decide +kernel) (fx_kF (c := 9) (Kr.fix w_63) (by decide +kernel)) (by decide) (by first | exact Or.inl (by decide) | exact Or.inr (by decide))
    cases h
    exact hQ w_79
  · cases h
    exact hQ (Kr.rf (W := fW_X8_beginBranch) (e := 0) hF)
set_option maxHeartbeats 4000000 in
theorem kw_X4_getStuck {m0 : MM} {p1 : Int} {rz : Int} {rm : MM} (hF : Fix m0)
  (h : fm_X4_getStuck p1 m0 = some (rz, rm)) : Kr fW_X4_getStuck 0 0 m0 rm := by
  have hQ : Kr fW_X4_getStuck 0 0 m0 rm → Kr fW_X4_getStuck 0 0 m0 rm := id
  unfold fm_X4_getStuck at h
  obtain ⟨m_3, e_4, h⟩ := up_s h
  have E_7 := ext_up e_4 (And.left (fx_kF (c := 5) hF (by decide +kernel))) (by decide)
  have w_8 := Kr.upC (y := 10) (Kr.rf (W := fW_X4_getStuck) (e := 0) hF) e_4 (ext_up e_4 (And.left (fx_kF (c := 5) hF (by decide +kernel))) (by decide)) (And.left (fx_kF (c := 5) hF (by decide +kernel))) (fx_f (j := 10) hF (fx_kF (c := 5) hF (by decide +kernel)) (by decide +kernel)) (Or.inr rfl) (by decide +kernel) (fx_kF (c := 5) hF (by decide +kernel)) (by decide) (by first | exact Or.inl (by decide) | exact Or.inr (by decide))
  obtain ⟨m_10, e_11, h⟩ := up_s h
  have E_14 := ext_up e_11 (And.left (fx_kF (c := 5) (Kr.fix w_8) (by decide +kernel))) (by decide)
  have w_15 := Kr.upC (y := 11) w_8 e_11 (ext_up e_11 (And.left (fx_kF (c := 5) (Kr.fix w_8) (by decide +kernel))) (by decide)) (And.left (fx_kF (c := 5) (Kr.fix w_8) (by decide +kernel))) (fx_f (j := 11) (Kr.fix w_8) (fx_kF (c := 5) (Kr.fix w_8) (by decide +kernel)) (by decide +kernel)) (Or.inr rfl) (by decide +kernel) (fx_kF (c := 5) (Kr.fix w_8) (by decide +kernel)) (by decide) (by first | exact Or.inl (by decide) | exact Or.inr (by decide))
  cases h
  exact hQ w_15
set_option maxHeartbeats 4000000 in
theorem kwj_X4_command_65 {P : Prop} {m : MM} {y4 : Int} {rz : Int} {rm : MM} (hF : Fix m) (hQ : Kr fW_X4_command 0 0 m rm → P)
  (h : fj_X4_command_65 y4 m = some (rz, rm)) : P := by
  unfold fj_X4_command_65 at h
  obtain ⟨m_162, e_163, h⟩ := up_s h
  have E_166 := ext_up e_163 (And.left (fx_kF (c := 9) hF (by decide +kernel))) (by decide)
  have w_167 := Kr.upC (y := 12) (Kr.rf (W := fW_X4_command) (e := 0) hF) e_163 (ext_up e_163 (And.left (fx_kF (c := 9) hF (by decide +kernel))) (by decide)) (And.left (fx_kF (c := 9) hF (by decide +kernel))) (fx_f (j := 12) hF (fx_kF (c := 9) hF (by decide +kernel)) (by decide +kernel)) (Or.inr rfl) (by decide +kernel) (fx_kF (c := 9) hF (by decide +kernel)) (by decide) (by first | exact Or.inl (by decide) | exact Or.inr (by decide))
  cases h
  exact hQ w_167
set_option maxHeartbeats 4000000 in
theorem kw_X4_command {m0 : MM} {p1 p2 p3 : Int} {rz : Int} {rm : MM} (hF : Fix m0)
  (h : fm_X4_command p1 p2 p3 m0 = some (rz, rm)) : Kr fW_X4_command 0 0 m0 rm := by
  have hQ : Kr fW_X4_command 0 0 m0 rm → Kr fW_X4_command 0 0 m0 rm := id
  unfold fm_X4_command at h
  obtain ⟨x_4, e_5, h⟩ := lx_s h
  obtain ⟨x_12, e_13, h⟩ := lx_s h
  obtain ⟨g_14, h⟩ := gd_s h
  obtain ⟨x_16, hc_15, h⟩ := bp_s h
  obtain ⟨m_34, e_35, h⟩ := up_s h
  have E_38 := ext_up e_35 (And.left (fx_kF (c := 9) hF (by decide +kernel))) (by decide)
  have w_39 := Kr.upC (y := 12) (Kr.rf (W := fW_X4_command) (e := 0) hF) e_35 (ext_up e_35 (And.left (fx_kF (c := 9) hF (by decide +kernel))) (by decide)) (And.left (fx_kF (c := 9) hF (by decide +kernel))) (fx_f (j := 12) hF (fx_kF (c := 9) hF (by decide +kernel)) (by decide +kernel)) (Or.inr rfl) (by decide +kernel) (fx_kF (c := 9) hF (by decide +kernel)) (by decide) (by first | exact Or.inl (by decide) | exact Or.inr (by decide))
  obtain ⟨x_42, hc_41, h⟩ := bp_s h
  rcases it_s h with ⟨hp_50, h⟩ | ⟨hp_50, h⟩
  · obtain ⟨x_150, e_151, h⟩ := lx_s h
    rcases it_s h with ⟨hp_154, h⟩ | ⟨hp_154, h⟩
    · exact kwj_X4_command_65 (Kr.fix w_39) (fun f => hQ (Kr.trS w_39 f)) h
    · obtain ⟨x_172, e_173, h⟩ := lx_s h
      obtain ⟨g_174, h⟩ := gd_s h
      obtain ⟨x_176, hc_175, h⟩ := bp_s h
      rcases it_s h with ⟨hp_184, h⟩ | ⟨hp_184, h⟩
      · obtain ⟨x_186, m_187, hc_185, h⟩ := bd_s h
        have w_194 := (kw_X4_getStuck (Kr.fix w_39) hc_185)
        have E_192 := Kr.ext w_194
        have w_195 := Kr.tr0 w_39 w_194 (by decide +kernel)
        cases h
        exact hQ w_195
      · exact kwj_X4_command_65 (Kr.fix w_39) (fun f => hQ (Kr.trS w_39 f)) h
  · obtain ⟨x_57, e_58, h⟩ := lx_s h
    obtain ⟨x_62, e_63, h⟩ := lx_s h
    obtain ⟨g_66, h⟩ := gd_s h
    obtain ⟨x_68, e_69, h⟩ := lx_s h
    rcases it_s h with ⟨hp_70, h⟩ | ⟨hp_70, h⟩
    · obtain ⟨x_125, hc_124, h⟩ := bp_s h
      obtain ⟨x_134, m_135, hc_133, h⟩ := bd_s h
      have w_142 := (kw_X4_getStuck (Kr.fix w_39) hc_133)
      have E_140 := Kr.ext w_142
      have w_143 := Kr.tr0 w_39 w_142 (by decide +kernel)
      cases h
      exact hQ w_143
    · obtain ⟨x_79, m_80, hc_78, h⟩ := bd_s h
      have w_87 := (kw_X2_put (Kr.fix w_39) (fx_kF (c := 3) (Kr.fix w_39) (by decide +kernel)) hc_78)
      have E_85 := Kr.ext w_87
      have w_88 := Kr.tr0 w_39 w_87 (by decide +kernel)
      obtain ⟨x_93, e_94, h⟩ := lx_s h
      obtain ⟨g_97, h⟩ := gd_s h
      obtain ⟨x_99, e_100, h⟩ := lx_s h
      obtain ⟨x_107, e_108, h⟩ := lx_s h
      cases h
      exact hQ w_88
end KW01
