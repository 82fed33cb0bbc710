/-! THE ROOM: how many objects there are: what each method makes (written by wip/whole/gen/gen951.py), 04. -/
section KW04
set_option maxHeartbeats 4000000 in
theorem kw_X11_update {m0 : MM} {p1 p2 p3 : Int} {rr : Int ⊕ Nat} {rm : MM} (hF : Fix m0)
  (h : fm_X11_update p1 p2 p3 m0 = some (rr, rm)) : Kr fW_X11_update 0 (tn rr) m0 rm := by
  have hQ : Kr fW_X11_update 0 (tn rr) m0 rm → Kr fW_X11_update 0 (tn rr) m0 rm := id
  unfold fm_X11_update at h
  obtain ⟨rr5, m_3, hc_1, h⟩ := bx_s h
  rcases h with ⟨q_10, rfl, h⟩ | ⟨x_2, rfl, h⟩
  · cases h
    have w_12 := (kw_X11_runAt hF hc_1)
    have E_8 := Kr.ext w_12
    have w_13 := Kr.tr0 (Kr.rf (W := fW_X11_update) (e := 0) hF) w_12 (by decide +kernel)
    exact hQ w_13
  have w_14 := (kw_X11_runAt hF hc_1)
  have E_8 := Kr.ext w_14
  have w_15 := Kr.tr0 (Kr.rf (W := fW_X11_update) (e := 0) hF) w_14 (by decide +kernel)
  obtain ⟨rr5, m_25, hc_23, h⟩ := bx_s h
  rcases h with ⟨q_32, rfl, h⟩ | ⟨x_24, rfl, h⟩
  · cases h
    have w_34 := (kw_X11_checkName (Kr.fix w_15) hc_23)
    have E_30 := Kr.ext w_34
    have w_35 := Kr.tr0 w_15 w_34 (by decide +kernel)
    exact hQ w_35
  have w_36 := (kw_X11_checkName (Kr.fix w_15) hc_23)
  have E_30 := Kr.ext w_36
  have w_37 := Kr.tr0 w_15 w_36 (by decide +kernel)
  obtain ⟨rr5, m_41, hc_39, h⟩ := bx_s h
  rcases h with ⟨q_48, rfl, h⟩ | ⟨x_40, rfl, h⟩
  · cases h
    have w_50 := (kw_X11_checkValue (Kr.fix w_37) hc_39)
    have E_46 := Kr.ext w_50
    have w_51 := Kr.tr0 w_37 w_50 (by decide +kernel)
    exact hQ w_51
  have w_52 := (kw_X11_checkValue (Kr.fix w_37) hc_39)
  have E_46 := Kr.ext w_52
  have w_53 := Kr.tr0 w_37 w_52 (by decide +kernel)
  obtain ⟨g_57, h⟩ := gd_s h
  obtain ⟨x_59, e_60, h⟩ := lx_s h
  rcases it_s h with ⟨hp_61, h⟩ | ⟨hp_61, h⟩
  · obtain ⟨x_65, e_66, h⟩ := lx_s h
    obtain ⟨g_69, h⟩ := gd_s h
    obtain ⟨x_71, e_72, h⟩ := lx_s h
    rcases it_s h with ⟨hp_75, h⟩ | ⟨hp_75, h⟩
    · obtain ⟨x_82, e_83, h⟩ := lx_s h
      obtain ⟨x_85, hc_84, h⟩ := bp_s h
      obtain ⟨x_99, e_100, h⟩ := lx_s h
      obtain ⟨x_104, m_105, hc_103, h⟩ := bd_s h
      have w_112 := (kw_X4_follow (Kr.fix w_53) hc_103)
      have E_110 := Kr.ext w_112
      have w_113 := Kr.tr0 w_53 w_112 (by decide +kernel)
      rcases it_s h with ⟨hp_122, h⟩ | ⟨hp_122, h⟩
      · cases h
        exact hQ w_113
      · have g_127 := Ext.ok E_110 g_57
        obtain ⟨x_129, e_130, h⟩ := lx_s h
        obtain ⟨g_131, h⟩ := gd_s h
        obtain ⟨x_133, hc_132, h⟩ := bp_s h
        rcases it_s h with ⟨hp_141, h⟩ | ⟨hp_141, h⟩
        · obtain ⟨x_151, hc_150, h⟩ := bp_s h
          rcases it_s h with ⟨hp_159, h⟩ | ⟨hp_159, h⟩
          · cases h
            exact hQ w_113
          · obtain ⟨x_163, m_164, hc_162, h⟩ := bd_s h
            have w_171 := (kw_X11_arrive (Kr.fix w_113) hc_162)
            have E_169 := Kr.ext w_171
            have w_172 := Kr.tr0 w_113 w_171 (by decide +kernel)
            cases h
            exact hQ w_172
        · cases h
          exact hQ w_113
    · cases h
      exact hQ (Kr.thr w_53 (by decide +kernel))
  · cases h
    exact hQ (Kr.thr w_53 (by decide +kernel))
set_option maxHeartbeats 4000000 in
theorem kw_X11_cancelRun {m0 : MM} {p1 : Int} {rz : Int} {rm : MM} (hF : Fix m0)
  (h : fm_X11_cancelRun p1 m0 = some (rz, rm)) : Kr fW_X11_cancelRun 0 0 m0 rm := by
  have hQ : Kr fW_X11_cancelRun 0 0 m0 rm → Kr fW_X11_cancelRun 0 0 m0 rm := id
  unfold fm_X11_cancelRun at h
  obtain ⟨g_3, h⟩ := gd_s h
  obtain ⟨x_5, e_6, h⟩ := lx_s h
  obtain ⟨g_9, h⟩ := gd_s h
  obtain ⟨x_11, hc_10, h⟩ := bp_s h
  rcases it_s h with ⟨hp_19, h⟩ | ⟨hp_19, h⟩
  · obtain ⟨x_27, m_28, hc_26, h⟩ := bd_s h
    have w_35 := (kw_X11_arrive hF hc_26)
    have E_33 := Kr.ext w_35
    have w_36 := Kr.tr0 (Kr.rf (W := fW_X11_cancelRun) (e := 0) hF) w_35 (by decide +kernel)
    cases h
    exact hQ w_36
  · cases h
    exact hQ (Kr.rf (W := fW_X11_cancelRun) (e := 0) hF)
set_option maxHeartbeats 4000000 in
theorem kw_X11_cancel {m0 : MM} {p1 : Int} {rr : Int ⊕ Nat} {rm : MM} (hF : Fix m0)
  (h : fm_X11_cancel p1 m0 = some (rr, rm)) : Kr fW_X11_cancel 0 (tn rr) m0 rm := by
  have hQ : Kr fW_X11_cancel 0 (tn rr) m0 rm → Kr fW_X11_cancel 0 (tn rr) m0 rm := id
  unfold fm_X11_cancel at h
  obtain ⟨rr5, m_3, hc_1, h⟩ := bx_s h
  rcases h with ⟨q_10, rfl, h⟩ | ⟨x_2, rfl, h⟩
  · cases h
    have w_12 := (kw_X11_runAt hF hc_1)
    have E_8 := Kr.ext w_12
    have w_13 := Kr.tr0 (Kr.rf (W := fW_X11_cancel) (e := 0) hF) w_12 (by decide +kernel)
    exact hQ w_13
  have w_14 := (kw_X11_runAt hF hc_1)
  have E_8 := Kr.ext w_14
  have w_15 := Kr.tr0 (Kr.rf (W := fW_X11_cancel) (e := 0) hF) w_14 (by decide +kernel)
  obtain ⟨g_21, h⟩ := gd_s h
  obtain ⟨x_23, hc_22, h⟩ := bp_s h
  rcases it_s h with ⟨hp_31, h⟩ | ⟨hp_31, h⟩
  · cases h
    exact hQ (Kr.thr w_15 (by decide +kernel))
  · obtain ⟨x_33, m_34, hc_32, h⟩ := bd_s h
    have w_41 := (kw_X11_cancelRun (Kr.fix w_15) hc_32)
    have E_39 := Kr.ext w_41
    have w_42 := Kr.tr0 w_15 w_41 (by decide +kernel)
    obtain ⟨g_44, h⟩ := gd_s h
    cases h
    exact hQ w_42
set_option maxHeartbeats 4000000 in
theorem kw_X11_checkVariable {m0 : MM} {p1 : Int} {rr : Int ⊕ Nat} {rm : MM} (hF : Fix m0)
  (h : fm_X11_checkVariable p1 m0 = some (rr, rm)) : Kr fW_X11_checkVariable 0 (tn rr) m0 rm := by
  have hQ : Kr fW_X11_checkVariable 0 (tn rr) m0 rm → Kr fW_X11_checkVariable 0 (tn rr) m0 rm := id
  unfold fm_X11_checkVariable at h
  rcases it_s h with ⟨hp_1, h⟩ | ⟨hp_1, h⟩
  · cases h
    exact hQ (Kr.thr (Kr.rf (W := fW_X11_checkVariable) (e := 0) hF) (by decide +kernel))
  · rcases it_s h with ⟨hp_4, h⟩ | ⟨hp_4, h⟩
    · cases h
      exact hQ (Kr.rf (W := fW_X11_checkVariable) (e := 0) hF)
    · cases h
      exact hQ (Kr.thr (Kr.rf (W := fW_X11_checkVariable) (e := 0) hF) (by decide +kernel))
set_option maxHeartbeats 4000000 in
theorem kw_X11_query {m0 : MM} {p1 p2 : Int} {rr : Int ⊕ Nat} {rm : MM} (hF : Fix m0)
  (h : fm_X11_query p1 p2 m0 = some (rr, rm)) : Kr fW_X11_query 0 (tn rr) m0 rm := by
  have hQ : Kr fW_X11_query 0 (tn rr) m0 rm → Kr fW_X11_query 0 (tn rr) m0 rm := id
  unfold fm_X11_query at h
  obtain ⟨rr5, m_3, hc_1, h⟩ := bx_s h
  rcases h with ⟨q_10, rfl, h⟩ | ⟨x_2, rfl, h⟩
  · cases h
    have w_12 := (kw_X11_runAt hF hc_1)
    have E_8 := Kr.ext w_12
    have w_13 := Kr.tr0 (Kr.rf (W := fW_X11_query) (e := 0) hF) w_12 (by decide +kernel)
    exact hQ w_13
  have w_14 := (kw_X11_runAt hF hc_1)
  have E_8 := Kr.ext w_14
  have w_15 := Kr.tr0 (Kr.rf (W := fW_X11_query) (e := 0) hF) w_14 (by decide +kernel)
  obtain ⟨rr5, m_24, hc_22, h⟩ := bx_s h
  rcases h with ⟨q_31, rfl, h⟩ | ⟨x_23, rfl, h⟩
  · cases h
    have w_33 := (kw_X11_checkVariable (Kr.fix w_15) hc_22)
    have E_29 := Kr.ext w_33
    have w_34 := Kr.tr0 w_15 w_33 (by decide +kernel)
    exact hQ w_34
  have w_35 := (kw_X11_checkVariable (Kr.fix w_15) hc_22)
  have E_29 := Kr.ext w_35
  have w_36 := Kr.tr0 w_15 w_35 (by decide +kernel)
  obtain ⟨g_43, h⟩ := gd_s h
  obtain ⟨x_45, e_46, h⟩ := lx_s h
  obtain ⟨x_48, hc_47, h⟩ := bp_s h
  obtain ⟨x_59, e_60, h⟩ := lx_s h
  obtain ⟨g_63, h⟩ := gd_s h
  obtain ⟨x_65, e_66, h⟩ := lx_s h
  obtain ⟨x_70, m_71, hc_69, h⟩ := bd_s h
  have w_78 := (kw_X4_follow (Kr.fix w_36) hc_69)
  have E_76 := Kr.ext w_78
  have w_79 := Kr.tr0 w_36 w_78 (by decide +kernel)
  rcases it_s h with ⟨hp_81, h⟩ | ⟨hp_81, h⟩
  · cases h
    exact hQ (Kr.thr w_79 (by decide +kernel))
  · obtain ⟨x_89, hc_88, h⟩ := bp_s h
    cases h
    exact hQ w_79
set_option maxHeartbeats 4000000 in
theorem kw_X11_plain {m0 : MM} {p1 p2 : Int} {rr : Int ⊕ Nat} {rm : MM} (hF : Fix m0)
  (h : fm_X11_plain p1 p2 m0 = some (rr, rm)) : Kr fW_X11_plain 0 (tn rr) m0 rm := by
  have hQ : Kr fW_X11_plain 0 (tn rr) m0 rm → Kr fW_X11_plain 0 (tn rr) m0 rm := id
  unfold fm_X11_plain at h
  obtain ⟨rr5, m_3, hc_1, h⟩ := bx_s h
  rcases h with ⟨q_10, rfl, h⟩ | ⟨x_2, rfl, h⟩
  · cases h
    have w_12 := (kw_X11_runAt hF hc_1)
    have E_8 := Kr.ext w_12
    have w_13 := Kr.tr0 (Kr.rf (W := fW_X11_plain) (e := 0) hF) w_12 (by decide +kernel)
    exact hQ w_13
  have w_14 := (kw_X11_runAt hF hc_1)
  have E_8 := Kr.ext w_14
  have w_15 := Kr.tr0 (Kr.rf (W := fW_X11_plain) (e := 0) hF) w_14 (by decide +kernel)
  obtain ⟨rr5, m_24, hc_22, h⟩ := bx_s h
  rcases h with ⟨q_31, rfl, h⟩ | ⟨x_23, rfl, h⟩
  · cases h
    have w_33 := (kw_X11_checkVariable (Kr.fix w_15) hc_22)
    have E_29 := Kr.ext w_33
    have w_34 := Kr.tr0 w_15 w_33 (by decide +kernel)
    exact hQ w_34
  have w_35 := (kw_X11_checkVariable (Kr.fix w_15) hc_22)
  have E_29 := Kr.ext w_35
  have w_36 := Kr.tr0 w_15 w_35 (by decide +kernel)
  obtain ⟨g_43, h⟩ := gd_s h
  obtain ⟨x_45, e_46, h⟩ := lx_s h
  obtain ⟨x_48, hc_47, h⟩ := bp_s h
  obtain ⟨x_59, e_60, h⟩ := lx_s h
  obtain ⟨g_63, h⟩ := gd_s h
  obtain ⟨x_65, e_66, h⟩ := lx_s h
  obtain ⟨x_70, m_71, hc_69, h⟩ := bd_s h
  have w_78 := (kw_X4_follow (Kr.fix w_36) hc_69)
  have E_76 := Kr.ext w_78
  have w_79 := Kr.tr0 w_36 w_78 (by decide +kernel)
  rcases it_s h with ⟨hp_81, h⟩ | ⟨hp_81, h⟩
  · cases h
    exact hQ (Kr.thr w_79 (by decide +kernel))
  · have g_87 := Ext.ok E_76 g_43
    obtain ⟨x_89, e_90, h⟩ := lx_s h
    obtain ⟨x_92, hc_91, h⟩ := bp_s h
    obtain ⟨x_103, e_104, h⟩ := lx_s h
    obtain ⟨g_107, h⟩ := gd_s h
    obtain ⟨x_109, e_110, h⟩ := lx_s h
    obtain ⟨x_114, m_115, hc_113, h⟩ := bd_s h
    have w_122 := (kw_X4_follow (Kr.fix w_79) hc_113)
    have E_120 := Kr.ext w_122
    have w_123 := Kr.tr0 w_79 w_122 (by decide +kernel)
    obtain ⟨x_132, hc_131, h⟩ := bp_s h
    cases h
    exact hQ w_123
set_option maxHeartbeats 4000000 in
theorem kw_X11_standing {m0 : MM} {p1 : Int} {rr : Int ⊕ Nat} {rm : MM} (hF : Fix m0)
  (h : fm_X11_standing p1 m0 = some (rr, rm)) : Kr fW_X11_standing 0 (tn rr) m0 rm := by
  have hQ : Kr fW_X11_standing 0 (tn rr) m0 rm → Kr fW_X11_standing 0 (tn rr) m0 rm := id
  unfold fm_X11_standing at h
  obtain ⟨rr5, m_3, hc_1, h⟩ := bx_s h
  rcases h with ⟨q_10, rfl, h⟩ | ⟨x_2, rfl, h⟩
  · cases h
    have w_12 := (kw_X11_runAt hF hc_1)
    have E_8 := Kr.ext w_12
    have w_13 := Kr.tr0 (Kr.rf (W := fW_X11_standing) (e := 0) hF) w_12 (by decide +kernel)
    exact hQ w_13
  have w_14 := (kw_X11_runAt hF hc_1)
  have E_8 := Kr.ext w_14
  have w_15 := Kr.tr0 (Kr.rf (W := fW_X11_standing) (e := 0) hF) w_14 (by decide +kernel)
  obtain ⟨g_24, h⟩ := gd_s h
  obtain ⟨x_26, e_27, h⟩ := lx_s h
  obtain ⟨g_30, h⟩ := gd_s h
  obtain ⟨x_32, e_33, h⟩ := lx_s h
  obtain ⟨x_39, e_40, h⟩ := lx_s h
  cases h
  exact hQ w_15
set_option maxHeartbeats 4000000 in
theorem kw_X11_event {m0 : MM} {p1 p2 : Int} {rr : Int ⊕ Nat} {rm : MM} (hF : Fix m0)
  (h : fm_X11_event p1 p2 m0 = some (rr, rm)) : Kr fW_X11_event 0 (tn rr) m0 rm := by
  have hQ : Kr fW_X11_event 0 (tn rr) m0 rm → Kr fW_X11_event 0 (tn rr) m0 rm := id
  unfold fm_X11_event at h
  obtain ⟨rr5, m_3, hc_1, h⟩ := bx_s h
  rcases h with ⟨q_10, rfl, h⟩ | ⟨x_2, rfl, h⟩
  · cases h
    have w_12 := (kw_X11_runAt hF hc_1)
    have E_8 := Kr.ext w_12
    have w_13 := Kr.tr0 (Kr.rf (W := fW_X11_event) (e := 0) hF) w_12 (by decide +kernel)
    exact hQ w_13
  have w_14 := (kw_X11_runAt hF hc_1)
  have E_8 := Kr.ext w_14
  have w_15 := Kr.tr0 (Kr.rf (W := fW_X11_event) (e := 0) hF) w_14 (by decide +kernel)
  rcases it_s h with ⟨hp_21, h⟩ | ⟨hp_21, h⟩
  · cases h
    exact hQ (Kr.thr w_15 (by decide +kernel))
  · obtain ⟨g_24, h⟩ := gd_s h
    obtain ⟨x_26, e_27, h⟩ := lx_s h
    obtain ⟨g_30, h⟩ := gd_s h
    obtain ⟨x_32, e_33, h⟩ := lx_s h
    rcases it_s h with ⟨hp_34, h⟩ | ⟨hp_34, h⟩
    · obtain ⟨x_41, hc_40, h⟩ := bp_s h
      obtain ⟨x_57, hc_56, h⟩ := bp_s h
      obtain ⟨x_73, hc_72, h⟩ := bp_s h
      cases h
      exact hQ w_15
    · cases h
      exact hQ (Kr.thr w_15 (by decide +kernel))
set_option maxHeartbeats 4000000 in
theorem kw_X11_difference {m0 : MM} {p1 : Int} {rr : Int ⊕ Nat} {rm : MM} (hF : Fix m0)
  (h : fm_X11_difference p1 m0 = some (rr, rm)) : Kr fW_X11_difference 0 (tn rr) m0 rm := by
  have hQ : Kr fW_X11_difference 0 (tn rr) m0 rm → Kr fW_X11_difference 0 (tn rr) m0 rm := id
  unfold fm_X11_difference at h
  obtain ⟨rr5, m_3, hc_1, h⟩ := bx_s h
  rcases h with ⟨q_10, rfl, h⟩ | ⟨x_2, rfl, h⟩
  · cases h
    have w_12 := (kw_X11_runAt hF hc_1)
    have E_8 := Kr.ext w_12
    have w_13 := Kr.tr0 (Kr.rf (W := fW_X11_difference) (e := 0) hF) w_12 (by decide +kernel)
    exact hQ w_13
  have w_14 := (kw_X11_runAt hF hc_1)
  have E_8 := Kr.ext w_14
  have w_15 := Kr.tr0 (Kr.rf (W := fW_X11_difference) (e := 0) hF) w_14 (by decide +kernel)
  obtain ⟨g_22, h⟩ := gd_s h
  obtain ⟨x_24, e_25, h⟩ := lx_s h
  rcases it_s h with ⟨hp_28, h⟩ | ⟨hp_28, h⟩
  · obtain ⟨x_32, e_33, h⟩ := lx_s h
    cases h
    exact hQ w_15
  · cases h
    exact hQ (Kr.thr w_15 (by decide +kernel))
set_option maxHeartbeats 4000000 in
theorem kw_X11_setRate {m0 : MM} {p1 : Int} {rr : Int ⊕ Nat} {rm : MM} (hF : Fix m0)
  (h : fm_X11_setRate p1 m0 = some (rr, rm)) : Kr fW_X11_setRate 0 (tn rr) m0 rm := by
  have hQ : Kr fW_X11_setRate 0 (tn rr) m0 rm → Kr fW_X11_setRate 0 (tn rr) m0 rm := id
  unfold fm_X11_setRate at h
  rcases it_s h with ⟨hp_3, h⟩ | ⟨hp_3, h⟩
  · cases h
    exact hQ (Kr.thr (Kr.rf (W := fW_X11_setRate) (e := 0) hF) (by decide +kernel))
  · rcases it_s h with ⟨hp_6, h⟩ | ⟨hp_6, h⟩
    · cases h
      exact hQ (Kr.thr (Kr.rf (W := fW_X11_setRate) (e := 0) hF) (by decide +kernel))
    · obtain ⟨x_10, e_11, h⟩ := lx_s h
      obtain ⟨m_17, e_18, h⟩ := up_s h
      have E_21 := ext_up e_18 (And.left (fx_kF (c := 12) hF (by decide +kernel))) (by decide)
      have w_22 := Kr.upC (y := 13) (Kr.rf (W := fW_X11_setRate) (e := 0) hF) e_18 (ext_up e_18 (And.left (fx_kF (c := 12) hF (by decide +kernel))) (by decide)) (And.left (fx_kF (c := 12) hF (by decide +kernel))) (fx_f (j := 13) hF (fx_kF (c := 12) hF (by decide +kernel)) (by decide +kernel)) (Or.inr rfl) (by decide +kernel) (fx_kF (c := 12) hF (by decide +kernel)) (by decide) (by first | exact Or.inl (by decide) | exact Or.inr (by decide))
      cases h
      exact hQ w_22
set_option maxHeartbeats 4000000 in
theorem kw_X11_checkWorker {m0 : MM} {p1 : Int} {rr : Int ⊕ Nat} {rm : MM} (hF : Fix m0)
  (h : fm_X11_checkWorker p1 m0 = some (rr, rm)) : Kr fW_X11_checkWorker 0 (tn rr) m0 rm := by
  have hQ : Kr fW_X11_checkWorker 0 (tn rr) m0 rm → Kr fW_X11_checkWorker 0 (tn rr) m0 rm := id
  unfold fm_X11_checkWorker at h
  rcases it_s h with ⟨hp_1, h⟩ | ⟨hp_1, h⟩
  · cases h
    exact hQ (Kr.thr (Kr.rf (W := fW_X11_checkWorker) (e := 0) hF) (by decide +kernel))
  · rcases it_s h with ⟨hp_8, h⟩ | ⟨hp_8, h⟩
    · cases h
      exact hQ (Kr.rf (W := fW_X11_checkWorker) (e := 0) hF)
    · cases h
      exact hQ (Kr.thr (Kr.rf (W := fW_X11_checkWorker) (e := 0) hF) (by decide +kernel))
set_option maxHeartbeats 4000000 in
theorem kw_X11_countGiven {m0 : MM} {p1 : Int} {rz : Int} {rm : MM} (hF : Fix m0)
  (h : fm_X11_countGiven p1 m0 = some (rz, rm)) : Kr fW_X11_countGiven 0 0 m0 rm := by
  have hQ : Kr fW_X11_countGiven 0 0 m0 rm → Kr fW_X11_countGiven 0 0 m0 rm := id
  unfold fm_X11_countGiven at h
  rcases it_s h with ⟨hp_1, h⟩ | ⟨hp_1, h⟩
  · cases h
    exact hQ (Kr.rf (W := fW_X11_countGiven) (e := 0) hF)
  · rcases it_s h with ⟨hp_8, h⟩ | ⟨hp_8, h⟩
    · rcases it_s h with ⟨hp_15, h⟩ | ⟨hp_15, h⟩
      · obtain ⟨g_21, h⟩ := gd_s h
        obtain ⟨x_23, e_24, h⟩ := lx_s h
        obtain ⟨m_29, e_30, h⟩ := up_s h
        have E_33 := ext_up e_30 (And.left (fx_kF (c := 100) hF (by decide +kernel))) (And.left g_21)
        have w_34 := Kr.upC (y := (-9)) (Kr.rf (W := fW_X11_countGiven) (e := 0) hF) e_30 (ext_up e_30 (And.left (fx_kF (c := 100) hF (by decide +kernel))) (And.left g_21)) (And.left (fx_kF (c := 100) hF (by decide +kernel))) (fx_a hF (fx_kF (c := 100) hF (by decide +kernel)) (And.left g_21) (by decide +kernel)) (Or.inl rfl) (by decide +kernel) (fx_kF (c := 100) hF (by decide +kernel)) (And.left g_21) (by first | exact Or.inl (by decide) | exact Or.inr (by decide))
        obtain ⟨x_42, e_43, h⟩ := lx_s h
        obtain ⟨m_48, e_49, h⟩ := up_s h
        have E_52 := ext_up e_49 (And.left (fx_kF (c := 100) (Kr.fix w_34) (by decide +kernel))) (And.left g_21)
        have w_53 := Kr.upC (y := (-9)) w_34 e_49 (ext_up e_49 (And.left (fx_kF (c := 100) (Kr.fix w_34) (by decide +kernel))) (And.left g_21)) (And.left (fx_kF (c := 100) (Kr.fix w_34) (by decide +kernel))) (fx_a (Kr.fix w_34) (fx_kF (c := 100) (Kr.fix w_34) (by decide +kernel)) (And.left g_21) (by decide +kernel)) (Or.inl rfl) (by decide +kernel) (fx_kF (c := 100) (Kr.fix w_34) (by decide +kernel)) (And.left g_21) (by first | exact Or.inl (by decide) | exact Or.inr (by decide))
        cases h
        exact hQ w_53
      · cases h
        exact hQ (Kr.rf (W := fW_X11_countGiven) (e := 0) hF)
    · cases h
      exact hQ (Kr.rf (W := fW_X11_countGiven) (e := 0) hF)
set_option maxHeartbeats 4000000 in
theorem kwl_X11_poll_9 {P : Prop} {m : MM} {y1 : Int} {k69 : Int → Option ((Int ⊕ Nat) × MM)} {rr : Int ⊕ Nat} {rm : MM} (hF : Fix m)
  (hk69 : ∀ {z2 : Int}, k69 z2 = some (rr, rm) → P) (hQ : Kr fW_X11_poll 0 (tn rr) m rm → P) :
  ∀ (n : Nat) {y2 y3 : Int} , fl_X11_poll_9 y1 m k69 n y2 y3 = some (rr, rm) → P := by
  intro n
  induction n with
  | zero => intro y2 y3 h; cases h
  | succ n ih0 =>
    intro y2 y3 h
    have ih : ∀ {z2 z3 : Int}, fl_X11_poll_9 y1 m k69 n z2 z3 = some (rr, rm) → P := by intros; exact ih0 ‹_›
    unfold fl_X11_poll_9 at h
    rcases it_s h with ⟨hp_34, h⟩ | ⟨hp_34, h⟩
    · obtain ⟨x_36, hc_35, h⟩ := bp_s h
      rcases it_s h with ⟨hp_51, h⟩ | ⟨hp_51, h⟩
      · obtain ⟨x_57, e_58, h⟩ := lx_s h
        exact ih h
      · obtain ⟨g_68, h⟩ := gd_s h
        obtain ⟨x_70, e_71, h⟩ := lx_s h
        obtain ⟨x_75, e_76, h⟩ := lx_s h
        rcases it_s h with ⟨hp_77, h⟩ | ⟨hp_77, h⟩
        · rcases it_s h with ⟨hp_89, h⟩ | ⟨hp_89, h⟩
          · obtain ⟨x_101, e_102, h⟩ := lx_s h
            exact ih h
          · obtain ⟨x_113, e_114, h⟩ := lx_s h
            obtain ⟨g_117, h⟩ := gd_s h
            obtain ⟨x_119, e_120, h⟩ := lx_s h
            obtain ⟨x_122, hc_121, h⟩ := bp_s h
            rcases it_s h with ⟨hp_130, h⟩ | ⟨hp_130, h⟩
            · obtain ⟨x_153, e_154, h⟩ := lx_s h
              exact ih h
            · obtain ⟨x_136, e_137, h⟩ := lx_s h
              exact ih h
        · obtain ⟨x_83, e_84, h⟩ := lx_s h
          exact ih h
    · exact hk69 h
set_option maxHeartbeats 4000000 in
theorem kw_X11_poll {m0 : MM} {p1 : Int} {rr : Int ⊕ Nat} {rm : MM} (hF : Fix m0)
  (h : fm_X11_poll p1 m0 = some (rr, rm)) : Kr fW_X11_poll 0 (tn rr) m0 rm := by
  have hQ : ∀ {d : (Int → Int → Int) → Int}, Kd fW_X11_poll 0 d m0 rm → (∀ g, GOK g → d g ≤ (tn rr) * g 99 0) → Kr fW_X11_poll 0 (tn rr) m0 rm := fun w h => Kd.le w h
  unfold fm_X11_poll at h
  obtain ⟨rr5, m_3, hc_1, h⟩ := bx_s h
  rcases h with ⟨q_10, rfl, h⟩ | ⟨x_2, rfl, h⟩
  · cases h
    have w_12 := (kw_X11_checkWorker hF hc_1)
    have E_8 := Kd.ext w_12
    have w_13 := Kd.tr0 (Kd.rf (W := fW_X11_poll) (e := 0) hF) w_12 (by decide +kernel)
    exact hQ w_13 (fun g hg => by have q1 := hg.1 99 0; (try simp only [tn, uo_7, uo_8, uo_9, uo_10]); (try simp only [uRun]); omega)
  have w_14 := (kw_X11_checkWorker hF hc_1)
  have E_8 := Kd.ext w_14
  have w_15 := Kd.tr0 (Kd.rf (W := fW_X11_poll) (e := 0) hF) w_14 (by decide +kernel)
  refine kwl_X11_poll_9 (Kd.fix w_15) ?_ (fun f => hQ (Kd.trS w_15 f) (fun g hg => by show 0 + 0 * g 99 0 + tn rr * g 99 0 ≤ tn rr * g 99 0; omega)) BIG h
  intro x_159
  intro h
  rcases it_s h with ⟨hp_172, h⟩ | ⟨hp_172, h⟩
  · cases h
    exact hQ w_15 (fun g hg => by have q1 := hg.1 99 0; (try simp only [tn, uo_7, uo_8, uo_9, uo_10]); (try simp only [uRun]); omega)
  · obtain ⟨g_175, h⟩ := gd_s h
    obtain ⟨x_177, e_178, h⟩ := lx_s h
    obtain ⟨x_180, m_181, hc_179, h⟩ := bd_s h
    have w_188 := (kw_X11_countGiven (Kd.fix w_15) hc_179)
    have E_186 := Kd.ext w_188
    have w_189 := Kd.tr0 w_15 w_188 (by decide +kernel)
    obtain ⟨x_191, m_192, e_193, e_194, h⟩ := nw_s h
    have g_200 := okc_nwF (c := 10) (Kd.fix w_189) e_193 e_194
    have E_199 := ext_nw (Kd.fix w_189) e_194
    have n_201 := Kd.nge w_189 e_193
    have w_202 := Kd.nw (kd := 10) (kz := 10) rfl w_189 e_194 (by decide +kernel)
    obtain ⟨x_207, e_208, h⟩ := lx_s h
    obtain ⟨x_210, m_211, hc_209, h⟩ := bd_s h
    have w_218 := (kw_X9_init (Kd.fix w_202) g_200 hc_209)
    have E_216 := Kd.ext w_218
    have w_219 := Kd.trN w_202 w_218 n_201 (by decide +kernel)
    obtain ⟨x_230, hc_229, h⟩ := bp_s h
    have g_238 := Ext.ok (Ext.tr (Ext.tr E_186 E_199) E_216) g_175
    obtain ⟨m_239, e_240, h⟩ := up_s h
    have E_243 := ext_up e_240 (And.left g_238) (by decide)
    have w_244 := Kd.upK (y := 10) w_219 e_240 (ext_up e_240 (And.left g_238) (by decide)) (And.left g_238) (fx_f (j := 10) (Kd.fix w_219) g_238 (by decide +kernel)) g_238 (Or.inr rfl) (by decide +kernel) g_238 (by decide) (by first | exact Or.inl (by decide) | exact Or.inr (by decide))
    obtain ⟨x_250, m_251, hc_249, h⟩ := bd_s h
    have w_258 := (kd_ladd (Kd.fix w_244) (fx_kF (c := 0) (Kd.fix w_244) (by decide +kernel)) hc_249)
    have E_256 := Kd.ext w_258
    have w_259 := Kd.tr0 w_244 w_258 (by decide +kernel)
    have g_265 := Ext.ok (Ext.tr E_243 E_256) g_238
    obtain ⟨x_267, e_268, h⟩ := lx_s h
    obtain ⟨x_274, e_275, h⟩ := lx_s h
    cases h
    exact hQ w_259 (fun g hg => by have q1 := hg.1 99 0; (try simp only [tn, uo_7, uo_8, uo_9, uo_10]); (try simp only [uRun]); omega)
set_option maxHeartbeats 4000000 in
theorem kw_X11_countReplay {m0 : MM} {p1 : Int} {rz : Int} {rm : MM} (hF : Fix m0)
  (h : fm_X11_countReplay p1 m0 = some (rz, rm)) : Kr fW_X11_countReplay 0 0 m0 rm := by
  have hQ : Kr fW_X11_countReplay 0 0 m0 rm → Kr fW_X11_countReplay 0 0 m0 rm := id
  unfold fm_X11_countReplay at h
  rcases it_s h with ⟨hp_1, h⟩ | ⟨hp_1, h⟩
  · cases h
    exact hQ (Kr.rf (W := fW_X11_countReplay) (e := 0) hF)
  · rcases it_s h with ⟨hp_8, h⟩ | ⟨hp_8, h⟩
    · obtain ⟨g_14, h⟩ := gd_s h
      obtain ⟨x_16, e_17, h⟩ := lx_s h
      obtain ⟨m_22, e_23, h⟩ := up_s h
      have E_26 := ext_up e_23 (And.left (fx_kF (c := 100) hF (by decide +kernel))) (And.left g_14)
      have w_27 := Kr.upC (y := (-9)) (Kr.rf (W := fW_X11_countReplay) (e := 0) hF) e_23 (ext_up e_23 (And.left (fx_kF (c := 100) hF (by decide +kernel))) (And.left g_14)) (And.left (fx_kF (c := 100) hF (by decide +kernel))) (fx_a hF (fx_kF (c := 100) hF (by decide +kernel)) (And.left g_14) (by decide +kernel)) (Or.inl rfl) (by decide +kernel) (fx_kF (c := 100) hF (by decide +kernel)) (And.left g_14) (by first | exact Or.inl (by decide) | exact Or.inr (by decide))
      cases h
      exact hQ w_27
    · cases h
      exact hQ (Kr.rf (W := fW_X11_countReplay) (e := 0) hF)
set_option maxHeartbeats 4000000 in
theorem kwl_X11_putNews_38 {P : Prop} {mb : MM} {y1 y2 y4 : Int} {k87 : MM → Option (Int × MM)} {rz : Int} {rm : MM} (hF0 : Fix mb)
  (hk87 : ∀ mq : MM, Kr fW_X11_putNews 0 0 mb mq → k87 mq = some (rz, rm) → P) (hQ : Kr fW_X11_putNews 0 0 mb rm → P) :
  ∀ (n : Nat) {m : MM} {y5 : Int} , Kr fW_X11_putNews 0 0 mb m → fl_X11_putNews_38 y1 y2 y4 k87 n y5 m = some (rz, rm) → P := by
  intro n
  induction n with
  | zero => intro m y5 w h; cases h
  | succ n ih0 =>
    intro m y5 w h
    have ih : ∀ mq : MM, Kr fW_X11_putNews 0 0 mb mq → ∀ {z5 : Int}, fl_X11_putNews_38 y1 y2 y4 k87 n z5 mq = some (rz, rm) → P := fun mq b => by intros; exact ih0 b ‹_›
    unfold fl_X11_putNews_38 at h
    obtain ⟨g_25, h⟩ := gd_s h
    obtain ⟨x_27, e_28, h⟩ := lx_s h
    rcases it_s h with ⟨hp_29, h⟩ | ⟨hp_29, h⟩
    · obtain ⟨g_32, h⟩ := gd_s h
      obtain ⟨x_34, e_35, h⟩ := lx_s h
      obtain ⟨x_37, hc_36, h⟩ := bp_s h
      obtain ⟨x_46, hc_45, h⟩ := bp_s h
      obtain ⟨x_55, hc_54, h⟩ := bp_s h
      obtain ⟨x_66, e_67, h⟩ := lx_s h
      obtain ⟨g_70, h⟩ := gd_s h
      obtain ⟨x_72, m_73, hc_71, h⟩ := bd_s h
      have w_80 := (kw_X2_put (Kr.fix w) g_70 hc_71)
      have E_78 := Kr.ext w_80
      have w_81 := Kr.tr0 w w_80 (by decide +kernel)
      obtain ⟨x_88, e_89, h⟩ := lx_s h
      exact ih m_73 w_81 h
    · exact hk87 m w h
set_option maxHeartbeats 4000000 in
theorem kwj_X11_putNews_26 {P : Prop} {m : MM} {y1 y2 : Int} {rz : Int} {rm : MM} (hF : Fix m) (hQ : Kr fW_X11_putNews 0 0 m rm → P)
  (h : fj_X11_putNews_26 y1 y2 m = some (rz, rm)) : P := by
  unfold fj_X11_putNews_26 at h
  refine kwl_X11_putNews_38 hF ?_ hQ BIG (Kr.rf hF) h
  intro m_110 w_113
  intro h
  have E_111 := Kr.ext w_113
  have w_114 := w_113
  obtain ⟨g_117, h⟩ := gd_s h
  obtain ⟨x_119, e_120, h⟩ := lx_s h
  obtain ⟨g_125, h⟩ := gd_s h
  obtain ⟨x_127, e_128, h⟩ := lx_s h
  obtain ⟨x_134, e_135, h⟩ := lx_s h
  obtain ⟨g_138, h⟩ := gd_s h
  obtain ⟨x_140, m_141, hc_139, h⟩ := bd_s h
  have w_148 := (kw_X2_put (Kr.fix w_114) g_138 hc_139)
  have E_146 := Kr.ext w_148
  have w_149 := Kr.tr0 w_114 w_148 (by decide +kernel)
  have g_153 := Ext.ok E_146 g_125
  obtain ⟨x_155, e_156, h⟩ := lx_s h
  have g_157 := Ext.ok E_146 g_117
  obtain ⟨m_158, e_159, h⟩ := up_s h
  have E_162 := ext_up e_159 (And.left g_157) (by decide)
  have w_163 := Kr.upK (y := 12) w_149 e_159 (ext_up e_159 (And.left g_157) (by decide)) (And.left g_157) (fx_f (j := 12) (Kr.fix w_149) g_157 (by decide +kernel)) g_157 (Or.inr rfl) (by decide +kernel) g_157 (by decide) (by first | exact Or.inl (by decide) | exact Or.inr (by decide))
  have g_165 := Ext.ok E_162 g_157
  obtain ⟨x_167, hc_166, h⟩ := bp_s h
  obtain ⟨m_175, e_176, h⟩ := up_s h
  have E_179 := ext_up e_176 (And.left g_165) (by decide)
  have w_180 := Kr.upK (y := 13) w_163 e_176 (ext_up e_176 (And.left g_165) (by decide)) (And.left g_165) (fx_f (j := 13) (Kr.fix w_163) g_165 (by decide +kernel)) g_165 (Or.inr rfl) (by decide +kernel) g_165 (by decide) (by first | exact Or.inl (by decide) | exact Or.inr (by decide))
  obtain ⟨x_186, m_187, hc_185, h⟩ := bd_s h
  have w_194 := (kw_X4_knows (Kr.fix w_180) hc_185)
  have E_192 := Kr.ext w_194
  have w_195 := Kr.tr0 w_180 w_194 (by decide +kernel)
  obtain ⟨x_200, e_201, h⟩ := lx_s h
  cases h
  exact hQ w_195
set_option maxHeartbeats 4000000 in
theorem kw_X11_putNews {m0 : MM} {p1 p2 p3 : Int} {rz : Int} {rm : MM} (hF : Fix m0)
  (h : fm_X11_putNews p1 p2 p3 m0 = some (rz, rm)) : Kr fW_X11_putNews 0 0 m0 rm := by
  have hQ : Kr fW_X11_putNews 0 0 m0 rm → Kr fW_X11_putNews 0 0 m0 rm := id
  unfold fm_X11_putNews at h
  rcases it_s h with ⟨hp_1, h⟩ | ⟨hp_1, h⟩
  · obtain ⟨g_204, h⟩ := gd_s h
    obtain ⟨x_206, e_207, h⟩ := lx_s h
    obtain ⟨g_210, h⟩ := gd_s h
    obtain ⟨x_212, e_213, h⟩ := lx_s h
    obtain ⟨m_214, e_215, h⟩ := up_s h
    have E_218 := ext_up e_215 (And.left g_204) (by decide)
    have w_219 := Kr.upK (y := 15) (Kr.rf (W := fW_X11_putNews) (e := 0) hF) e_215 (ext_up e_215 (And.left g_204) (by decide)) (And.left g_204) (fx_f (j := 15) hF g_204 (by decide +kernel)) g_204 (Or.inr rfl) (by decide +kernel) g_204 (by decide) (by first | exact Or.inl (by decide) | exact Or.inr (by decide))
    have g_223 := Ext.ok E_218 g_204
    obtain ⟨x_225, e_226, h⟩ := lx_s h
    obtain ⟨g_229, h⟩ := gd_s h
    obtain ⟨x_231, e_232, h⟩ := lx_s h
    obtain ⟨m_233, e_234, h⟩ := up_s h
    have E_237 := ext_up e_234 (And.left g_223) (by decide)
    have w_238 := Kr.upK (y := 14) w_219 e_234 (ext_up e_234 (And.left g_223) (by decide)) (And.left g_223) (fx_f (j := 14) (Kr.fix w_219) g_223 (by decide +kernel)) g_223 (Or.inr rfl) (by decide +kernel) g_223 (by decide) (by first | exact Or.inl (by decide) | exact Or.inr (by decide))
    exact kwj_X11_putNews_26 (Kr.fix w_238) (fun f => hQ (Kr.trS w_238 f)) h
  · exact kwj_X11_putNews_26 hF hQ h
set_option maxHeartbeats 4000000 in
theorem kw_X11_makeActivity {m0 : MM} {p1 p2 p3 p4 : Int} {rz : Int} {rm : MM} (hF : Fix m0)
  (h : fm_X11_makeActivity p1 p2 p3 p4 m0 = some (rz, rm)) : Kr fW_X11_makeActivity 0 0 m0 rm := by
  have hQ : ∀ {d : (Int → Int → Int) → Int}, Kd fW_X11_makeActivity 0 d m0 rm → (∀ g, GOK g → d g ≤ 0 * g 99 0) → Kr fW_X11_makeActivity 0 0 m0 rm := fun w h => Kd.le w h
  unfold fm_X11_makeActivity at h
  obtain ⟨x_5, hc_4, h⟩ := bp_s h
  rcases it_s h with ⟨hp_15, h⟩ | ⟨hp_15, h⟩
  · obtain ⟨x_19, m_20, e_21, e_22, h⟩ := nw_s h
    have g_28 := okc_nwF (c := 1) hF e_21 e_22
    have E_27 := ext_nw hF e_22
    have n_29 := Kd.nge (Kd.rf (W := fW_X11_makeActivity) (e := 0) hF) e_21
    have w_30 := Kd.nw (kd := 1) (kz := 1) rfl (Kd.rf (W := fW_X11_makeActivity) (e := 0) hF) e_22 (by decide +kernel)
    obtain ⟨x_35, e_36, h⟩ := lx_s h
    obtain ⟨x_38, m_39, hc_37, h⟩ := bd_s h
    have w_46 := (kw_X0_init (Kd.fix w_30) g_28 hc_37)
    have E_44 := Kd.ext w_46
    have w_47 := Kd.trN w_30 w_46 n_29 (by decide +kernel)
    obtain ⟨x_50, m_51, hc_49, h⟩ := bd_s h
    have w_58 := (kd_ladd (Kd.fix w_47) (fx_kF (c := 0) (Kd.fix w_47) (by decide +kernel)) hc_49)
    have E_56 := Kd.ext w_58
    have w_59 := Kd.tr0 w_47 w_58 (by decide +kernel)
    cases h
    exact hQ w_59 (fun g hg => by have q1 := hg.1 99 0; (try simp only [tn, uo_7, uo_8, uo_9, uo_10]); (try simp only [uRun]); omega)
  · obtain ⟨x_66, m_67, hc_65, h⟩ := bd_s h
    have w_74 := (kw_X11_arrive hF hc_65)
    have E_72 := Kd.ext w_74
    have w_75 := Kd.tr0 (Kd.rf (W := fW_X11_makeActivity) (e := 0) hF) w_74 (by decide +kernel)
    cases h
    exact hQ w_75 (fun g hg => by have q1 := hg.1 99 0; (try simp only [tn, uo_7, uo_8, uo_9, uo_10]); (try simp only [uRun]); omega)
set_option maxHeartbeats 4000000 in
theorem kwj_X11_beginChild_35 {P : Prop} {m : MM} {y1 y2 : Int} {rz : Int} {rm : MM} (hF : Fix m) (hQ : Kr fW_X11_beginChild 0 0 m rm → P)
  (h : fj_X11_beginChild_35 y1 y2 m = some (rz, rm)) : P := by
  unfold fj_X11_beginChild_35 at h
  obtain ⟨x_21, m_22, hc_20, h⟩ := bd_s h
  have w_29 := (kw_X11_arrive hF hc_20)
  have E_27 := Kr.ext w_29
  have w_30 := Kr.tr0 (Kr.rf (W := fW_X11_beginChild) (e := 0) hF) w_29 (by decide +kernel)
  cases h
  exact hQ w_30
set_option maxHeartbeats 4000000 in
theorem kw_X11_beginChild {m0 : MM} {p1 p2 p3 p4 : Int} {rz : Int} {rm : MM} (hF : Fix m0)
  (h : fm_X11_beginChild p1 p2 p3 p4 m0 = some (rz, rm)) : Kr fW_X11_beginChild 0 0 m0 rm := by
  have hQ : Kr fW_X11_beginChild 0 0 m0 rm → Kr fW_X11_beginChild 0 0 m0 rm := id
  unfold fm_X11_beginChild at h
  obtain ⟨x_5, hc_4, h⟩ := bp_s h
  rcases it_s h with ⟨hp_15, h⟩ | ⟨hp_15, h⟩
  · obtain ⟨x_42, hc_41, h⟩ := bp_s h
    obtain ⟨g_52, h⟩ := gd_s h
    obtain ⟨x_54, e_55, h⟩ := lx_s h
    obtain ⟨g_58, h⟩ := gd_s h
    obtain ⟨x_60, e_61, h⟩ := lx_s h
    obtain ⟨g_62, h⟩ := gd_s h
    obtain ⟨x_64, hc_63, h⟩ := bp_s h
    rcases it_s h with ⟨hp_72, h⟩ | ⟨hp_72, h⟩
    · obtain ⟨g_75, h⟩ := gd_s h
      obtain ⟨x_77, e_78, h⟩ := lx_s h
      obtain ⟨x_82, e_83, h⟩ := lx_s h
      obtain ⟨x_85, m_86, hc_84, h⟩ := bd_s h
      have w_93 := (kw_X11_startRun hF hc_84)
      have E_91 := Kr.ext w_93
      have w_94 := Kr.tr0 (Kr.rf (W := fW_X11_beginChild) (e := 0) hF) w_93 (by decide +kernel)
      cases h
      exact hQ w_94
    · exact kwj_X11_beginChild_35 hF hQ h
  · exact kwj_X11_beginChild_35 hF hQ h
set_option maxHeartbeats 4000000 in
theorem kwl_X11_dropEvent_2 {P : Prop} {mb : MM} {y1 y2 : Int} {k56 : MM → Option (Int × MM)} {rz : Int} {rm : MM} (hF0 : Fix mb)
  (hk56 : ∀ mq : MM, Kr fW_X11_dropEvent 0 0 mb mq → k56 mq = some (rz, rm) → P) (hQ : Kr fW_X11_dropEvent 0 0 mb rm → P) :
  ∀ (n : Nat) {m : MM} {y3 : Int} , Kr fW_X11_dropEvent 0 0 mb m → fl_X11_dropEvent_2 y1 y2 k56 n y3 m = some (rz, rm) → P := by
  intro n
  induction n with
  | zero => intro m y3 w h; cases h
  | succ n ih0 =>
    intro m y3 w h
    have ih : ∀ mq : MM, Kr fW_X11_dropEvent 0 0 mb mq → ∀ {z3 : Int}, fl_X11_dropEvent_2 y1 y2 k56 n z3 mq = some (rz, rm) → P := fun mq b => by intros; exact ih0 b ‹_›
    unfold fl_X11_dropEvent_2 at h
    obtain ⟨x_13, hc_12, h⟩ := bp_s h
    rcases it_s h with ⟨hp_21, h⟩ | ⟨hp_21, h⟩
    · obtain ⟨x_26, hc_25, h⟩ := bp_s h
      obtain ⟨g_34, h⟩ := gd_s h
      obtain ⟨x_45, e_46, h⟩ := lx_s h
      obtain ⟨g_48, h⟩ := gd_s h
      obtain ⟨g_49, h⟩ := gd_s h
      rcases it_s h with ⟨hp_47, h⟩ | ⟨hp_47, h⟩
      · obtain ⟨x_64, e_65, h⟩ := lx_s h
        rcases it_s h with ⟨hp_66, h⟩ | ⟨hp_66, h⟩
        · obtain ⟨m_80, e_81, h⟩ := up_s h
          have E_84 := ext_up e_81 (And.left g_34) (by decide)
          have w_85 := Kr.upK (y := 5) w e_81 (ext_up e_81 (And.left g_34) (by decide)) (And.left g_34) (fx_f (j := 5) (Kr.fix w) g_34 (by decide +kernel)) g_34 (Or.inr rfl) (by decide +kernel) g_34 (by decide) (by first | exact Or.inl (by decide) | exact Or.inr (by decide))
          obtain ⟨x_92, e_93, h⟩ := lx_s h
          exact ih m_80 w_85 h
        · obtain ⟨x_72, e_73, h⟩ := lx_s h
          exact ih m w h
      · obtain ⟨x_55, e_56, h⟩ := lx_s h
        exact ih m w h
    · exact hk56 m w h
set_option maxHeartbeats 4000000 in
theorem kwl_X11_dropEvent_63 {P : Prop} {mb : MM} {y1 y2 : Int} {rz : Int} {rm : MM} (hF0 : Fix mb) (hQ : Kr fW_X11_dropEvent 0 0 mb rm → P) :
  ∀ (n : Nat) {m : MM} {y3 : Int} , Kr fW_X11_dropEvent 0 0 mb m → fl_X11_dropEvent_63 y1 y2 n y3 m = some (rz, rm) → P := by
  intro n
  induction n with
  | zero => intro m y3 w h; cases h
  | succ n ih0 =>
    intro m y3 w h
    have ih : ∀ mq : MM, Kr fW_X11_dropEvent 0 0 mb mq → ∀ {z3 : Int}, fl_X11_dropEvent_63 y1 y2 n z3 mq = some (rz, rm) → P := fun mq b => by intros; exact ih0 b ‹_›
    unfold fl_X11_dropEvent_63 at h
    obtain ⟨x_140, hc_139, h⟩ := bp_s h
    rcases it_s h with ⟨hp_148, h⟩ | ⟨hp_148, h⟩
    · obtain ⟨x_153, hc_152, h⟩ := bp_s h
      obtain ⟨g_161, h⟩ := gd_s h
      obtain ⟨x_172, e_173, h⟩ := lx_s h
      obtain ⟨g_176, h⟩ := gd_s h
      obtain ⟨x_178, e_179, h⟩ := lx_s h
      rcases it_s h with ⟨hp_180, h⟩ | ⟨hp_180, h⟩
      · obtain ⟨x_195, e_196, h⟩ := lx_s h
        rcases it_s h with ⟨hp_197, h⟩ | ⟨hp_197, h⟩
        · obtain ⟨x_212, e_213, h⟩ := lx_s h
          rcases it_s h with ⟨hp_214, h⟩ | ⟨hp_214, h⟩
          · obtain ⟨x_236, m_237, hc_235, h⟩ := bd_s h
            have w_244 := (kw_X11_cancelRun (Kr.fix w) hc_235)
            have E_242 := Kr.ext w_244
            have w_245 := Kr.tr0 w w_244 (by decide +kernel)
            have g_249 := Ext.ok E_242 g_161
            obtain ⟨m_250, e_251, h⟩ := up_s h
            have E_254 := ext_up e_251 (And.left g_249) (by decide)
            have w_255 := Kr.upK (y := 4) w_245 e_251 (ext_up e_251 (And.left g_249) (by decide)) (And.left g_249) (fx_f (j := 4) (Kr.fix w_245) g_249 (by decide +kernel)) g_249 (Or.inr rfl) (by decide +kernel) g_249 (by decide) (by first | exact Or.inl (by decide) | exact Or.inr (by decide))
            obtain ⟨x_262, e_263, h⟩ := lx_s h
            exact ih m_250 w_255 h
          · obtain ⟨m_217, e_218, h⟩ := up_s h
            have E_221 := ext_up e_218 (And.left g_161) (by decide)
            have w_222 := Kr.upK (y := 4) w e_218 (ext_up e_218 (And.left g_161) (by decide)) (And.left g_161) (fx_f (j := 4) (Kr.fix w) g_161 (by decide +kernel)) g_161 (Or.inr rfl) (by decide +kernel) g_161 (by decide) (by first | exact Or.inl (by decide) | exact Or.inr (by decide))
            obtain ⟨x_229, e_230, h⟩ := lx_s h
            exact ih m_217 w_222 h
        · obtain ⟨x_203, e_204, h⟩ := lx_s h
          exact ih m w h
      · obtain ⟨x_186, e_187, h⟩ := lx_s h
        exact ih m w h
    · cases h
      exact hQ w
set_option maxHeartbeats 4000000 in
theorem kw_X11_dropEvent {m0 : MM} {p1 p2 : Int} {rz : Int} {rm : MM} (hF : Fix m0)
  (h : fm_X11_dropEvent p1 p2 m0 = some (rz, rm)) : Kr fW_X11_dropEvent 0 0 m0 rm := by
  have hQ : Kr fW_X11_dropEvent 0 0 m0 rm → Kr fW_X11_dropEvent 0 0 m0 rm := id
  unfold fm_X11_dropEvent at h
  refine kwl_X11_dropEvent_2 hF ?_ hQ BIG (Kr.rf hF) h
  intro m_110 w_113
  intro h
  have E_111 := Kr.ext w_113
  have w_114 := w_113
  obtain ⟨g_115, h⟩ := gd_s h
  obtain ⟨x_117, m_118, hc_116, h⟩ := bd_s h
  have w_125 := (kw_X6_dropTimer (Kr.fix w_114) g_115 hc_116)
  have E_123 := Kr.ext w_125
  have w_126 := Kr.tr0 w_114 w_125 (by decide +kernel)
  refine kwl_X11_dropEvent_63 (Kr.fix w_126)  (fun f => hQ (Kr.trS w_126 f)) BIG (Kr.rf (Kr.fix w_126)) h
set_option maxHeartbeats 4000000 in
theorem kwj_X11_queueTag_31 {P : Prop} {m : MM} {rz : Int} {rm : MM} (hF : Fix m) (hQ : Kr fW_X11_queueTag 0 0 m rm → P)
  (h : fj_X11_queueTag_31 m = some (rz, rm)) : P := by
  unfold fj_X11_queueTag_31 at h
  obtain ⟨x_15, e_16, h⟩ := lx_s h
  obtain ⟨m_21, e_22, h⟩ := up_s h
  have E_25 := ext_up e_22 (And.left (fx_kF (c := 12) hF (by decide +kernel))) (by decide)
  have w_26 := Kr.upC (y := 11) (Kr.rf (W := fW_X11_queueTag) (e := 0) hF) e_22 (ext_up e_22 (And.left (fx_kF (c := 12) hF (by decide +kernel))) (by decide)) (And.left (fx_kF (c := 12) hF (by decide +kernel))) (fx_f (j := 11) hF (fx_kF (c := 12) hF (by decide +kernel)) (by decide +kernel)) (Or.inr rfl) (by decide +kernel) (fx_kF (c := 12) hF (by decide +kernel)) (by decide) (by first | exact Or.inl (by decide) | exact Or.inr (by decide))
  cases h
  exact hQ w_26
set_option maxHeartbeats 4000000 in
theorem kw_X11_queueTag {m0 : MM} {p1 p2 : Int} {rz : Int} {rm : MM} (hF : Fix m0)
  (h : fm_X11_queueTag p1 p2 m0 = some (rz, rm)) : Kr fW_X11_queueTag 0 0 m0 rm := by
  have hQ : Kr fW_X11_queueTag 0 0 m0 rm → Kr fW_X11_queueTag 0 0 m0 rm := id
  unfold fm_X11_queueTag at h
  obtain ⟨x_7, e_8, h⟩ := lx_s h
  rcases it_s h with ⟨hp_11, h⟩ | ⟨hp_11, h⟩
  · obtain ⟨g_33, h⟩ := gd_s h
    obtain ⟨x_35, e_36, h⟩ := lx_s h
    obtain ⟨x_46, m_47, hc_45, h⟩ := bd_s h
    have w_54 := (kw_X5_add hF (fx_kF (c := 6) hF (by decide +kernel)) hc_45)
    have E_52 := Kr.ext w_54
    have w_55 := Kr.tr0 (Kr.rf (W := fW_X11_queueTag) (e := 0) hF) w_54 (by decide +kernel)
    exact kwj_X11_queueTag_31 (Kr.fix w_55) (fun f => hQ (Kr.trS w_55 f)) h
  · exact kwj_X11_queueTag_31 hF hQ h
set_option maxHeartbeats 4000000 in
theorem kwl_X11_endWork_2 {P : Prop} {mb : MM} {y1 : Int} {k44 : MM → Option (Int × MM)} {rz : Int} {rm : MM} (hF0 : Fix mb)
  (hk44 : ∀ mq : MM, Kr fW_X11_endWork 0 0 mb mq → k44 mq = some (rz, rm) → P) (hQ : Kr fW_X11_endWork 0 0 mb rm → P) :
  ∀ (n : Nat) {m : MM} {y2 : Int} , Kr fW_X11_endWork 0 0 mb m → fl_X11_endWork_2 y1 k44 n y2 m = some (rz, rm) → P := by
  intro n
  induction n with
  | zero => intro m y2 w h; cases h
  | succ n ih0 =>
    intro m y2 w h
    have ih : ∀ mq : MM, Kr fW_X11_endWork 0 0 mb mq → ∀ {z2 : Int}, fl_X11_endWork_2 y1 k44 n z2 mq = some (rz, rm) → P := fun mq b => by intros; exact ih0 b ‹_›
    unfold fl_X11_endWork_2 at h
    obtain ⟨x_12, hc_11, h⟩ := bp_s h
    rcases it_s h with ⟨hp_20, h⟩ | ⟨hp_20, h⟩
    · obtain ⟨x_25, hc_24, h⟩ := bp_s h
      obtain ⟨g_33, h⟩ := gd_s h
      obtain ⟨x_43, e_44, h⟩ := lx_s h
      obtain ⟨g_46, h⟩ := gd_s h
      obtain ⟨g_47, h⟩ := gd_s h
      rcases it_s h with ⟨hp_45, h⟩ | ⟨hp_45, h⟩
      · obtain ⟨m_60, e_61, h⟩ := up_s h
        have E_64 := ext_up e_61 (And.left g_33) (by decide)
        have w_65 := Kr.upK (y := 5) w e_61 (ext_up e_61 (And.left g_33) (by decide)) (And.left g_33) (fx_f (j := 5) (Kr.fix w) g_33 (by decide +kernel)) g_33 (Or.inr rfl) (by decide +kernel) g_33 (by decide) (by first | exact Or.inl (by decide) | exact Or.inr (by decide))
        obtain ⟨x_72, e_73, h⟩ := lx_s h
        exact ih m_60 w_65 h
      · obtain ⟨x_53, e_54, h⟩ := lx_s h
        exact ih m w h
    · exact hk44 m w h
set_option maxHeartbeats 4000000 in
theorem kw_X11_endWork {m0 : MM} {p1 : Int} {rz : Int} {rm : MM} (hF : Fix m0)
  (h : fm_X11_endWork p1 m0 = some (rz, rm)) : Kr fW_X11_endWork 0 0 m0 rm := by
  have hQ : Kr fW_X11_endWork 0 0 m0 rm → Kr fW_X11_endWork 0 0 m0 rm := id
  unfold fm_X11_endWork at h
  refine kwl_X11_endWork_2 hF ?_ hQ BIG (Kr.rf hF) h
  intro m_83 w_86
  intro h
  have E_84 := Kr.ext w_86
  have w_87 := w_86
  obtain ⟨g_90, h⟩ := gd_s h
  obtain ⟨x_92, e_93, h⟩ := lx_s h
  obtain ⟨g_96, h⟩ := gd_s h
  obtain ⟨x_98, m_99, hc_97, h⟩ := bd_s h
  have w_106 := (kw_X5_cut (Kr.fix w_87) g_96 hc_97)
  have E_104 := Kr.ext w_106
  have w_107 := Kr.tr0 w_87 w_106 (by decide +kernel)
  have g_111 := Ext.ok E_104 g_90
  obtain ⟨x_113, e_114, h⟩ := lx_s h
  obtain ⟨g_117, h⟩ := gd_s h
  obtain ⟨x_119, m_120, hc_118, h⟩ := bd_s h
  have w_127 := (kw_X5_cut (Kr.fix w_107) g_117 hc_118)
  have E_125 := Kr.ext w_127
  have w_128 := Kr.tr0 w_107 w_127 (by decide +kernel)
  cases h
  exact hQ w_128
set_option maxHeartbeats 4000000 in
theorem kwb_X11_closeRun {m0 : MM} {p1 p2 p3 p4 : Int} {rec : Int → Int → MM → Option (Int × MM)} {rz : Int} {rm : MM} (hrecX : ∀ {m : MM} {b1 b2 : Int} {rz : Int} {rm : MM}, Fix m → rec b1 b2 m = some (rz, rm) → Kr fW_REC 0 0 m rm) (hF : Fix m0)
  (h : fb_X11_closeRun rec p1 p2 p3 p4 m0 = some (rz, rm)) : Kr fW_REC 0 0 m0 rm := by
  have hQ : Kr fW_REC 0 0 m0 rm → Kr fW_REC 0 0 m0 rm := id
  unfold fb_X11_closeRun at h
  obtain ⟨g_1, h⟩ := gd_s h
  obtain ⟨m_2, e_3, h⟩ := up_s h
  have E_6 := ext_up e_3 (And.left g_1) (by decide)
  have w_7 := Kr.upK (y := 6) (Kr.rf (W := fW_REC) (e := 0) hF) e_3 (ext_up e_3 (And.left g_1) (by decide)) (And.left g_1) (fx_f (j := 6) hF g_1 (by decide +kernel)) g_1 (Or.inr rfl) (by decide +kernel) g_1 (by decide) (by first | exact Or.inl (by decide) | exact Or.inr (by decide))
  obtain ⟨x_10, m_11, hc_9, h⟩ := bd_s h
  have w_18 := (kw_X11_endWork (Kr.fix w_7) hc_9)
  have E_16 := Kr.ext w_18
  have w_19 := Kr.tr0 w_7 w_18 (by decide +kernel)
  obtain ⟨x_22, m_23, hc_21, h⟩ := bd_s h
  have w_30 := (hrecX (Kr.fix w_19) hc_21)
  have E_28 := Kr.ext w_30
  have w_31 := Kr.tr0 w_19 w_30 (by decide +kernel)
  obtain ⟨x_34, hc_33, h⟩ := bp_s h
  rcases it_s h with ⟨hp_49, h⟩ | ⟨hp_49, h⟩
  · cases h
    exact hQ w_31
  · obtain ⟨g_50, h⟩ := gd_s h
    obtain ⟨x_52, hc_51, h⟩ := bp_s h
    rcases it_s h with ⟨hp_60, h⟩ | ⟨hp_60, h⟩
    · cases h
      exact hQ w_31
    · rcases it_s h with ⟨hp_63, h⟩ | ⟨hp_63, h⟩
      · have g_90 := Ext.ok (Ext.tr (Ext.tr E_6 E_16) E_28) g_1
        obtain ⟨x_92, e_93, h⟩ := lx_s h
        obtain ⟨x_95, m_96, hc_94, h⟩ := bd_s h
        have w_103 := (kw_X11_arrive (Kr.fix w_31) hc_94)
        have E_101 := Kr.ext w_103
        have w_104 := Kr.tr0 w_31 w_103 (by decide +kernel)
        cases h
        exact hQ w_104
      · have g_68 := Ext.ok (Ext.tr (Ext.tr E_6 E_16) E_28) g_1
        obtain ⟨x_70, e_71, h⟩ := lx_s h
        obtain ⟨x_75, m_76, hc_74, h⟩ := bd_s h
        have w_83 := (kw_X11_arrive (Kr.fix w_31) hc_74)
        have E_81 := Kr.ext w_83
        have w_84 := Kr.tr0 w_31 w_83 (by decide +kernel)
        cases h
        exact hQ w_84
set_option maxHeartbeats 4000000 in
theorem kwl_X11_dealWithChildren_2 {P : Prop} {mb : MM} {y1 y2 : Int} {rec : Int → Int → Int → Int → MM → Option (Int × MM)} {rz : Int} {rm : MM} (hrecX : ∀ {m : MM} {b1 b2 b3 b4 : Int} {rz : Int} {rm : MM}, Fix m → rec b1 b2 b3 b4 m = some (rz, rm) → Kr fW_REC 0 0 m rm) (hF0 : Fix mb) (hQ : Kr fW_REC 0 0 mb rm → P) :
  ∀ (n : Nat) {m : MM} {y3 : Int} , Kr fW_REC 0 0 mb m → fl_X11_dealWithChildren_2 rec y1 y2 n y3 m = some (rz, rm) → P := by
  intro n
  induction n with
  | zero => intro m y3 w h; cases h
  | succ n ih0 =>
    intro m y3 w h
    have ih : ∀ mq : MM, Kr fW_REC 0 0 mb mq → ∀ {z3 : Int}, fl_X11_dealWithChildren_2 rec y1 y2 n z3 mq = some (rz, rm) → P := fun mq b => by intros; exact ih0 b ‹_›
    unfold fl_X11_dealWithChildren_2 at h
    obtain ⟨x_13, hc_12, h⟩ := bp_s h
    rcases it_s h with ⟨hp_21, h⟩ | ⟨hp_21, h⟩
    · obtain ⟨x_26, hc_25, h⟩ := bp_s h
      obtain ⟨g_34, h⟩ := gd_s h
      obtain ⟨x_45, e_46, h⟩ := lx_s h
      obtain ⟨g_49, h⟩ := gd_s h
      obtain ⟨x_51, e_52, h⟩ := lx_s h
      rcases it_s h with ⟨hp_53, h⟩ | ⟨hp_53, h⟩
      · obtain ⟨x_68, e_69, h⟩ := lx_s h
        rcases it_s h with ⟨hp_70, h⟩ | ⟨hp_70, h⟩
        · obtain ⟨x_72, hc_71, h⟩ := bp_s h
          obtain ⟨g_82, h⟩ := gd_s h
          obtain ⟨x_84, e_85, h⟩ := lx_s h
          rcases it_s h with ⟨hp_96, h⟩ | ⟨hp_96, h⟩
          · obtain ⟨x_157, m_158, hc_156, h⟩ := bd_s h
            have w_165 := (kw_X11_cancelRun (Kr.fix w) hc_156)
            have E_163 := Kr.ext w_165
            have w_166 := Kr.tr0 w w_165 (by decide +kernel)
            obtain ⟨x_173, e_174, h⟩ := lx_s h
            exact ih m_158 w_166 h
          · rcases it_s h with ⟨hp_99, h⟩ | ⟨hp_99, h⟩
            · rcases it_s h with ⟨hp_113, h⟩ | ⟨hp_113, h⟩
              · obtain ⟨x_134, m_135, hc_133, h⟩ := bd_s h
                have w_142 := (hrecX (Kr.fix w) hc_133)
                have E_140 := Kr.ext w_142
                have w_143 := Kr.tr0 w w_142 (by decide +kernel)
                obtain ⟨x_150, e_151, h⟩ := lx_s h
                exact ih m_135 w_143 h
              · obtain ⟨x_119, e_120, h⟩ := lx_s h
                exact ih m w h
            · obtain ⟨x_105, e_106, h⟩ := lx_s h
              exact ih m w h
        · obtain ⟨x_184, e_185, h⟩ := lx_s h
          exact ih m w h
      · obtain ⟨x_59, e_60, h⟩ := lx_s h
        exact ih m w h
    · cases h
      exact hQ w
set_option maxHeartbeats 4000000 in
theorem kwb_X11_dealWithChildren {m0 : MM} {p1 p2 : Int} {rec : Int → Int → Int → Int → MM → Option (Int × MM)} {rz : Int} {rm : MM} (hrecX : ∀ {m : MM} {b1 b2 b3 b4 : Int} {rz : Int} {rm : MM}, Fix m → rec b1 b2 b3 b4 m = some (rz, rm) → Kr fW_REC 0 0 m rm) (hF : Fix m0)
  (h : fb_X11_dealWithChildren rec p1 p2 m0 = some (rz, rm)) : Kr fW_REC 0 0 m0 rm := by
  have hQ : Kr fW_REC 0 0 m0 rm → Kr fW_REC 0 0 m0 rm := id
  unfold fb_X11_dealWithChildren at h
  refine kwl_X11_dealWithChildren_2 hrecX hF  hQ BIG (Kr.rf hF) h
theorem kw_X11_closeRun_n : ∀ (n : Nat) {m0 : MM} {p1 p2 p3 p4 : Int} {rz : Int} {rm : MM}, Fix m0 → fm_X11_closeRun n p1 p2 p3 p4 m0 = some (rz, rm) → Kr fW_REC 0 0 m0 rm := by
  intro n
  induction n with
  | zero => intro m0 p1 p2 p3 p4 rz rm hF h; cases h
  | succ n ih => intro m0 p1 p2 p3 p4 rz rm hF h; exact kwb_X11_closeRun (fun hF1 h1 => kwb_X11_dealWithChildren (fun hF2 h2 => ih hF2 h2) hF1 h1) hF h
theorem kw_X11_closeRun {m0 : MM} {p1 p2 p3 p4 : Int} {rz : Int} {rm : MM} (hF : Fix m0) (h : fm_X11_closeRun BIGR p1 p2 p3 p4 m0 = some (rz, rm)) : Kr fW_REC 0 0 m0 rm := kw_X11_closeRun_n BIGR hF h
theorem kw_X11_dealWithChildren {m0 : MM} {p1 p2 : Int} {rz : Int} {rm : MM} (hF : Fix m0) (h : fm_X11_dealWithChildren p1 p2 m0 = some (rz, rm)) : Kr fW_REC 0 0 m0 rm := kwb_X11_dealWithChildren (fun hF2 h2 => kw_X11_closeRun hF2 h2) hF h
set_option maxHeartbeats 4000000 in
theorem kwl_X11_sendSignals_9 {P : Prop} {mb : MM} {y1 y2 y4 : Int} {rz : Int} {rm : MM} (hF0 : Fix mb) (hQ : Kr fW_X11_sendSignals 0 0 mb rm → P) :
  ∀ (n : Nat) {m : MM} {y5 : Int} , Kr fW_X11_sendSignals 0 0 mb m → fl_X11_sendSignals_9 y1 y2 y4 n y5 m = some (rz, rm) → P := by
  intro n
  induction n with
  | zero => intro m y5 w h; cases h
  | succ n ih0 =>
    intro m y5 w h
    have ih : ∀ mq : MM, Kr fW_X11_sendSignals 0 0 mb mq → ∀ {z5 : Int}, fl_X11_sendSignals_9 y1 y2 y4 n z5 mq = some (rz, rm) → P := fun mq b => by intros; exact ih0 b ‹_›
    unfold fl_X11_sendSignals_9 at h
    rcases it_s h with ⟨hp_21, h⟩ | ⟨hp_21, h⟩
    · obtain ⟨g_22, h⟩ := gd_s h
      obtain ⟨x_24, hc_23, h⟩ := bp_s h
      rcases it_s h with ⟨hp_34, h⟩ | ⟨hp_34, h⟩
      · obtain ⟨x_50, hc_49, h⟩ := bp_s h
        obtain ⟨x_59, hc_58, h⟩ := bp_s h
        obtain ⟨x_68, m_69, hc_67, h⟩ := bd_s h
        have w_76 := (kw_X11_arrive (Kr.fix w) hc_67)
        have E_74 := Kr.ext w_76
        have w_77 := Kr.tr0 w w_76 (by decide +kernel)
        obtain ⟨x_84, e_85, h⟩ := lx_s h
        exact ih m_69 w_77 h
      · obtain ⟨x_40, e_41, h⟩ := lx_s h
        exact ih m w h
    · cases h
      exact hQ w
set_option maxHeartbeats 4000000 in
theorem kw_X11_sendSignals {m0 : MM} {p1 p2 p3 : Int} {rz : Int} {rm : MM} (hF : Fix m0)
  (h : fm_X11_sendSignals p1 p2 p3 m0 = some (rz, rm)) : Kr fW_X11_sendSignals 0 0 m0 rm := by
  have hQ : Kr fW_X11_sendSignals 0 0 m0 rm → Kr fW_X11_sendSignals 0 0 m0 rm := id
  unfold fm_X11_sendSignals at h
  obtain ⟨g_3, h⟩ := gd_s h
  obtain ⟨x_5, e_6, h⟩ := lx_s h
  refine kwl_X11_sendSignals_9 hF  hQ BIG (Kr.rf hF) h
set_option maxHeartbeats 4000000 in
theorem kwl_X11_goOnAsNew_53 {P : Prop} {mb : MM} {y1 y3 y4 y5 : Int} {k84 : MM → Option (Int × MM)} {rz : Int} {rm : MM} (hF0 : Fix mb)
  (hk84 : ∀ mq : MM, Kr fW_X11_goOnAsNew 0 0 mb mq → k84 mq = some (rz, rm) → P) (hQ : Kr fW_X11_goOnAsNew 0 0 mb rm → P) :
  ∀ (n : Nat) {m : MM} {y6 : Int} , Kr fW_X11_goOnAsNew 0 0 mb m → fl_X11_goOnAsNew_53 y1 y3 y4 y5 k84 n y6 m = some (rz, rm) → P := by
  intro n
  induction n with
  | zero => intro m y6 w h; cases h
  | succ n ih0 =>
    intro m y6 w h
    have ih : ∀ mq : MM, Kr fW_X11_goOnAsNew 0 0 mb mq → ∀ {z6 : Int}, fl_X11_goOnAsNew_53 y1 y3 y4 y5 k84 n z6 mq = some (rz, rm) → P := fun mq b => by intros; exact ih0 b ‹_›
    unfold fl_X11_goOnAsNew_53 at h
    obtain ⟨g_94, h⟩ := gd_s h
    obtain ⟨x_96, e_97, h⟩ := lx_s h
    rcases it_s h with ⟨hp_98, h⟩ | ⟨hp_98, h⟩
    · obtain ⟨x_102, hc_101, h⟩ := bp_s h
      obtain ⟨x_111, m_112, hc_110, h⟩ := bd_s h
      have w_119 := (kw_X11_arrive (Kr.fix w) hc_110)
      have E_117 := Kr.ext w_119
      have w_120 := Kr.tr0 w w_119 (by decide +kernel)
      obtain ⟨x_127, e_128, h⟩ := lx_s h
      exact ih m_112 w_120 h
    · exact hk84 m w h
set_option maxHeartbeats 4000000 in
theorem kwl_X11_goOnAsNew_30 {P : Prop} {mb : MM} {y1 y3 : Int} {k90 : MM → Option (Int × MM)} {rz : Int} {rm : MM} (hF0 : Fix mb)
  (hk90 : ∀ mq : MM, Kr fW_X11_goOnAsNew 0 0 mb mq → k90 mq = some (rz, rm) → P) (hQ : Kr fW_X11_goOnAsNew 0 0 mb rm → P) :
  ∀ (n : Nat) {m : MM} {y4 : Int} , Kr fW_X11_goOnAsNew 0 0 mb m → fl_X11_goOnAsNew_30 y1 y3 k90 n y4 m = some (rz, rm) → P := by
  intro n
  induction n with
  | zero => intro m y4 w h; cases h
  | succ n ih0 =>
    intro m y4 w h
    have ih : ∀ mq : MM, Kr fW_X11_goOnAsNew 0 0 mb mq → ∀ {z4 : Int}, fl_X11_goOnAsNew_30 y1 y3 k90 n z4 mq = some (rz, rm) → P := fun mq b => by intros; exact ih0 b ‹_›
    unfold fl_X11_goOnAsNew_30 at h
    rcases it_s h with ⟨hp_59, h⟩ | ⟨hp_59, h⟩
    · obtain ⟨x_67, hc_66, h⟩ := bp_s h
      refine kwl_X11_goOnAsNew_53 (Kr.fix w) ?_ (fun f => hQ (Kr.trS w f)) BIG (Kr.rf (Kr.fix w)) h
      intro m_150 w_153
      intro h
      have E_151 := Kr.ext w_153
      have w_154 := Kr.trS w w_153
      obtain ⟨x_160, e_161, h⟩ := lx_s h
      exact ih m_150 w_154 h
    · exact hk90 m w h
set_option maxHeartbeats 4000000 in
theorem kw_X11_goOnAsNew {m0 : MM} {p1 p2 : Int} {rz : Int} {rm : MM} (hF : Fix m0)
  (h : fm_X11_goOnAsNew p1 p2 m0 = some (rz, rm)) : Kr fW_X11_goOnAsNew 0 0 m0 rm := by
  have hQ : Kr fW_X11_goOnAsNew 0 0 m0 rm → Kr fW_X11_goOnAsNew 0 0 m0 rm := id
  unfold fm_X11_goOnAsNew at h
  obtain ⟨g_3, h⟩ := gd_s h
  obtain ⟨m_4, e_5, h⟩ := up_s h
  have E_8 := ext_up e_5 (And.left g_3) (by decide)
  have w_9 := Kr.upK (y := 6) (Kr.rf (W := fW_X11_goOnAsNew) (e := 0) hF) e_5 (ext_up e_5 (And.left g_3) (by decide)) (And.left g_3) (fx_f (j := 6) hF g_3 (by decide +kernel)) g_3 (Or.inr rfl) (by decide +kernel) g_3 (by decide) (by first | exact Or.inl (by decide) | exact Or.inr (by decide))
  have g_13 := Ext.ok E_8 g_3
  obtain ⟨x_15, e_16, h⟩ := lx_s h
  obtain ⟨x_20, e_21, h⟩ := lx_s h
  obtain ⟨x_25, e_26, h⟩ := lx_s h
  obtain ⟨x_30, e_31, h⟩ := lx_s h
  obtain ⟨x_33, m_34, hc_32, h⟩ := bd_s h
  have w_41 := (kw_X11_startRun (Kr.fix w_9) hc_32)
  have E_39 := Kr.ext w_41
  have w_42 := Kr.tr0 w_9 w_41 (by decide +kernel)
  refine kwl_X11_goOnAsNew_30 (Kr.fix w_42) ?_ (fun f => hQ (Kr.trS w_42 f)) BIG (Kr.rf (Kr.fix w_42)) h
  intro m_178 w_181
  intro h
  have E_179 := Kr.ext w_181
  have w_182 := Kr.trS w_42 w_181
  have g_185 := Ext.ok (Ext.tr E_39 E_179) g_13
  obtain ⟨x_187, e_188, h⟩ := lx_s h
  obtain ⟨x_198, e_199, h⟩ := lx_s h
  obtain ⟨x_201, m_202, hc_200, h⟩ := bd_s h
  have w_209 := (kw_X11_sendSignals (Kr.fix w_182) hc_200)
  have E_207 := Kr.ext w_209
  have w_210 := Kr.tr0 w_182 w_209 (by decide +kernel)
  obtain ⟨x_213, m_214, hc_212, h⟩ := bd_s h
  have w_221 := (kw_X11_endWork (Kr.fix w_210) hc_212)
  have E_219 := Kr.ext w_221
  have w_222 := Kr.tr0 w_210 w_221 (by decide +kernel)
  obtain ⟨x_227, m_228, hc_226, h⟩ := bd_s h
  have w_235 := (kw_X11_dealWithChildren (Kr.fix w_222) hc_226)
  have E_233 := Kr.ext w_235
  have w_236 := Kr.tr0 w_222 w_235 (by decide +kernel)
  cases h
  exact hQ w_236
set_option maxHeartbeats 4000000 in
theorem kwj_X11_carryOut_163 {P : Prop} {m : MM} {s0 s1 : Int} {rz : Int} {rm : MM} (hF : Fix m) (hQ : Kr fW_X11_carryOut 0 0 m rm → P)
  (h : fj_X11_carryOut_163 s0 s1 m = some (rz, rm)) : P := by
  unfold fj_X11_carryOut_163 at h
  obtain ⟨x_170, m_171, hc_169, h⟩ := bd_s h
  have w_178 := (kw_X11_closeRun hF hc_169)
  have E_176 := Kr.ext w_178
  have w_179 := Kr.tr0 (Kr.rf (W := fW_X11_carryOut) (e := 0) hF) w_178 (by decide +kernel)
  cases h
  exact hQ w_179
set_option maxHeartbeats 4000000 in
theorem kw_X11_carryOut {m0 : MM} {p1 p2 : Int} {rz : Int} {rm : MM} (hF : Fix m0)
  (h : fm_X11_carryOut p1 p2 m0 = some (rz, rm)) : Kr fW_X11_carryOut 0 0 m0 rm := by
  have hQ : Kr fW_X11_carryOut 0 0 m0 rm → Kr fW_X11_carryOut 0 0 m0 rm := id
  unfold fm_X11_carryOut at h
  obtain ⟨g_3, h⟩ := gd_s h
  obtain ⟨x_5, e_6, h⟩ := lx_s h
  obtain ⟨g_7, h⟩ := gd_s h
  obtain ⟨x_9, hc_8, h⟩ := bp_s h
  obtain ⟨x_27, hc_26, h⟩ := bp_s h
  obtain ⟨x_46, hc_45, h⟩ := bp_s h
  rcases it_s h with ⟨hp_55, h⟩ | ⟨hp_55, h⟩
  · obtain ⟨x_57, m_58, hc_56, h⟩ := bd_s h
    have w_65 := (kw_X11_makeActivity hF hc_56)
    have E_63 := Kr.ext w_65
    have w_66 := Kr.tr0 (Kr.rf (W := fW_X11_carryOut) (e := 0) hF) w_65 (by decide +kernel)
    cases h
    exact hQ w_66
  rcases it_s h with ⟨hp_69, h⟩ | ⟨hp_69, h⟩
  · obtain ⟨x_73, e_74, h⟩ := lx_s h
    obtain ⟨x_78, m_79, hc_77, h⟩ := bd_s h
    have w_86 := (kw_X6_addTimer hF g_3 hc_77)
    have E_84 := Kr.ext w_86
    have w_87 := Kr.tr0 (Kr.rf (W := fW_X11_carryOut) (e := 0) hF) w_86 (by decide +kernel)
    cases h
    exact hQ w_87
  rcases it_s h with ⟨hp_90, h⟩ | ⟨hp_90, h⟩
  · obtain ⟨x_92, m_93, hc_91, h⟩ := bd_s h
    have w_100 := (kw_X11_beginChild hF hc_91)
    have E_98 := Kr.ext w_100
    have w_101 := Kr.tr0 (Kr.rf (W := fW_X11_carryOut) (e := 0) hF) w_100 (by decide +kernel)
    cases h
    exact hQ w_101
  rcases it_s h with ⟨hp_104, h⟩ | ⟨hp_104, h⟩
  · obtain ⟨x_106, m_107, hc_105, h⟩ := bd_s h
    have w_114 := (kw_X11_dropEvent hF hc_105)
    have E_112 := Kr.ext w_114
    have w_115 := Kr.tr0 (Kr.rf (W := fW_X11_carryOut) (e := 0) hF) w_114 (by decide +kernel)
    cases h
    exact hQ w_115
  rcases it_s h with ⟨hp_118, h⟩ | ⟨hp_118, h⟩
  · obtain ⟨x_120, m_121, hc_119, h⟩ := bd_s h
    have w_128 := (kw_X11_queueTag hF hc_119)
    have E_126 := Kr.ext w_128
    have w_129 := Kr.tr0 (Kr.rf (W := fW_X11_carryOut) (e := 0) hF) w_128 (by decide +kernel)
    cases h
    exact hQ w_129
  rcases it_s h with ⟨hp_132, h⟩ | ⟨hp_132, h⟩
  · obtain ⟨x_138, m_139, hc_137, h⟩ := bd_s h
    have w_146 := (kw_X11_closeRun hF hc_137)
    have E_144 := Kr.ext w_146
    have w_147 := Kr.tr0 (Kr.rf (W := fW_X11_carryOut) (e := 0) hF) w_146 (by decide +kernel)
    cases h
    exact hQ w_147
  rcases it_s h with ⟨hp_150, h⟩ | ⟨hp_150, h⟩
  · obtain ⟨x_160, e_161, h⟩ := lx_s h
    rcases it_s h with ⟨hp_162, h⟩ | ⟨hp_162, h⟩
    · exact kwj_X11_carryOut_163 hF hQ h
    · exact kwj_X11_carryOut_163 hF hQ h
  rcases it_s h with ⟨hp_184, h⟩ | ⟨hp_184, h⟩
  · obtain ⟨x_189, hc_188, h⟩ := bp_s h
    rcases it_s h with ⟨hp_199, h⟩ | ⟨hp_199, h⟩
    · obtain ⟨x_219, m_220, hc_218, h⟩ := bd_s h
      have w_227 := (kw_X11_goOnAsNew hF hc_218)
      have E_225 := Kr.ext w_227
      have w_228 := Kr.tr0 (Kr.rf (W := fW_X11_carryOut) (e := 0) hF) w_227 (by decide +kernel)
      cases h
      exact hQ w_228
    · obtain ⟨x_207, m_208, hc_206, h⟩ := bd_s h
      have w_215 := (kw_X11_closeRun hF hc_206)
      have E_213 := Kr.ext w_215
      have w_216 := Kr.tr0 (Kr.rf (W := fW_X11_carryOut) (e := 0) hF) w_215 (by decide +kernel)
      cases h
      exact hQ w_216
  cases h
  exact hQ (Kr.rf (W := fW_X11_carryOut) (e := 0) hF)
set_option maxHeartbeats 4000000 in
theorem kwj_X11_complete_133 {P : Prop} {m : MM} {y3 : Int} {rr : Int ⊕ Nat} {rm : MM} (hF : Fix m) (hQ : Kr fW_X11_complete 0 (tn rr) m rm → P)
  (h : fj_X11_complete_133 y3 m = some (rr, rm)) : P := by
  unfold fj_X11_complete_133 at h
  obtain ⟨g_139, h⟩ := gd_s h
  obtain ⟨m_140, e_141, h⟩ := up_s h
  have E_144 := ext_up e_141 (And.left g_139) (by decide)
  have w_145 := Kr.upK (y := 6) (Kr.rf (W := fW_X11_complete) (e := 0) hF) e_141 (ext_up e_141 (And.left g_139) (by decide)) (And.left g_139) (fx_f (j := 6) hF g_139 (by decide +kernel)) g_139 (Or.inr rfl) (by decide +kernel) g_139 (by decide) (by first | exact Or.inl (by decide) | exact Or.inr (by decide))
  obtain ⟨x_153, e_154, h⟩ := lx_s h
  have g_155 := Ext.ok E_144 g_139
  obtain ⟨m_156, e_157, h⟩ := up_s h
  have E_160 := ext_up e_157 (And.left g_155) (by decide)
  have w_161 := Kr.upK (y := 7) w_145 e_157 (ext_up e_157 (And.left g_155) (by decide)) (And.left g_155) (fx_f (j := 7) (Kr.fix w_145) g_155 (by decide +kernel)) g_155 (Or.inr rfl) (by decide +kernel) g_155 (by decide) (by first | exact Or.inl (by decide) | exact Or.inr (by decide))
  cases h
  exact hQ w_161
set_option maxHeartbeats 4000000 in
theorem kwl_X11_complete_176 {P : Prop} {mb : MM} {y3 y7 y8 : Int} {rr : Int ⊕ Nat} {rm : MM} (hF0 : Fix mb) (hQ : Kr fW_X11_complete 0 (tn rr) mb rm → P) :
  ∀ (n : Nat) {m : MM} {y9 : Int} , Kr fW_X11_complete 0 0 mb m → fl_X11_complete_176 y3 y7 y8 n y9 m = some (rr, rm) → P := by
  intro n
  induction n with
  | zero => intro m y9 w h; cases h
  | succ n ih0 =>
    intro m y9 w h
    have ih : ∀ mq : MM, Kr fW_X11_complete 0 0 mb mq → ∀ {z9 : Int}, fl_X11_complete_176 y3 y7 y8 n z9 mq = some (rr, rm) → P := fun mq b => by intros; exact ih0 b ‹_›
    unfold fl_X11_complete_176 at h
    rcases it_s h with ⟨hp_227, h⟩ | ⟨hp_227, h⟩
    · obtain ⟨g_230, h⟩ := gd_s h
      obtain ⟨x_232, e_233, h⟩ := lx_s h
      obtain ⟨g_236, h⟩ := gd_s h
      obtain ⟨x_238, e_239, h⟩ := lx_s h
      rcases it_s h with ⟨hp_240, h⟩ | ⟨hp_240, h⟩
      · obtain ⟨x_242, m_243, hc_241, h⟩ := bd_s h
        have w_250 := (kw_X11_carryOut (Kr.fix w) hc_241)
        have E_248 := Kr.ext w_250
        have w_251 := Kr.tr0 w w_250 (by decide +kernel)
        obtain ⟨x_258, e_259, h⟩ := lx_s h
        exact ih m_243 w_251 h
      · cases h
        exact hQ w
    · cases h
      exact hQ w
set_option maxHeartbeats 4000000 in
theorem kwj_X11_complete_95 {P : Prop} {m : MM} {y2 y3 y5 s0 : Int} {rr : Int ⊕ Nat} {rm : MM} (hF : Fix m) (hQ : Kr fW_X11_complete 0 (tn rr) m rm → P)
  (h : fj_X11_complete_95 y2 y3 y5 s0 m = some (rr, rm)) : P := by
  unfold fj_X11_complete_95 at h
  obtain ⟨g_105, h⟩ := gd_s h
  obtain ⟨x_107, e_108, h⟩ := lx_s h
  obtain ⟨x_110, hc_109, h⟩ := bp_s h
  obtain ⟨g_120, h⟩ := gd_s h
  obtain ⟨x_122, e_123, h⟩ := lx_s h
  obtain ⟨x_125, m_126, hc_124, h⟩ := bd_s h
  have w_133 := (kw_X4_follow hF hc_124)
  have E_131 := Kr.ext w_133
  have w_134 := Kr.tr0 (Kr.rf (W := fW_X11_complete) (e := 0) hF) w_133 (by decide +kernel)
  rcases it_s h with ⟨hp_136, h⟩ | ⟨hp_136, h⟩
  · exact kwj_X11_complete_133 (Kr.fix w_134) (fun f => hQ (Kr.trS w_134 f)) h
  · obtain ⟨x_169, m_170, hc_168, h⟩ := bd_s h
    have w_177 := (kw_X4_isLeft (Kr.fix w_134) hc_168)
    have E_175 := Kr.ext w_177
    have w_178 := Kr.tr0 w_134 w_177 (by decide +kernel)
    rcases it_s h with ⟨hp_180, h⟩ | ⟨hp_180, h⟩
    · have g_183 := Ext.ok (Ext.tr E_131 E_175) g_105
      obtain ⟨x_185, e_186, h⟩ := lx_s h
      obtain ⟨g_189, h⟩ := gd_s h
      obtain ⟨x_191, e_192, h⟩ := lx_s h
      obtain ⟨x_201, m_202, hc_200, h⟩ := bd_s h
      have w_209 := (kw_X11_putNews (Kr.fix w_178) hc_200)
      have E_207 := Kr.ext w_209
      have w_210 := Kr.tr0 w_178 w_209 (by decide +kernel)
      refine kwl_X11_complete_176 (Kr.fix w_210)  (fun f => hQ (Kr.trS w_210 f)) BIG (Kr.rf (Kr.fix w_210)) h
    · exact kwj_X11_complete_133 (Kr.fix w_178) (fun f => hQ (Kr.trS w_178 f)) h
set_option maxHeartbeats 4000000 in
theorem kwj_X11_complete_85 {P : Prop} {m : MM} {y2 y3 y5 : Int} {rr : Int ⊕ Nat} {rm : MM} (hF : Fix m) (hQ : Kr fW_X11_complete 0 (tn rr) m rm → P)
  (h : fj_X11_complete_85 y2 y3 y5 m = some (rr, rm)) : P := by
  unfold fj_X11_complete_85 at h
  rcases it_s h with ⟨hp_90, h⟩ | ⟨hp_90, h⟩
  · exact kwj_X11_complete_95 hF hQ h
  · exact kwj_X11_complete_95 hF hQ h
set_option maxHeartbeats 4000000 in
theorem kw_X11_complete {m0 : MM} {p1 : Int} {rr : Int ⊕ Nat} {rm : MM} (hF : Fix m0)
  (h : fm_X11_complete p1 m0 = some (rr, rm)) : Kr fW_X11_complete 0 (tn rr) m0 rm := by
  have hQ : Kr fW_X11_complete 0 (tn rr) m0 rm → Kr fW_X11_complete 0 (tn rr) m0 rm := id
  unfold fm_X11_complete at h
  rcases it_s h with ⟨hp_1, h⟩ | ⟨hp_1, h⟩
  · cases h
    exact hQ (Kr.thr (Kr.rf (W := fW_X11_complete) (e := 0) hF) (by decide +kernel))
  · obtain ⟨x_6, hc_5, h⟩ := bp_s h
    rcases it_s h with ⟨hp_14, h⟩ | ⟨hp_14, h⟩
    · obtain ⟨x_19, hc_18, h⟩ := bp_s h
      obtain ⟨g_27, h⟩ := gd_s h
      obtain ⟨x_35, e_36, h⟩ := lx_s h
      obtain ⟨x_43, hc_42, h⟩ := bp_s h
      obtain ⟨m_59, e_60, h⟩ := up_s h
      have E_63 := ext_up e_60 (And.left g_27) (by decide)
      have w_64 := Kr.upK (y := 5) (Kr.rf (W := fW_X11_complete) (e := 0) hF) e_60 (ext_up e_60 (And.left g_27) (by decide)) (And.left g_27) (fx_f (j := 5) hF g_27 (by decide +kernel)) g_27 (Or.inr rfl) (by decide +kernel) g_27 (by decide) (by first | exact Or.inl (by decide) | exact Or.inr (by decide))
      rcases it_s h with ⟨hp_66, h⟩ | ⟨hp_66, h⟩
      · have g_69 := Ext.ok E_63 g_27
        obtain ⟨x_71, e_72, h⟩ := lx_s h
        obtain ⟨g_73, h⟩ := gd_s h
        obtain ⟨x_75, hc_74, h⟩ := bp_s h
        rcases it_s h with ⟨hp_89, h⟩ | ⟨hp_89, h⟩
        · obtain ⟨x_271, m_272, hc_270, h⟩ := bd_s h
          have w_279 := (kw_X11_countReplay (Kr.fix w_64) hc_270)
          have E_277 := Kr.ext w_279
          have w_280 := Kr.tr0 w_64 w_279 (by decide +kernel)
          exact kwj_X11_complete_85 (Kr.fix w_280) (fun f => hQ (Kr.trS w_280 f)) h
        · exact kwj_X11_complete_85 (Kr.fix w_64) (fun f => hQ (Kr.trS w_64 f)) h
      · cases h
        exact hQ w_64
    · cases h
      exact hQ (Kr.thr (Kr.rf (W := fW_X11_complete) (e := 0) hF) (by decide +kernel))
set_option maxHeartbeats 4000000 in
theorem kwl_X11_die_9 {P : Prop} {mb : MM} {y1 : Int} {k65 : Int → MM → Option ((Int ⊕ Nat) × MM)} {rr : Int ⊕ Nat} {rm : MM} (hF0 : Fix mb)
  (hk65 : ∀ mq : MM, Kr fW_X11_die 0 0 mb mq → ∀ {z2 : Int}, k65 z2 mq = some (rr, rm) → P) (hQ : Kr fW_X11_die 0 (tn rr) mb rm → P) :
  ∀ (n : Nat) {m : MM} {y2 y3 : Int} , Kr fW_X11_die 0 0 mb m → fl_X11_die_9 y1 k65 n y2 y3 m = some (rr, rm) → P := by
  intro n
  induction n with
  | zero => intro m y2 y3 w h; cases h
  | succ n ih0 =>
    intro m y2 y3 w h
    have ih : ∀ mq : MM, Kr fW_X11_die 0 0 mb mq → ∀ {z2 z3 : Int}, fl_X11_die_9 y1 k65 n z2 z3 mq = some (rr, rm) → P := fun mq b => by intros; exact ih0 b ‹_›
    unfold fl_X11_die_9 at h
    obtain ⟨x_36, hc_35, h⟩ := bp_s h
    rcases it_s h with ⟨hp_44, h⟩ | ⟨hp_44, h⟩
    · obtain ⟨x_49, hc_48, h⟩ := bp_s h
      obtain ⟨g_57, h⟩ := gd_s h
      obtain ⟨x_68, e_69, h⟩ := lx_s h
      rcases it_s h with ⟨hp_70, h⟩ | ⟨hp_70, h⟩
      · obtain ⟨x_85, e_86, h⟩ := lx_s h
        rcases it_s h with ⟨hp_87, h⟩ | ⟨hp_87, h⟩
        · obtain ⟨m_101, e_102, h⟩ := up_s h
          have E_105 := ext_up e_102 (And.left g_57) (by decide)
          have w_106 := Kr.upK (y := 5) w e_102 (ext_up e_102 (And.left g_57) (by decide)) (And.left g_57) (fx_f (j := 5) (Kr.fix w) g_57 (by decide +kernel)) g_57 (Or.inr rfl) (by decide +kernel) g_57 (by decide) (by first | exact Or.inl (by decide) | exact Or.inr (by decide))
          obtain ⟨x_113, e_114, h⟩ := lx_s h
          obtain ⟨x_124, e_125, h⟩ := lx_s h
          exact ih m_101 w_106 h
        · obtain ⟨x_93, e_94, h⟩ := lx_s h
          exact ih m w h
      · obtain ⟨x_76, e_77, h⟩ := lx_s h
        exact ih m w h
    · exact hk65 m w h
set_option maxHeartbeats 4000000 in
theorem kwl_X11_die_67 {P : Prop} {mb : MM} {y1 y2 : Int} {rr : Int ⊕ Nat} {rm : MM} (hF0 : Fix mb) (hQ : Kr fW_X11_die 0 (tn rr) mb rm → P) :
  ∀ (n : Nat) {m : MM} {y3 : Int} , Kr fW_X11_die 0 0 mb m → fl_X11_die_67 y1 y2 n y3 m = some (rr, rm) → P := by
  intro n
  induction n with
  | zero => intro m y3 w h; cases h
  | succ n ih0 =>
    intro m y3 w h
    have ih : ∀ mq : MM, Kr fW_X11_die 0 0 mb mq → ∀ {z3 : Int}, fl_X11_die_67 y1 y2 n z3 mq = some (rr, rm) → P := fun mq b => by intros; exact ih0 b ‹_›
    unfold fl_X11_die_67 at h
    obtain ⟨x_160, hc_159, h⟩ := bp_s h
    rcases it_s h with ⟨hp_168, h⟩ | ⟨hp_168, h⟩
    · obtain ⟨x_173, hc_172, h⟩ := bp_s h
      obtain ⟨g_181, h⟩ := gd_s h
      obtain ⟨x_192, e_193, h⟩ := lx_s h
      rcases it_s h with ⟨hp_194, h⟩ | ⟨hp_194, h⟩
      · obtain ⟨m_218, e_219, h⟩ := up_s h
        have E_222 := ext_up e_219 (And.left g_181) (by decide)
        have w_223 := Kr.upK (y := 12) w e_219 (ext_up e_219 (And.left g_181) (by decide)) (And.left g_181) (fx_f (j := 12) (Kr.fix w) g_181 (by decide +kernel)) g_181 (Or.inr rfl) (by decide +kernel) g_181 (by decide) (by first | exact Or.inl (by decide) | exact Or.inr (by decide))
        obtain ⟨x_230, e_231, h⟩ := lx_s h
        exact ih m_218 w_223 h
      · obtain ⟨m_198, e_199, h⟩ := up_s h
        have E_202 := ext_up e_199 (And.left g_181) (by decide)
        have w_203 := Kr.upK (y := 12) w e_199 (ext_up e_199 (And.left g_181) (by decide)) (And.left g_181) (fx_f (j := 12) (Kr.fix w) g_181 (by decide +kernel)) g_181 (Or.inr rfl) (by decide +kernel) g_181 (by decide) (by first | exact Or.inl (by decide) | exact Or.inr (by decide))
        obtain ⟨x_210, e_211, h⟩ := lx_s h
        exact ih m_198 w_203 h
    · cases h
      exact hQ w
set_option maxHeartbeats 4000000 in
theorem kw_X11_die {m0 : MM} {p1 : Int} {rr : Int ⊕ Nat} {rm : MM} (hF : Fix m0)
  (h : fm_X11_die p1 m0 = some (rr, rm)) : Kr fW_X11_die 0 (tn rr) m0 rm := by
  have hQ : Kr fW_X11_die 0 (tn rr) m0 rm → Kr fW_X11_die 0 (tn rr) m0 rm := id
  unfold fm_X11_die at h
  obtain ⟨rr5, m_3, hc_1, h⟩ := bx_s h
  rcases h with ⟨q_10, rfl, h⟩ | ⟨x_2, rfl, h⟩
  · cases h
    have w_12 := (kw_X11_checkWorker hF hc_1)
    have E_8 := Kr.ext w_12
    have w_13 := Kr.tr0 (Kr.rf (W := fW_X11_die) (e := 0) hF) w_12 (by decide +kernel)
    exact hQ w_13
  have w_14 := (kw_X11_checkWorker hF hc_1)
  have E_8 := Kr.ext w_14
  have w_15 := Kr.tr0 (Kr.rf (W := fW_X11_die) (e := 0) hF) w_14 (by decide +kernel)
  refine kwl_X11_die_9 (Kr.fix w_15) ?_ (fun f => hQ (Kr.trS w_15 f)) BIG (Kr.rf (Kr.fix w_15)) h
  intro m_143 w_146
  intro x_130
  intro h
  have E_144 := Kr.ext w_146
  have w_147 := Kr.trS w_15 w_146
  refine kwl_X11_die_67 (Kr.fix w_147)  (fun f => hQ (Kr.trS w_147 f)) BIG (Kr.rf (Kr.fix w_147)) h
end KW04
