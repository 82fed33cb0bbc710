/-! THE ROOM: how many objects there are: what each method makes (written by wip/whole/gen/gen951.py), 02. -/
section KW02
set_option maxHeartbeats 4000000 in
theorem kw_X4_failBranch {m0 : MM} {p1 : Int} {rz : Int} {rm : MM} (hF : Fix m0)
  (h : fm_X4_failBranch p1 m0 = some (rz, rm)) : Kr fW_X4_failBranch 0 0 m0 rm := by
  have hQ : Kr fW_X4_failBranch 0 0 m0 rm → Kr fW_X4_failBranch 0 0 m0 rm := id
  unfold fm_X4_failBranch at h
  obtain ⟨g_3, h⟩ := gd_s h
  obtain ⟨x_5, e_6, h⟩ := lx_s h
  obtain ⟨x_8, m_9, hc_7, h⟩ := bd_s h
  have w_16 := (kw_X1_goOnAt hF g_3 hc_7)
  have E_14 := Kr.ext w_16
  have w_17 := Kr.tr0 (Kr.rf (W := fW_X4_failBranch) (e := 0) hF) w_16 (by decide +kernel)
  have g_21 := Ext.ok E_14 g_3
  obtain ⟨x_23, e_24, h⟩ := lx_s h
  rcases it_s h with ⟨hp_25, h⟩ | ⟨hp_25, h⟩
  · obtain ⟨x_64, hc_63, h⟩ := bp_s h
    obtain ⟨x_73, m_74, hc_72, h⟩ := bd_s h
    have w_81 := (kw_X1_goOnAt (Kr.fix w_17) g_21 hc_72)
    have E_79 := Kr.ext w_81
    have w_82 := Kr.tr0 w_17 w_81 (by decide +kernel)
    have g_89 := Ext.ok E_79 g_21
    obtain ⟨x_91, e_92, h⟩ := lx_s h
    obtain ⟨x_94, hc_93, h⟩ := bp_s h
    obtain ⟨m_102, e_103, h⟩ := up_s h
    have E_106 := ext_up e_103 (And.left g_89) (by decide)
    have w_107 := Kr.upK (y := 10) w_82 e_103 (ext_up e_103 (And.left g_89) (by decide)) (And.left g_89) (fx_f (j := 10) (Kr.fix w_82) g_89 (by decide +kernel)) g_89 (Or.inr rfl) (by decide +kernel) g_89 (by decide) (by first | exact Or.inl (by decide) | exact Or.inr (by decide))
    cases h
    exact hQ w_107
  · obtain ⟨x_33, m_34, hc_32, h⟩ := bd_s h
    have w_41 := (kw_X4_command (Kr.fix w_17) hc_32)
    have E_39 := Kr.ext w_41
    have w_42 := Kr.tr0 w_17 w_41 (by decide +kernel)
    rcases it_s h with ⟨hp_44, h⟩ | ⟨hp_44, h⟩
    · cases h
      exact hQ w_42
    · obtain ⟨m_50, e_51, h⟩ := up_s h
      have E_54 := ext_up e_51 (And.left (fx_kF (c := 9) (Kr.fix w_42) (by decide +kernel))) (by decide)
      have w_55 := Kr.upC (y := 9) w_42 e_51 (ext_up e_51 (And.left (fx_kF (c := 9) (Kr.fix w_42) (by decide +kernel))) (by decide)) (And.left (fx_kF (c := 9) (Kr.fix w_42) (by decide +kernel))) (fx_f (j := 9) (Kr.fix w_42) (fx_kF (c := 9) (Kr.fix w_42) (by decide +kernel)) (by decide +kernel)) (Or.inr rfl) (by decide +kernel) (fx_kF (c := 9) (Kr.fix w_42) (by decide +kernel)) (by decide) (by first | exact Or.inl (by decide) | exact Or.inr (by decide))
      cases h
      exact hQ w_55
set_option maxHeartbeats 4000000 in
theorem kwj_X4_tellCancel_70 {P : Prop} {m : MM} {y1 y2 : Int} {rz : Int} {rm : MM} {c : Int → MM → Option (Int × MM)} (hF : Fix m)
  (hc : ∀ mq : MM, Kr fW_X4_tellCancel 0 0 m mq → ∀ {z1 : Int}, c z1 mq = some (rz, rm) → P) (hQ : Kr fW_X4_tellCancel 0 0 m rm → P)
  (h : fj_X4_tellCancel_70 c y1 y2 m = some (rz, rm)) : P := by
  unfold fj_X4_tellCancel_70 at h
  obtain ⟨x_62, m_63, hc_61, h⟩ := bd_s h
  have w_70 := (kw_X4_failBranch hF hc_61)
  have E_68 := Kr.ext w_70
  have w_71 := Kr.tr0 (Kr.rf (W := fW_X4_tellCancel) (e := 0) hF) w_70 (by decide +kernel)
  obtain ⟨x_78, e_79, h⟩ := lx_s h
  exact hc m_63 w_71 h
set_option maxHeartbeats 4000000 in
theorem kwl_X4_tellCancel_2 {P : Prop} {mb : MM} {rz : Int} {rm : MM} (hF0 : Fix mb) (hQ : Kr fW_X4_tellCancel 0 0 mb rm → P) :
  ∀ (n : Nat) {m : MM} {y1 : Int} , Kr fW_X4_tellCancel 0 0 mb m → fl_X4_tellCancel_2 n y1 m = some (rz, rm) → P := by
  intro n
  induction n with
  | zero => intro m y1 w h; cases h
  | succ n ih0 =>
    intro m y1 w h
    have ih : ∀ mq : MM, Kr fW_X4_tellCancel 0 0 mb mq → ∀ {z1 : Int}, fl_X4_tellCancel_2 n z1 mq = some (rz, rm) → P := fun mq b => by intros; exact ih0 b ‹_›
    unfold fl_X4_tellCancel_2 at h
    obtain ⟨x_13, e_14, h⟩ := lx_s h
    rcases it_s h with ⟨hp_15, h⟩ | ⟨hp_15, h⟩
    · obtain ⟨x_17, hc_16, h⟩ := bp_s h
      rcases it_s h with ⟨hp_25, h⟩ | ⟨hp_25, h⟩
      · cases h
        exact hQ w
      · obtain ⟨x_30, hc_29, h⟩ := bp_s h
        rcases it_s h with ⟨hp_43, h⟩ | ⟨hp_43, h⟩
        · cases h
          exact hQ w
        · obtain ⟨g_46, h⟩ := gd_s h
          obtain ⟨x_48, e_49, h⟩ := lx_s h
          rcases it_s h with ⟨hp_50, h⟩ | ⟨hp_50, h⟩
          · obtain ⟨m_115, e_116, h⟩ := up_s h
            have E_119 := ext_up e_116 (And.left g_46) (by decide)
            have w_120 := Kr.upK (y := 6) w e_116 (ext_up e_116 (And.left g_46) (by decide)) (And.left g_46) (fx_f (j := 6) (Kr.fix w) g_46 (by decide +kernel)) g_46 (Or.inr rfl) (by decide +kernel) g_46 (by decide) (by first | exact Or.inl (by decide) | exact Or.inr (by decide))
            obtain ⟨x_127, e_128, h⟩ := lx_s h
            exact ih m_115 w_120 h
          · obtain ⟨x_52, hc_51, h⟩ := bp_s h
            rcases it_s h with ⟨hp_60, h⟩ | ⟨hp_60, h⟩
            · exact kwj_X4_tellCancel_70 (Kr.fix w) (fun mq f => ih mq (Kr.trS w f)) (fun f => hQ (Kr.trS w f)) h
            · obtain ⟨x_87, e_88, h⟩ := lx_s h
              obtain ⟨x_92, m_93, hc_91, h⟩ := bd_s h
              have w_100 := (kw_X4_command (Kr.fix w) hc_91)
              have E_98 := Kr.ext w_100
              have w_101 := Kr.tr0 w w_100 (by decide +kernel)
              rcases it_s h with ⟨hp_103, h⟩ | ⟨hp_103, h⟩
              · obtain ⟨x_109, e_110, h⟩ := lx_s h
                exact ih m_93 w_101 h
              · exact kwj_X4_tellCancel_70 (Kr.fix w_101) (fun mq f => ih mq (Kr.trS w_101 f)) (fun f => hQ (Kr.trS w_101 f)) h
    · cases h
      exact hQ w
set_option maxHeartbeats 4000000 in
theorem kw_X4_tellCancel {m0 : MM} {rz : Int} {rm : MM} (hF : Fix m0)
  (h : fm_X4_tellCancel m0 = some (rz, rm)) : Kr fW_X4_tellCancel 0 0 m0 rm := by
  have hQ : Kr fW_X4_tellCancel 0 0 m0 rm → Kr fW_X4_tellCancel 0 0 m0 rm := id
  unfold fm_X4_tellCancel at h
  refine kwl_X4_tellCancel_2 hF  hQ BIG (Kr.rf hF) h
set_option maxHeartbeats 4000000 in
theorem kw_X4_noteFailure {m0 : MM} {p1 : Int} {rz : Int} {rm : MM} (hF : Fix m0)
  (h : fm_X4_noteFailure p1 m0 = some (rz, rm)) : Kr fW_X4_noteFailure 0 0 m0 rm := by
  have hQ : Kr fW_X4_noteFailure 0 0 m0 rm → Kr fW_X4_noteFailure 0 0 m0 rm := id
  unfold fm_X4_noteFailure at h
  rcases it_s h with ⟨hp_1, h⟩ | ⟨hp_1, h⟩
  · cases h
    exact hQ (Kr.rf (W := fW_X4_noteFailure) (e := 0) hF)
  · obtain ⟨g_4, h⟩ := gd_s h
    obtain ⟨x_6, e_7, h⟩ := lx_s h
    rcases it_s h with ⟨hp_10, h⟩ | ⟨hp_10, h⟩
    · obtain ⟨x_26, e_27, h⟩ := lx_s h
      obtain ⟨x_29, m_30, hc_28, h⟩ := bd_s h
      have w_37 := (kw_X1_goOnAt hF g_4 hc_28)
      have E_35 := Kr.ext w_37
      have w_38 := Kr.tr0 (Kr.rf (W := fW_X4_noteFailure) (e := 0) hF) w_37 (by decide +kernel)
      cases h
      exact hQ w_38
    · obtain ⟨x_12, m_13, hc_11, h⟩ := bd_s h
      have w_20 := (kw_X4_failBranch hF hc_11)
      have E_18 := Kr.ext w_20
      have w_21 := Kr.tr0 (Kr.rf (W := fW_X4_noteFailure) (e := 0) hF) w_20 (by decide +kernel)
      cases h
      exact hQ w_21
set_option maxHeartbeats 4000000 in
theorem kwj_X4_noteEnd_50 {P : Prop} {m : MM} {y1 : Int} {rz : Int} {rm : MM} (hF : Fix m) (hQ : Kr fW_X4_noteEnd 0 0 m rm → P)
  (h : fj_X4_noteEnd_50 y1 m = some (rz, rm)) : P := by
  unfold fj_X4_noteEnd_50 at h
  obtain ⟨g_16, h⟩ := gd_s h
  obtain ⟨x_18, e_19, h⟩ := lx_s h
  obtain ⟨x_25, m_26, hc_24, h⟩ := bd_s h
  have w_33 := (kw_X1_goOnAt hF g_16 hc_24)
  have E_31 := Kr.ext w_33
  have w_34 := Kr.tr0 (Kr.rf (W := fW_X4_noteEnd) (e := 0) hF) w_33 (by decide +kernel)
  cases h
  exact hQ w_34
set_option maxHeartbeats 4000000 in
theorem kw_X4_noteEnd {m0 : MM} {p1 p2 p3 : Int} {rz : Int} {rm : MM} (hF : Fix m0)
  (h : fm_X4_noteEnd p1 p2 p3 m0 = some (rz, rm)) : Kr fW_X4_noteEnd 0 0 m0 rm := by
  have hQ : Kr fW_X4_noteEnd 0 0 m0 rm → Kr fW_X4_noteEnd 0 0 m0 rm := id
  unfold fm_X4_noteEnd at h
  rcases it_s h with ⟨hp_1, h⟩ | ⟨hp_1, h⟩
  · cases h
    exact hQ (Kr.rf (W := fW_X4_noteEnd) (e := 0) hF)
  · obtain ⟨g_4, h⟩ := gd_s h
    obtain ⟨x_6, e_7, h⟩ := lx_s h
    rcases it_s h with ⟨hp_10, h⟩ | ⟨hp_10, h⟩
    · obtain ⟨x_78, e_79, h⟩ := lx_s h
      obtain ⟨x_81, m_82, hc_80, h⟩ := bd_s h
      have w_89 := (kw_X1_goOnAt hF g_4 hc_80)
      have E_87 := Kr.ext w_89
      have w_90 := Kr.tr0 (Kr.rf (W := fW_X4_noteEnd) (e := 0) hF) w_89 (by decide +kernel)
      cases h
      exact hQ w_90
    · rcases it_s h with ⟨hp_13, h⟩ | ⟨hp_13, h⟩
      · exact kwj_X4_noteEnd_50 hF hQ h
      · obtain ⟨x_42, e_43, h⟩ := lx_s h
        obtain ⟨x_47, e_48, h⟩ := lx_s h
        obtain ⟨g_49, h⟩ := gd_s h
        obtain ⟨x_51, hc_50, h⟩ := bp_s h
        obtain ⟨x_64, m_65, hc_63, h⟩ := bd_s h
        have w_72 := (kw_X8_set hF hc_63)
        have E_70 := Kr.ext w_72
        have w_73 := Kr.tr0 (Kr.rf (W := fW_X4_noteEnd) (e := 0) hF) w_72 (by decide +kernel)
        exact kwj_X4_noteEnd_50 (Kr.fix w_73) (fun f => hQ (Kr.trS w_73 f)) h
set_option maxHeartbeats 4000000 in
theorem kwj_X4_note_101 {P : Prop} {m : MM} {y2 : Int} {rz : Int} {rm : MM} (hF : Fix m) (hQ : Kr fW_X4_note 0 0 m rm → P)
  (h : fj_X4_note_101 y2 m = some (rz, rm)) : P := by
  unfold fj_X4_note_101 at h
  obtain ⟨x_45, hc_44, h⟩ := bp_s h
  obtain ⟨x_54, m_55, hc_53, h⟩ := bd_s h
  have w_62 := (kw_X4_noteFailure hF hc_53)
  have E_60 := Kr.ext w_62
  have w_63 := Kr.tr0 (Kr.rf (W := fW_X4_note) (e := 0) hF) w_62 (by decide +kernel)
  cases h
  exact hQ w_63
set_option maxHeartbeats 4000000 in
theorem kwj_X4_note_116 {P : Prop} {m : MM} {y1 y2 y3 : Int} {rz : Int} {rm : MM} (hF : Fix m) (hQ : Kr fW_X4_note 0 0 m rm → P)
  (h : fj_X4_note_116 y1 y2 y3 m = some (rz, rm)) : P := by
  unfold fj_X4_note_116 at h
  obtain ⟨x_125, hc_124, h⟩ := bp_s h
  obtain ⟨x_134, m_135, hc_133, h⟩ := bd_s h
  have w_142 := (kw_X4_noteEnd hF hc_133)
  have E_140 := Kr.ext w_142
  have w_143 := Kr.tr0 (Kr.rf (W := fW_X4_note) (e := 0) hF) w_142 (by decide +kernel)
  cases h
  exact hQ w_143
set_option maxHeartbeats 4000000 in
theorem kw_X4_note {m0 : MM} {p1 p2 p3 : Int} {rz : Int} {rm : MM} (hF : Fix m0)
  (h : fm_X4_note p1 p2 p3 m0 = some (rz, rm)) : Kr fW_X4_note 0 0 m0 rm := by
  have hQ : Kr fW_X4_note 0 0 m0 rm → Kr fW_X4_note 0 0 m0 rm := id
  unfold fm_X4_note at h
  rcases it_s h with ⟨hp_2, h⟩ | ⟨hp_2, h⟩
  · obtain ⟨x_9, m_10, hc_8, h⟩ := bd_s h
    have w_17 := (kw_X8_set hF hc_8)
    have E_15 := Kr.ext w_17
    have w_18 := Kr.tr0 (Kr.rf (W := fW_X4_note) (e := 0) hF) w_17 (by decide +kernel)
    obtain ⟨x_28, m_29, hc_27, h⟩ := bd_s h
    have w_36 := (kw_X8_beginBranch (Kr.fix w_18) hc_27)
    have E_34 := Kr.ext w_36
    have w_37 := Kr.tr0 w_18 w_36 (by decide +kernel)
    cases h
    exact hQ w_37
  rcases it_s h with ⟨hp_40, h⟩ | ⟨hp_40, h⟩
  · exact kwj_X4_note_101 hF hQ h
  rcases it_s h with ⟨hp_65, h⟩ | ⟨hp_65, h⟩
  · exact kwj_X4_note_101 hF hQ h
  rcases it_s h with ⟨hp_67, h⟩ | ⟨hp_67, h⟩
  · obtain ⟨x_72, hc_71, h⟩ := bp_s h
    obtain ⟨g_82, h⟩ := gd_s h
    obtain ⟨x_84, m_85, hc_83, h⟩ := bd_s h
    have w_92 := (kw_X5_add hF g_82 hc_83)
    have E_90 := Kr.ext w_92
    have w_93 := Kr.tr0 (Kr.rf (W := fW_X4_note) (e := 0) hF) w_92 (by decide +kernel)
    cases h
    exact hQ w_93
  rcases it_s h with ⟨hp_96, h⟩ | ⟨hp_96, h⟩
  · obtain ⟨m_102, e_103, h⟩ := up_s h
    have E_106 := ext_up e_103 (And.left (fx_kF (c := 9) hF (by decide +kernel))) (by decide)
    have w_107 := Kr.upC (y := 8) (Kr.rf (W := fW_X4_note) (e := 0) hF) e_103 (ext_up e_103 (And.left (fx_kF (c := 9) hF (by decide +kernel))) (by decide)) (And.left (fx_kF (c := 9) hF (by decide +kernel))) (fx_f (j := 8) hF (fx_kF (c := 9) hF (by decide +kernel)) (by decide +kernel)) (Or.inr rfl) (by decide +kernel) (fx_kF (c := 9) hF (by decide +kernel)) (by decide) (by first | exact Or.inl (by decide) | exact Or.inr (by decide))
    obtain ⟨x_110, m_111, hc_109, h⟩ := bd_s h
    have w_118 := (kw_X4_tellCancel (Kr.fix w_107) hc_109)
    have E_116 := Kr.ext w_118
    have w_119 := Kr.tr0 w_107 w_118 (by decide +kernel)
    cases h
    exact hQ w_119
  exact kwj_X4_note_116 hF hQ h
set_option maxHeartbeats 4000000 in
theorem kw_X5_put {m0 : MM} {p0 p1 p2 : Int} {rz : Int} {rm : MM} (hF : Fix m0) (g0 : okc m0 p0 6)
  (h : fm_X5_put p0 p1 p2 m0 = some (rz, rm)) : Kr fW_X5_put 0 0 m0 rm := by
  have hQ : Kr fW_X5_put 0 0 m0 rm → Kr fW_X5_put 0 0 m0 rm := id
  unfold fm_X5_put at h
  obtain ⟨x_5, e_6, h⟩ := lx_s h
  obtain ⟨x_18, e_19, h⟩ := lx_s h
  rcases it_s h with ⟨hp_28, h⟩ | ⟨hp_28, h⟩
  · cases h
    exact hQ (Kr.rf (W := fW_X5_put) (e := 0) hF)
  · obtain ⟨x_32, e_33, h⟩ := lx_s h
    rcases it_s h with ⟨hp_34, h⟩ | ⟨hp_34, h⟩
    · obtain ⟨x_38, e_39, h⟩ := lx_s h
      obtain ⟨g_42, h⟩ := gd_s h
      rcases it_s h with ⟨hp_43, h⟩ | ⟨hp_43, h⟩
      · obtain ⟨g_49, h⟩ := gd_s h
        obtain ⟨x_51, e_52, h⟩ := lx_s h
        rcases it_s h with ⟨hp_53, h⟩ | ⟨hp_53, h⟩
        · cases h
          exact hQ (Kr.rf (W := fW_X5_put) (e := 0) hF)
        · obtain ⟨g_62, h⟩ := gd_s h
          rcases it_s h with ⟨hp_63, h⟩ | ⟨hp_63, h⟩
          · obtain ⟨g_70, h⟩ := gd_s h
            obtain ⟨g_71, h⟩ := gd_s h
            obtain ⟨m_72, e_73, h⟩ := up_s h
            have E_76 := ext_up e_73 (And.left g_62) (And.left g_70)
            have w_77 := Kr.upA (Kr.rf (W := fW_X5_put) (e := 0) hF) e_73 (ext_up e_73 (And.left g_62) (And.left g_70)) (And.left g_62) (fx_a hF g_62 (And.left g_70) (by decide +kernel)) g_62 g_71 (by decide +kernel) g_62 (And.left g_70) (by first | exact Or.inl (by decide) | exact Or.inr (by decide))
            cases h
            exact hQ w_77
          · cases h
            exact hQ (Kr.rf (W := fW_X5_put) (e := 0) hF)
      · cases h
        exact hQ (Kr.rf (W := fW_X5_put) (e := 0) hF)
    · cases h
      exact hQ (Kr.rf (W := fW_X5_put) (e := 0) hF)
set_option maxHeartbeats 4000000 in
theorem kwl_X5_removeAt_17 {P : Prop} {mb : MM} {p0 : Int} {k43 : MM → Option (Int × MM)} {rz : Int} {rm : MM} (hF0 : Fix mb) (gb : okc mb p0 6)
  (hk43 : ∀ mq : MM, Kr fW_X5_removeAt 0 0 mb mq → k43 mq = some (rz, rm) → P) (hQ : Kr fW_X5_removeAt 0 0 mb rm → P) :
  ∀ (n : Nat) {m : MM} {y2 : Int} , Kr fW_X5_removeAt 0 0 mb m → fl_X5_removeAt_17 p0 k43 n y2 m = some (rz, rm) → P := by
  intro n
  induction n with
  | zero => intro m y2 w h; cases h
  | succ n ih0 =>
    intro m y2 w h
    have ih : ∀ mq : MM, Kr fW_X5_removeAt 0 0 mb mq → ∀ {z2 : Int}, fl_X5_removeAt_17 p0 k43 n z2 mq = some (rz, rm) → P := fun mq b => by intros; exact ih0 b ‹_›
    have g0 := Ext.ok (Kr.ext w) gb
    unfold fl_X5_removeAt_17 at h
    obtain ⟨x_22, e_23, h⟩ := lx_s h
    rcases it_s h with ⟨hp_24, h⟩ | ⟨hp_24, h⟩
    · obtain ⟨x_30, hc_29, h⟩ := bp_s h
      obtain ⟨x_39, m_40, hc_38, h⟩ := bd_s h
      have w_47 := (kw_X5_put (Kr.fix w) g0 hc_38)
      have E_45 := Kr.ext w_47
      have w_48 := Kr.tr0 w w_47 (by decide +kernel)
      obtain ⟨x_55, e_56, h⟩ := lx_s h
      exact ih m_40 w_48 h
    · exact hk43 m w h
set_option maxHeartbeats 4000000 in
theorem kw_X5_removeAt {m0 : MM} {p0 p1 : Int} {rz : Int} {rm : MM} (hF : Fix m0) (g0 : okc m0 p0 6)
  (h : fm_X5_removeAt p0 p1 m0 = some (rz, rm)) : Kr fW_X5_removeAt 0 0 m0 rm := by
  have hQ : Kr fW_X5_removeAt 0 0 m0 rm → Kr fW_X5_removeAt 0 0 m0 rm := id
  unfold fm_X5_removeAt at h
  rcases it_s h with ⟨hp_1, h⟩ | ⟨hp_1, h⟩
  · cases h
    exact hQ (Kr.rf (W := fW_X5_removeAt) (e := 0) hF)
  · obtain ⟨x_5, e_6, h⟩ := lx_s h
    rcases it_s h with ⟨hp_7, h⟩ | ⟨hp_7, h⟩
    · obtain ⟨x_12, e_13, h⟩ := lx_s h
      refine kwl_X5_removeAt_17 hF g0 ?_ hQ BIG (Kr.rf hF) h
      intro m_65 w_68
      intro h
      have E_66 := Kr.ext w_68
      have w_69 := w_68
      have g_72 := Ext.ok E_66 g0
      obtain ⟨x_74, e_75, h⟩ := lx_s h
      obtain ⟨m_80, e_81, h⟩ := up_s h
      have E_84 := ext_up e_81 (And.left g_72) (by decide)
      have w_85 := Kr.upK (y := 2) w_69 e_81 (ext_up e_81 (And.left g_72) (by decide)) (And.left g_72) (fx_f (j := 2) (Kr.fix w_69) g_72 (by decide +kernel)) g_72 (Or.inr rfl) (by decide +kernel) g_72 (by decide) (by first | exact Or.inl (by decide) | exact Or.inr (by decide))
      cases h
      exact hQ w_85
    · cases h
      exact hQ (Kr.rf (W := fW_X5_removeAt) (e := 0) hF)
set_option maxHeartbeats 4000000 in
theorem kwj_X4_awake_52 {P : Prop} {m : MM} {y1 : Int} {rz : Int} {rm : MM} (hF : Fix m) (hQ : Kr fW_X4_awake 0 0 m rm → P)
  (h : fj_X4_awake_52 y1 m = some (rz, rm)) : P := by
  unfold fj_X4_awake_52 at h
  obtain ⟨g_12, h⟩ := gd_s h
  obtain ⟨x_14, e_15, h⟩ := lx_s h
  obtain ⟨x_21, m_22, hc_20, h⟩ := bd_s h
  have w_29 := (kw_X1_goOnAt hF g_12 hc_20)
  have E_27 := Kr.ext w_29
  have w_30 := Kr.tr0 (Kr.rf (W := fW_X4_awake) (e := 0) hF) w_29 (by decide +kernel)
  cases h
  exact hQ w_30
set_option maxHeartbeats 4000000 in
theorem kw_X4_awake {m0 : MM} {p1 : Int} {rz : Int} {rm : MM} (hF : Fix m0)
  (h : fm_X4_awake p1 m0 = some (rz, rm)) : Kr fW_X4_awake 0 0 m0 rm := by
  have hQ : Kr fW_X4_awake 0 0 m0 rm → Kr fW_X4_awake 0 0 m0 rm := id
  unfold fm_X4_awake at h
  obtain ⟨g_3, h⟩ := gd_s h
  obtain ⟨x_5, e_6, h⟩ := lx_s h
  rcases it_s h with ⟨hp_9, h⟩ | ⟨hp_9, h⟩
  · obtain ⟨x_38, e_39, h⟩ := lx_s h
    obtain ⟨x_41, hc_40, h⟩ := bp_s h
    obtain ⟨x_60, e_61, h⟩ := lx_s h
    obtain ⟨x_65, e_66, h⟩ := lx_s h
    obtain ⟨g_67, h⟩ := gd_s h
    obtain ⟨x_69, hc_68, h⟩ := bp_s h
    obtain ⟨g_83, h⟩ := gd_s h
    obtain ⟨x_85, hc_84, h⟩ := bp_s h
    obtain ⟨x_94, m_95, hc_93, h⟩ := bd_s h
    have w_102 := (kw_X8_set hF hc_93)
    have E_100 := Kr.ext w_102
    have w_103 := Kr.tr0 (Kr.rf (W := fW_X4_awake) (e := 0) hF) w_102 (by decide +kernel)
    have g_107 := Ext.ok E_100 g_83
    obtain ⟨x_109, m_110, hc_108, h⟩ := bd_s h
    have w_117 := (kw_X5_removeAt (Kr.fix w_103) g_107 hc_108)
    have E_115 := Kr.ext w_117
    have w_118 := Kr.tr0 w_103 w_117 (by decide +kernel)
    exact kwj_X4_awake_52 (Kr.fix w_118) (fun f => hQ (Kr.trS w_118 f)) h
  · exact kwj_X4_awake_52 hF hQ h
set_option maxHeartbeats 4000000 in
theorem kwl_X8_remove_2 {P : Prop} {m : MM} {y1 : Int} {k35 : Int → Option (Int × MM)} {rz : Int} {rm : MM} (hF : Fix m)
  (hk35 : ∀ {z2 : Int}, k35 z2 = some (rz, rm) → P) (hQ : Kr fW_X8_remove 0 0 m rm → P) :
  ∀ (n : Nat) {y2 : Int} , fl_X8_remove_2 y1 m k35 n y2 = some (rz, rm) → P := by
  intro n
  induction n with
  | zero => intro y2 h; cases h
  | succ n ih0 =>
    intro y2 h
    have ih : ∀ {z2 : Int}, fl_X8_remove_2 y1 m k35 n z2 = some (rz, rm) → P := by intros; exact ih0 ‹_›
    unfold fl_X8_remove_2 at h
    obtain ⟨x_11, e_12, h⟩ := lx_s h
    rcases it_s h with ⟨hp_13, h⟩ | ⟨hp_13, h⟩
    · rcases it_s h with ⟨hp_20, h⟩ | ⟨hp_20, h⟩
      · obtain ⟨g_26, h⟩ := gd_s h
        obtain ⟨x_28, e_29, h⟩ := lx_s h
        obtain ⟨g_31, h⟩ := gd_s h
        obtain ⟨g_32, h⟩ := gd_s h
        rcases it_s h with ⟨hp_30, h⟩ | ⟨hp_30, h⟩
        · exact hk35 h
        · obtain ⟨x_38, e_39, h⟩ := lx_s h
          exact ih h
      · exact hk35 h
    · exact hk35 h
set_option maxHeartbeats 4000000 in
theorem kwl_X8_remove_57 {P : Prop} {mb : MM} {y1 : Int} {k94 : MM → Option (Int × MM)} {rz : Int} {rm : MM} (hF0 : Fix mb)
  (hk94 : ∀ mq : MM, Kr fW_X8_remove 0 0 mb mq → k94 mq = some (rz, rm) → P) (hQ : Kr fW_X8_remove 0 0 mb rm → P) :
  ∀ (n : Nat) {m : MM} {y3 : Int} , Kr fW_X8_remove 0 0 mb m → fl_X8_remove_57 y1 k94 n y3 m = some (rz, rm) → P := by
  intro n
  induction n with
  | zero => intro m y3 w h; cases h
  | succ n ih0 =>
    intro m y3 w h
    have ih : ∀ mq : MM, Kr fW_X8_remove 0 0 mb mq → ∀ {z3 : Int}, fl_X8_remove_57 y1 k94 n z3 mq = some (rz, rm) → P := fun mq b => by intros; exact ih0 b ‹_›
    unfold fl_X8_remove_57 at h
    obtain ⟨x_84, e_85, h⟩ := lx_s h
    rcases it_s h with ⟨hp_86, h⟩ | ⟨hp_86, h⟩
    · rcases it_s h with ⟨hp_93, h⟩ | ⟨hp_93, h⟩
      · obtain ⟨g_106, h⟩ := gd_s h
        obtain ⟨x_108, e_109, h⟩ := lx_s h
        obtain ⟨g_110, h⟩ := gd_s h
        obtain ⟨g_116, h⟩ := gd_s h
        obtain ⟨m_111, e_112, h⟩ := up_s h
        have E_115 := ext_up e_112 (And.left (fx_kF (c := 103) (Kr.fix w) (by decide +kernel))) (And.left g_110)
        have w_117 := Kr.upC (y := (-9)) w e_112 (ext_up e_112 (And.left (fx_kF (c := 103) (Kr.fix w) (by decide +kernel))) (And.left g_110)) (And.left (fx_kF (c := 103) (Kr.fix w) (by decide +kernel))) (fx_a (Kr.fix w) (fx_kF (c := 103) (Kr.fix w) (by decide +kernel)) (And.left g_110) (by decide +kernel)) (Or.inl rfl) (by decide +kernel) (fx_kF (c := 103) (Kr.fix w) (by decide +kernel)) (And.left g_110) (by first | exact Or.inl (by decide) | exact Or.inr (by decide))
        obtain ⟨x_124, e_125, h⟩ := lx_s h
        exact ih m_111 w_117 h
      · exact hk94 m w h
    · exact hk94 m w h
set_option maxHeartbeats 4000000 in
theorem kwl_X8_remove_116 {P : Prop} {mb : MM} {y1 : Int} {rz : Int} {rm : MM} (hF0 : Fix mb) (hQ : Kr fW_X8_remove 0 0 mb rm → P) :
  ∀ (n : Nat) {m : MM} {y3 : Int} , Kr fW_X8_remove 0 0 mb m → fl_X8_remove_116 y1 n y3 m = some (rz, rm) → P := by
  intro n
  induction n with
  | zero => intro m y3 w h; cases h
  | succ n ih0 =>
    intro m y3 w h
    have ih : ∀ mq : MM, Kr fW_X8_remove 0 0 mb mq → ∀ {z3 : Int}, fl_X8_remove_116 y1 n z3 mq = some (rz, rm) → P := fun mq b => by intros; exact ih0 b ‹_›
    unfold fl_X8_remove_116 at h
    obtain ⟨x_186, e_187, h⟩ := lx_s h
    rcases it_s h with ⟨hp_188, h⟩ | ⟨hp_188, h⟩
    · obtain ⟨g_194, h⟩ := gd_s h
      obtain ⟨x_196, e_197, h⟩ := lx_s h
      obtain ⟨g_200, h⟩ := gd_s h
      obtain ⟨x_202, e_203, h⟩ := lx_s h
      obtain ⟨g_206, h⟩ := gd_s h
      obtain ⟨x_208, e_209, h⟩ := lx_s h
      rcases it_s h with ⟨hp_210, h⟩ | ⟨hp_210, h⟩
      · obtain ⟨x_230, e_231, h⟩ := lx_s h
        obtain ⟨m_232, e_233, h⟩ := up_s h
        have E_236 := ext_up e_233 (And.left g_200) (by decide)
        have w_237 := Kr.upK (y := 2) w e_233 (ext_up e_233 (And.left g_200) (by decide)) (And.left g_200) (fx_f (j := 2) (Kr.fix w) g_200 (by decide +kernel)) g_200 (Or.inr rfl) (by decide +kernel) g_200 (by decide) (by first | exact Or.inl (by decide) | exact Or.inr (by decide))
        obtain ⟨x_244, e_245, h⟩ := lx_s h
        exact ih m_232 w_237 h
      · obtain ⟨x_216, e_217, h⟩ := lx_s h
        exact ih m w h
    · cases h
      exact hQ w
set_option maxHeartbeats 4000000 in
theorem kw_X8_remove {m0 : MM} {p1 : Int} {rz : Int} {rm : MM} (hF : Fix m0)
  (h : fm_X8_remove p1 m0 = some (rz, rm)) : Kr fW_X8_remove 0 0 m0 rm := by
  have hQ : Kr fW_X8_remove 0 0 m0 rm → Kr fW_X8_remove 0 0 m0 rm := id
  unfold fm_X8_remove at h
  refine kwl_X8_remove_2 hF ?_ hQ BIG h
  intro x_43
  intro h
  obtain ⟨x_59, e_60, h⟩ := lx_s h
  rcases it_s h with ⟨hp_61, h⟩ | ⟨hp_61, h⟩
  · rcases it_s h with ⟨hp_68, h⟩ | ⟨hp_68, h⟩
    · obtain ⟨x_73, e_74, h⟩ := lx_s h
      refine kwl_X8_remove_57 hF ?_ hQ BIG (Kr.rf hF) h
      intro m_138 w_141
      intro h
      have E_139 := Kr.ext w_141
      have w_142 := w_141
      obtain ⟨x_146, e_147, h⟩ := lx_s h
      obtain ⟨m_152, e_153, h⟩ := up_s h
      have E_156 := ext_up e_153 (And.left (fx_kF (c := 9) (Kr.fix w_142) (by decide +kernel))) (by decide)
      have w_157 := Kr.upC (y := 5) w_142 e_153 (ext_up e_153 (And.left (fx_kF (c := 9) (Kr.fix w_142) (by decide +kernel))) (by decide)) (And.left (fx_kF (c := 9) (Kr.fix w_142) (by decide +kernel))) (fx_f (j := 5) (Kr.fix w_142) (fx_kF (c := 9) (Kr.fix w_142) (by decide +kernel)) (by decide +kernel)) (Or.inr rfl) (by decide +kernel) (fx_kF (c := 9) (Kr.fix w_142) (by decide +kernel)) (by decide) (by first | exact Or.inl (by decide) | exact Or.inr (by decide))
      obtain ⟨x_165, e_166, h⟩ := lx_s h
      obtain ⟨g_167, h⟩ := gd_s h
      obtain ⟨g_173, h⟩ := gd_s h
      obtain ⟨m_168, e_169, h⟩ := up_s h
      have E_172 := ext_up e_169 (And.left (fx_kF (c := 103) (Kr.fix w_157) (by decide +kernel))) (And.left g_167)
      have w_174 := Kr.upC (y := (-9)) w_157 e_169 (ext_up e_169 (And.left (fx_kF (c := 103) (Kr.fix w_157) (by decide +kernel))) (And.left g_167)) (And.left (fx_kF (c := 103) (Kr.fix w_157) (by decide +kernel))) (fx_a (Kr.fix w_157) (fx_kF (c := 103) (Kr.fix w_157) (by decide +kernel)) (And.left g_167) (by decide +kernel)) (Or.inl rfl) (by decide +kernel) (fx_kF (c := 103) (Kr.fix w_157) (by decide +kernel)) (And.left g_167) (by first | exact Or.inl (by decide) | exact Or.inr (by decide))
      refine kwl_X8_remove_116 (Kr.fix w_174)  (fun f => hQ (Kr.trS w_174 f)) BIG (Kr.rf (Kr.fix w_174)) h
    · cases h
      exact hQ (Kr.rf (W := fW_X8_remove) (e := 0) hF)
  · cases h
    exact hQ (Kr.rf (W := fW_X8_remove) (e := 0) hF)
set_option maxHeartbeats 4000000 in
theorem kw_X4_endBranch {m0 : MM} {p1 : Int} {rz : Int} {rm : MM} (hF : Fix m0)
  (h : fm_X4_endBranch p1 m0 = some (rz, rm)) : Kr fW_X4_endBranch 0 0 m0 rm := by
  have hQ : Kr fW_X4_endBranch 0 0 m0 rm → Kr fW_X4_endBranch 0 0 m0 rm := id
  unfold fm_X4_endBranch at h
  obtain ⟨g_3, h⟩ := gd_s h
  obtain ⟨x_5, e_6, h⟩ := lx_s h
  rcases it_s h with ⟨hp_7, h⟩ | ⟨hp_7, h⟩
  · obtain ⟨x_16, hc_15, h⟩ := bp_s h
    obtain ⟨x_27, m_28, hc_26, h⟩ := bd_s h
    have w_35 := (kw_X4_command hF hc_26)
    have E_33 := Kr.ext w_35
    have w_36 := Kr.tr0 (Kr.rf (W := fW_X4_endBranch) (e := 0) hF) w_35 (by decide +kernel)
    rcases it_s h with ⟨hp_38, h⟩ | ⟨hp_38, h⟩
    · cases h
      exact hQ w_36
    · obtain ⟨m_44, e_45, h⟩ := up_s h
      have E_48 := ext_up e_45 (And.left (fx_kF (c := 9) (Kr.fix w_36) (by decide +kernel))) (by decide)
      have w_49 := Kr.upC (y := 9) w_36 e_45 (ext_up e_45 (And.left (fx_kF (c := 9) (Kr.fix w_36) (by decide +kernel))) (by decide)) (And.left (fx_kF (c := 9) (Kr.fix w_36) (by decide +kernel))) (fx_f (j := 9) (Kr.fix w_36) (fx_kF (c := 9) (Kr.fix w_36) (by decide +kernel)) (by decide +kernel)) (Or.inr rfl) (by decide +kernel) (fx_kF (c := 9) (Kr.fix w_36) (by decide +kernel)) (by decide) (by first | exact Or.inl (by decide) | exact Or.inr (by decide))
      cases h
      exact hQ w_49
  · obtain ⟨x_55, m_56, hc_54, h⟩ := bd_s h
    have w_63 := (kw_X8_remove hF hc_54)
    have E_61 := Kr.ext w_63
    have w_64 := Kr.tr0 (Kr.rf (W := fW_X4_endBranch) (e := 0) hF) w_63 (by decide +kernel)
    cases h
    exact hQ w_64
set_option maxHeartbeats 4000000 in
theorem kwj_X4_doPlainLine_189 {P : Prop} {m : MM} {y1 y5 : Int} {rz : Int} {rm : MM} (hF : Fix m) (hQ : Kr fW_X4_doPlainLine 0 0 m rm → P)
  (h : fj_X4_doPlainLine_189 y1 y5 m = some (rz, rm)) : P := by
  unfold fj_X4_doPlainLine_189 at h
  obtain ⟨g_39, h⟩ := gd_s h
  obtain ⟨x_41, m_42, hc_40, h⟩ := bd_s h
  have w_49 := (kw_X1_goOnAt hF g_39 hc_40)
  have E_47 := Kr.ext w_49
  have w_50 := Kr.tr0 (Kr.rf (W := fW_X4_doPlainLine) (e := 0) hF) w_49 (by decide +kernel)
  cases h
  exact hQ w_50
set_option maxHeartbeats 4000000 in
theorem kw_X4_doPlainLine {m0 : MM} {p1 p2 p3 p4 : Int} {rz : Int} {rm : MM} (hF : Fix m0)
  (h : fm_X4_doPlainLine p1 p2 p3 p4 m0 = some (rz, rm)) : Kr fW_X4_doPlainLine 0 0 m0 rm := by
  have hQ : Kr fW_X4_doPlainLine 0 0 m0 rm → Kr fW_X4_doPlainLine 0 0 m0 rm := id
  unfold fm_X4_doPlainLine at h
  obtain ⟨g_3, h⟩ := gd_s h
  obtain ⟨x_5, e_6, h⟩ := lx_s h
  obtain ⟨x_11, e_12, h⟩ := lx_s h
  rcases it_s h with ⟨hp_23, h⟩ | ⟨hp_23, h⟩
  · obtain ⟨x_28, m_29, hc_27, h⟩ := bd_s h
    have w_36 := (kw_X8_set hF hc_27)
    have E_34 := Kr.ext w_36
    have w_37 := Kr.tr0 (Kr.rf (W := fW_X4_doPlainLine) (e := 0) hF) w_36 (by decide +kernel)
    exact kwj_X4_doPlainLine_189 (Kr.fix w_37) (fun f => hQ (Kr.trS w_37 f)) h
  rcases it_s h with ⟨hp_53, h⟩ | ⟨hp_53, h⟩
  · obtain ⟨x_61, hc_60, h⟩ := bp_s h
    obtain ⟨x_73, hc_72, h⟩ := bp_s h
    obtain ⟨x_88, m_89, hc_87, h⟩ := bd_s h
    have w_96 := (kw_X8_set hF hc_87)
    have E_94 := Kr.ext w_96
    have w_97 := Kr.tr0 (Kr.rf (W := fW_X4_doPlainLine) (e := 0) hF) w_96 (by decide +kernel)
    exact kwj_X4_doPlainLine_189 (Kr.fix w_97) (fun f => hQ (Kr.trS w_97 f)) h
  rcases it_s h with ⟨hp_100, h⟩ | ⟨hp_100, h⟩
  · obtain ⟨x_109, hc_108, h⟩ := bp_s h
    obtain ⟨x_118, m_119, hc_117, h⟩ := bd_s h
    have w_126 := (kw_X4_command hF hc_117)
    have E_124 := Kr.ext w_126
    have w_127 := Kr.tr0 (Kr.rf (W := fW_X4_doPlainLine) (e := 0) hF) w_126 (by decide +kernel)
    have g_129 := Ext.ok E_124 g_3
    obtain ⟨x_131, m_132, hc_130, h⟩ := bd_s h
    have w_139 := (kw_X1_waitFor (Kr.fix w_127) g_129 hc_130)
    have E_137 := Kr.ext w_139
    have w_140 := Kr.tr0 w_127 w_139 (by decide +kernel)
    cases h
    exact hQ w_140
  rcases it_s h with ⟨hp_143, h⟩ | ⟨hp_143, h⟩
  · obtain ⟨x_151, m_152, hc_150, h⟩ := bd_s h
    have w_159 := (kw_X4_command hF hc_150)
    have E_157 := Kr.ext w_159
    have w_160 := Kr.tr0 (Kr.rf (W := fW_X4_doPlainLine) (e := 0) hF) w_159 (by decide +kernel)
    have g_162 := Ext.ok E_157 g_3
    obtain ⟨x_164, m_165, hc_163, h⟩ := bd_s h
    have w_172 := (kw_X1_waitFor (Kr.fix w_160) g_162 hc_163)
    have E_170 := Kr.ext w_172
    have w_173 := Kr.tr0 w_160 w_172 (by decide +kernel)
    cases h
    exact hQ w_173
  rcases it_s h with ⟨hp_176, h⟩ | ⟨hp_176, h⟩
  · obtain ⟨x_180, m_181, hc_179, h⟩ := bd_s h
    have w_188 := (kw_X1_waitFor hF g_3 hc_179)
    have E_186 := Kr.ext w_188
    have w_189 := Kr.tr0 (Kr.rf (W := fW_X4_doPlainLine) (e := 0) hF) w_188 (by decide +kernel)
    cases h
    exact hQ w_189
  rcases it_s h with ⟨hp_192, h⟩ | ⟨hp_192, h⟩
  · obtain ⟨x_201, hc_200, h⟩ := bp_s h
    obtain ⟨x_210, m_211, hc_209, h⟩ := bd_s h
    have w_218 := (kw_X4_command hF hc_209)
    have E_216 := Kr.ext w_218
    have w_219 := Kr.tr0 (Kr.rf (W := fW_X4_doPlainLine) (e := 0) hF) w_218 (by decide +kernel)
    have g_221 := Ext.ok E_216 g_3
    obtain ⟨x_223, m_224, hc_222, h⟩ := bd_s h
    have w_231 := (kw_X1_waitFor (Kr.fix w_219) g_221 hc_222)
    have E_229 := Kr.ext w_231
    have w_232 := Kr.tr0 w_219 w_231 (by decide +kernel)
    cases h
    exact hQ w_232
  rcases it_s h with ⟨hp_235, h⟩ | ⟨hp_235, h⟩
  · obtain ⟨x_240, hc_239, h⟩ := bp_s h
    rcases it_s h with ⟨hp_248, h⟩ | ⟨hp_248, h⟩
    · exact kwj_X4_doPlainLine_189 hF hQ h
    · exact kwj_X4_doPlainLine_189 hF hQ h
  exact kwj_X4_doPlainLine_189 hF hQ h
set_option maxHeartbeats 4000000 in
theorem kw_X4_beginBelow {m0 : MM} {p1 p2 : Int} {rz : Int} {rm : MM} (hF : Fix m0)
  (h : fm_X4_beginBelow p1 p2 m0 = some (rz, rm)) : Kr fW_X4_beginBelow 0 0 m0 rm := by
  have hQ : Kr fW_X4_beginBelow 0 0 m0 rm → Kr fW_X4_beginBelow 0 0 m0 rm := id
  unfold fm_X4_beginBelow at h
  obtain ⟨x_7, e_8, h⟩ := lx_s h
  rcases it_s h with ⟨hp_11, h⟩ | ⟨hp_11, h⟩
  · obtain ⟨g_20, h⟩ := gd_s h
    obtain ⟨x_22, e_23, h⟩ := lx_s h
    obtain ⟨x_25, m_26, hc_24, h⟩ := bd_s h
    have w_33 := (kw_X8_beginBranch hF hc_24)
    have E_31 := Kr.ext w_33
    have w_34 := Kr.tr0 (Kr.rf (W := fW_X4_beginBelow) (e := 0) hF) w_33 (by decide +kernel)
    obtain ⟨x_37, hc_36, h⟩ := bp_s h
    cases h
    exact hQ w_34
  · obtain ⟨x_48, m_49, hc_47, h⟩ := bd_s h
    have w_56 := (kw_X4_getStuck hF hc_47)
    have E_54 := Kr.ext w_56
    have w_57 := Kr.tr0 (Kr.rf (W := fW_X4_beginBelow) (e := 0) hF) w_56 (by decide +kernel)
    cases h
    exact hQ w_57
set_option maxHeartbeats 4000000 in
theorem kwj_X4_race_26 {P : Prop} {m : MM} {y1 y2 : Int} {rz : Int} {rm : MM} (hF : Fix m) (hQ : Kr fW_X4_race 0 0 m rm → P)
  (h : fj_X4_race_26 y1 y2 m = some (rz, rm)) : P := by
  unfold fj_X4_race_26 at h
  obtain ⟨g_28, h⟩ := gd_s h
  obtain ⟨x_30, e_31, h⟩ := lx_s h
  obtain ⟨g_32, h⟩ := gd_s h
  obtain ⟨m_33, e_34, h⟩ := up_s h
  have E_37 := ext_up e_34 (And.left g_32) (by decide)
  have w_38 := Kr.upK (y := 3) (Kr.rf (W := fW_X4_race) (e := 0) hF) e_34 (ext_up e_34 (And.left g_32) (by decide)) (And.left g_32) (fx_f (j := 3) hF g_32 (by decide +kernel)) g_32 (Or.inr rfl) (by decide +kernel) g_32 (by decide) (by first | exact Or.inl (by decide) | exact Or.inr (by decide))
  have g_42 := Ext.ok E_37 g_32
  obtain ⟨x_44, e_45, h⟩ := lx_s h
  have g_46 := Ext.ok E_37 g_28
  obtain ⟨m_47, e_48, h⟩ := up_s h
  have E_51 := ext_up e_48 (And.left g_46) (by decide)
  have w_52 := Kr.upK (y := 3) w_38 e_48 (ext_up e_48 (And.left g_46) (by decide)) (And.left g_46) (fx_f (j := 3) (Kr.fix w_38) g_46 (by decide +kernel)) g_46 (Or.inr rfl) (by decide +kernel) g_46 (by decide) (by first | exact Or.inl (by decide) | exact Or.inr (by decide))
  cases h
  exact hQ w_52
set_option maxHeartbeats 4000000 in
theorem kw_X4_race {m0 : MM} {p1 p2 : Int} {rz : Int} {rm : MM} (hF : Fix m0)
  (h : fm_X4_race p1 p2 m0 = some (rz, rm)) : Kr fW_X4_race 0 0 m0 rm := by
  have hQ : Kr fW_X4_race 0 0 m0 rm → Kr fW_X4_race 0 0 m0 rm := id
  unfold fm_X4_race at h
  rcases it_s h with ⟨hp_1, h⟩ | ⟨hp_1, h⟩
  · cases h
    exact hQ (Kr.rf (W := fW_X4_race) (e := 0) hF)
  · obtain ⟨g_7, h⟩ := gd_s h
    obtain ⟨x_9, e_10, h⟩ := lx_s h
    obtain ⟨x_12, hc_11, h⟩ := bp_s h
    rcases it_s h with ⟨hp_25, h⟩ | ⟨hp_25, h⟩
    · exact kwj_X4_race_26 hF hQ h
    · obtain ⟨g_56, h⟩ := gd_s h
      obtain ⟨m_57, e_58, h⟩ := up_s h
      have E_61 := ext_up e_58 (And.left g_56) (by decide)
      have w_62 := Kr.upK (y := 3) (Kr.rf (W := fW_X4_race) (e := 0) hF) e_58 (ext_up e_58 (And.left g_56) (by decide)) (And.left g_56) (fx_f (j := 3) hF g_56 (by decide +kernel)) g_56 (Or.inr rfl) (by decide +kernel) g_56 (by decide) (by first | exact Or.inl (by decide) | exact Or.inr (by decide))
      exact kwj_X4_race_26 (Kr.fix w_62) (fun f => hQ (Kr.trS w_62 f)) h
set_option maxHeartbeats 4000000 in
theorem kwl_X8_doom_7 {P : Prop} {mb : MM} {rz : Int} {rm : MM} (hF0 : Fix mb) (hQ : Kr fW_X8_doom 0 0 mb rm → P) :
  ∀ (n : Nat) {m : MM} {y2 : Int} , Kr fW_X8_doom 0 0 mb m → fl_X8_doom_7 n y2 m = some (rz, rm) → P := by
  intro n
  induction n with
  | zero => intro m y2 w h; cases h
  | succ n ih0 =>
    intro m y2 w h
    have ih : ∀ mq : MM, Kr fW_X8_doom 0 0 mb mq → ∀ {z2 : Int}, fl_X8_doom_7 n z2 mq = some (rz, rm) → P := fun mq b => by intros; exact ih0 b ‹_›
    unfold fl_X8_doom_7 at h
    obtain ⟨x_20, e_21, h⟩ := lx_s h
    rcases it_s h with ⟨hp_22, h⟩ | ⟨hp_22, h⟩
    · rcases it_s h with ⟨hp_29, h⟩ | ⟨hp_29, h⟩
      · obtain ⟨g_35, h⟩ := gd_s h
        obtain ⟨x_37, e_38, h⟩ := lx_s h
        obtain ⟨g_41, h⟩ := gd_s h
        obtain ⟨x_43, e_44, h⟩ := lx_s h
        obtain ⟨x_46, hc_45, h⟩ := bp_s h
        rcases it_s h with ⟨hp_59, h⟩ | ⟨hp_59, h⟩
        · obtain ⟨x_65, e_66, h⟩ := lx_s h
          exact ih m w h
        · obtain ⟨g_71, h⟩ := gd_s h
          obtain ⟨x_73, e_74, h⟩ := lx_s h
          rcases it_s h with ⟨hp_75, h⟩ | ⟨hp_75, h⟩
          · obtain ⟨x_81, e_82, h⟩ := lx_s h
            exact ih m w h
          · obtain ⟨m_93, e_94, h⟩ := up_s h
            have E_97 := ext_up e_94 (And.left g_41) (by decide)
            have w_98 := Kr.upK (y := 9) w e_94 (ext_up e_94 (And.left g_41) (by decide)) (And.left g_41) (fx_f (j := 9) (Kr.fix w) g_41 (by decide +kernel)) g_41 (Or.inr rfl) (by decide +kernel) g_41 (by decide) (by first | exact Or.inl (by decide) | exact Or.inr (by decide))
            obtain ⟨x_105, e_106, h⟩ := lx_s h
            exact ih m_93 w_98 h
      · cases h
        exact hQ w
    · cases h
      exact hQ w
set_option maxHeartbeats 4000000 in
theorem kw_X8_doom {m0 : MM} {p1 : Int} {rz : Int} {rm : MM} (hF : Fix m0)
  (h : fm_X8_doom p1 m0 = some (rz, rm)) : Kr fW_X8_doom 0 0 m0 rm := by
  have hQ : Kr fW_X8_doom 0 0 m0 rm → Kr fW_X8_doom 0 0 m0 rm := id
  unfold fm_X8_doom at h
  obtain ⟨g_3, h⟩ := gd_s h
  obtain ⟨m_4, e_5, h⟩ := up_s h
  have E_8 := ext_up e_5 (And.left g_3) (by decide)
  have w_9 := Kr.upK (y := 9) (Kr.rf (W := fW_X8_doom) (e := 0) hF) e_5 (ext_up e_5 (And.left g_3) (by decide)) (And.left g_3) (fx_f (j := 9) hF g_3 (by decide +kernel)) g_3 (Or.inr rfl) (by decide +kernel) g_3 (by decide) (by first | exact Or.inl (by decide) | exact Or.inr (by decide))
  refine kwl_X8_doom_7 (Kr.fix w_9)  (fun f => hQ (Kr.trS w_9 f)) BIG (Kr.rf (Kr.fix w_9)) h
set_option maxHeartbeats 4000000 in
theorem kwj_X4_win_70 {P : Prop} {m : MM} {y1 y2 : Int} {rz : Int} {rm : MM} (hF : Fix m) (hQ : Kr fW_X4_win 0 0 m rm → P)
  (h : fj_X4_win_70 y1 y2 m = some (rz, rm)) : P := by
  unfold fj_X4_win_70 at h
  obtain ⟨g_69, h⟩ := gd_s h
  obtain ⟨x_71, e_72, h⟩ := lx_s h
  obtain ⟨g_73, h⟩ := gd_s h
  obtain ⟨x_75, m_76, hc_74, h⟩ := bd_s h
  have w_83 := (kw_X1_goOnAt hF g_73 hc_74)
  have E_81 := Kr.ext w_83
  have w_84 := Kr.tr0 (Kr.rf (W := fW_X4_win) (e := 0) hF) w_83 (by decide +kernel)
  obtain ⟨x_90, m_91, hc_89, h⟩ := bd_s h
  have w_98 := (kw_X8_doom (Kr.fix w_84) hc_89)
  have E_96 := Kr.ext w_98
  have w_99 := Kr.tr0 w_84 w_98 (by decide +kernel)
  cases h
  exact hQ w_99
set_option maxHeartbeats 4000000 in
theorem kw_X4_win {m0 : MM} {p1 : Int} {rz : Int} {rm : MM} (hF : Fix m0)
  (h : fm_X4_win p1 m0 = some (rz, rm)) : Kr fW_X4_win 0 0 m0 rm := by
  have hQ : Kr fW_X4_win 0 0 m0 rm → Kr fW_X4_win 0 0 m0 rm := id
  unfold fm_X4_win at h
  obtain ⟨g_6, h⟩ := gd_s h
  obtain ⟨x_8, e_9, h⟩ := lx_s h
  obtain ⟨x_11, hc_10, h⟩ := bp_s h
  rcases it_s h with ⟨hp_24, h⟩ | ⟨hp_24, h⟩
  · cases h
    exact hQ (Kr.rf (W := fW_X4_win) (e := 0) hF)
  · obtain ⟨m_27, e_28, h⟩ := up_s h
    have E_31 := ext_up e_28 (And.left g_6) (by decide)
    have w_32 := Kr.upK (y := 3) (Kr.rf (W := fW_X4_win) (e := 0) hF) e_28 (ext_up e_28 (And.left g_6) (by decide)) (And.left g_6) (fx_f (j := 3) hF g_6 (by decide +kernel)) g_6 (Or.inr rfl) (by decide +kernel) g_6 (by decide) (by first | exact Or.inl (by decide) | exact Or.inr (by decide))
    obtain ⟨g_36, h⟩ := gd_s h
    obtain ⟨m_37, e_38, h⟩ := up_s h
    have E_41 := ext_up e_38 (And.left g_36) (by decide)
    have w_42 := Kr.upK (y := 3) w_32 e_38 (ext_up e_38 (And.left g_36) (by decide)) (And.left g_36) (fx_f (j := 3) (Kr.fix w_32) g_36 (by decide +kernel)) g_36 (Or.inr rfl) (by decide +kernel) g_36 (by decide) (by first | exact Or.inl (by decide) | exact Or.inr (by decide))
    have g_46 := Ext.ok E_41 g_36
    obtain ⟨x_48, e_49, h⟩ := lx_s h
    have g_52 := Ext.ok (Ext.tr E_31 E_41) g_6
    obtain ⟨x_54, e_55, h⟩ := lx_s h
    rcases it_s h with ⟨hp_56, h⟩ | ⟨hp_56, h⟩
    · obtain ⟨x_58, hc_57, h⟩ := bp_s h
      rcases it_s h with ⟨hp_66, h⟩ | ⟨hp_66, h⟩
      · exact kwj_X4_win_70 (Kr.fix w_42) (fun f => hQ (Kr.trS w_42 f)) h
      · obtain ⟨x_106, e_107, h⟩ := lx_s h
        obtain ⟨x_111, m_112, hc_110, h⟩ := bd_s h
        have w_119 := (kw_X4_command (Kr.fix w_42) hc_110)
        have E_117 := Kr.ext w_119
        have w_120 := Kr.tr0 w_42 w_119 (by decide +kernel)
        rcases it_s h with ⟨hp_122, h⟩ | ⟨hp_122, h⟩
        · cases h
          exact hQ w_120
        · exact kwj_X4_win_70 (Kr.fix w_120) (fun f => hQ (Kr.trS w_120 f)) h
    · obtain ⟨x_127, m_128, hc_126, h⟩ := bd_s h
      have w_135 := (kw_X8_doom (Kr.fix w_42) hc_126)
      have E_133 := Kr.ext w_135
      have w_136 := Kr.tr0 w_42 w_135 (by decide +kernel)
      cases h
      exact hQ w_136
set_option maxHeartbeats 4000000 in
theorem kwl_X4_dropDoomed_2 {P : Prop} {mb : MM} {k65 : MM → Option (Int × MM)} {rz : Int} {rm : MM} (hF0 : Fix mb)
  (hk65 : ∀ mq : MM, Kr fW_X4_dropDoomed 0 0 mb mq → k65 mq = some (rz, rm) → P) (hQ : Kr fW_X4_dropDoomed 0 0 mb rm → P) :
  ∀ (n : Nat) {m : MM} {y1 : Int} , Kr fW_X4_dropDoomed 0 0 mb m → fl_X4_dropDoomed_2 k65 n y1 m = some (rz, rm) → P := by
  intro n
  induction n with
  | zero => intro m y1 w h; cases h
  | succ n ih0 =>
    intro m y1 w h
    have ih : ∀ mq : MM, Kr fW_X4_dropDoomed 0 0 mb mq → ∀ {z1 : Int}, fl_X4_dropDoomed_2 k65 n z1 mq = some (rz, rm) → P := fun mq b => by intros; exact ih0 b ‹_›
    unfold fl_X4_dropDoomed_2 at h
    obtain ⟨x_13, e_14, h⟩ := lx_s h
    rcases it_s h with ⟨hp_15, h⟩ | ⟨hp_15, h⟩
    · obtain ⟨x_17, hc_16, h⟩ := bp_s h
      rcases it_s h with ⟨hp_25, h⟩ | ⟨hp_25, h⟩
      · exact hk65 m w h
      · obtain ⟨x_30, hc_29, h⟩ := bp_s h
        rcases it_s h with ⟨hp_43, h⟩ | ⟨hp_43, h⟩
        · obtain ⟨x_49, e_50, h⟩ := lx_s h
          exact ih m w h
        · obtain ⟨g_55, h⟩ := gd_s h
          obtain ⟨x_57, e_58, h⟩ := lx_s h
          rcases it_s h with ⟨hp_59, h⟩ | ⟨hp_59, h⟩
          · obtain ⟨x_65, e_66, h⟩ := lx_s h
            exact ih m w h
          · obtain ⟨x_70, hc_69, h⟩ := bp_s h
            rcases it_s h with ⟨hp_78, h⟩ | ⟨hp_78, h⟩
            · obtain ⟨x_84, e_85, h⟩ := lx_s h
              exact ih m w h
            · obtain ⟨x_93, e_94, h⟩ := lx_s h
              obtain ⟨x_98, m_99, hc_97, h⟩ := bd_s h
              have w_106 := (kw_X4_command (Kr.fix w) hc_97)
              have E_104 := Kr.ext w_106
              have w_107 := Kr.tr0 w w_106 (by decide +kernel)
              obtain ⟨x_114, e_115, h⟩ := lx_s h
              exact ih m_99 w_107 h
    · exact hk65 m w h
set_option maxHeartbeats 4000000 in
theorem kwl_X4_dropDoomed_75 {P : Prop} {mb : MM} {rz : Int} {rm : MM} (hF0 : Fix mb) (hQ : Kr fW_X4_dropDoomed 0 0 mb rm → P) :
  ∀ (n : Nat) {m : MM} {y1 : Int} , Kr fW_X4_dropDoomed 0 0 mb m → fl_X4_dropDoomed_75 n y1 m = some (rz, rm) → P := by
  intro n
  induction n with
  | zero => intro m y1 w h; cases h
  | succ n ih0 =>
    intro m y1 w h
    have ih : ∀ mq : MM, Kr fW_X4_dropDoomed 0 0 mb mq → ∀ {z1 : Int}, fl_X4_dropDoomed_75 n z1 mq = some (rz, rm) → P := fun mq b => by intros; exact ih0 b ‹_›
    unfold fl_X4_dropDoomed_75 at h
    rcases it_s h with ⟨hp_148, h⟩ | ⟨hp_148, h⟩
    · cases h
      exact hQ w
    · obtain ⟨x_153, hc_152, h⟩ := bp_s h
      rcases it_s h with ⟨hp_166, h⟩ | ⟨hp_166, h⟩
      · obtain ⟨x_172, e_173, h⟩ := lx_s h
        exact ih m w h
      · obtain ⟨g_178, h⟩ := gd_s h
        obtain ⟨x_180, e_181, h⟩ := lx_s h
        rcases it_s h with ⟨hp_182, h⟩ | ⟨hp_182, h⟩
        · obtain ⟨x_188, e_189, h⟩ := lx_s h
          exact ih m w h
        · obtain ⟨x_196, m_197, hc_195, h⟩ := bd_s h
          have w_204 := (kw_X8_remove (Kr.fix w) hc_195)
          have E_202 := Kr.ext w_204
          have w_205 := Kr.tr0 w w_204 (by decide +kernel)
          obtain ⟨x_212, e_213, h⟩ := lx_s h
          exact ih m_197 w_205 h
set_option maxHeartbeats 4000000 in
theorem kw_X4_dropDoomed {m0 : MM} {rz : Int} {rm : MM} (hF : Fix m0)
  (h : fm_X4_dropDoomed m0 = some (rz, rm)) : Kr fW_X4_dropDoomed 0 0 m0 rm := by
  have hQ : Kr fW_X4_dropDoomed 0 0 m0 rm → Kr fW_X4_dropDoomed 0 0 m0 rm := id
  unfold fm_X4_dropDoomed at h
  refine kwl_X4_dropDoomed_2 hF ?_ hQ BIG (Kr.rf hF) h
  intro m_124 w_127
  intro h
  have E_125 := Kr.ext w_127
  have w_128 := w_127
  obtain ⟨x_135, e_136, h⟩ := lx_s h
  obtain ⟨x_141, e_142, h⟩ := lx_s h
  refine kwl_X4_dropDoomed_75 (Kr.fix w_128)  (fun f => hQ (Kr.trS w_128 f)) BIG (Kr.rf (Kr.fix w_128)) h
set_option maxHeartbeats 4000000 in
theorem kw_X8_pushed {m0 : MM} {p1 p2 : Int} {rz : Int} {rm : MM} (hF : Fix m0)
  (h : fm_X8_pushed p1 p2 m0 = some (rz, rm)) : Kr fW_X8_pushed 0 0 m0 rm := by
  have hQ : Kr fW_X8_pushed 0 0 m0 rm → Kr fW_X8_pushed 0 0 m0 rm := id
  unfold fm_X8_pushed at h
  obtain ⟨x_15, m_16, hc_14, h⟩ := bd_s h
  have w_23 := (kw_X5_add hF (fx_kF (c := 6) hF (by decide +kernel)) hc_14)
  have E_21 := Kr.ext w_23
  have w_24 := Kr.tr0 (Kr.rf (W := fW_X8_pushed) (e := 0) hF) w_23 (by decide +kernel)
  obtain ⟨x_32, e_33, h⟩ := lx_s h
  cases h
  exact hQ w_24
set_option maxHeartbeats 4000000 in
theorem kwj_X4_doBranchLine_115 {P : Prop} {m : MM} {y1 : Int} {rz : Int} {rm : MM} (hF : Fix m) (hQ : Kr fW_X4_doBranchLine 0 0 m rm → P)
  (h : fj_X4_doBranchLine_115 y1 m = some (rz, rm)) : P := by
  unfold fj_X4_doBranchLine_115 at h
  obtain ⟨g_128, h⟩ := gd_s h
  obtain ⟨x_130, e_131, h⟩ := lx_s h
  obtain ⟨x_133, hc_132, h⟩ := bp_s h
  obtain ⟨m_141, e_142, h⟩ := up_s h
  have E_145 := ext_up e_142 (And.left g_128) (by decide)
  have w_146 := Kr.upK (y := 10) (Kr.rf (W := fW_X4_doBranchLine) (e := 0) hF) e_142 (ext_up e_142 (And.left g_128) (by decide)) (And.left g_128) (fx_f (j := 10) hF g_128 (by decide +kernel)) g_128 (Or.inr rfl) (by decide +kernel) g_128 (by decide) (by first | exact Or.inl (by decide) | exact Or.inr (by decide))
  cases h
  exact hQ w_146
set_option maxHeartbeats 4000000 in
theorem kw_X4_doBranchLine {m0 : MM} {p1 p2 p3 : Int} {rz : Int} {rm : MM} (hF : Fix m0)
  (h : fm_X4_doBranchLine p1 p2 p3 m0 = some (rz, rm)) : Kr fW_X4_doBranchLine 0 0 m0 rm := by
  have hQ : Kr fW_X4_doBranchLine 0 0 m0 rm → Kr fW_X4_doBranchLine 0 0 m0 rm := id
  unfold fm_X4_doBranchLine at h
  rcases it_s h with ⟨hp_3, h⟩ | ⟨hp_3, h⟩
  · obtain ⟨g_153, h⟩ := gd_s h
    obtain ⟨x_155, m_156, hc_154, h⟩ := bd_s h
    have w_163 := (kw_X1_waitFor hF g_153 hc_154)
    have E_161 := Kr.ext w_163
    have w_164 := Kr.tr0 (Kr.rf (W := fW_X4_doBranchLine) (e := 0) hF) w_163 (by decide +kernel)
    cases h
    exact hQ w_164
  · obtain ⟨g_6, h⟩ := gd_s h
    obtain ⟨x_8, e_9, h⟩ := lx_s h
    obtain ⟨x_15, m_16, hc_14, h⟩ := bd_s h
    have w_23 := (kw_X1_goOnAt hF g_6 hc_14)
    have E_21 := Kr.ext w_23
    have w_24 := Kr.tr0 (Kr.rf (W := fW_X4_doBranchLine) (e := 0) hF) w_23 (by decide +kernel)
    rcases it_s h with ⟨hp_27, h⟩ | ⟨hp_27, h⟩
    · obtain ⟨x_29, m_30, hc_28, h⟩ := bd_s h
      have w_37 := (kw_X4_beginBelow (Kr.fix w_24) hc_28)
      have E_35 := Kr.ext w_37
      have w_38 := Kr.tr0 w_24 w_37 (by decide +kernel)
      cases h
      exact hQ w_38
    rcases it_s h with ⟨hp_41, h⟩ | ⟨hp_41, h⟩
    · obtain ⟨x_43, m_44, hc_42, h⟩ := bd_s h
      have w_51 := (kw_X4_beginBelow (Kr.fix w_24) hc_42)
      have E_49 := Kr.ext w_51
      have w_52 := Kr.tr0 w_24 w_51 (by decide +kernel)
      obtain ⟨x_55, m_56, hc_54, h⟩ := bd_s h
      have w_63 := (kw_X4_race (Kr.fix w_52) hc_54)
      have E_61 := Kr.ext w_63
      have w_64 := Kr.tr0 w_52 w_63 (by decide +kernel)
      cases h
      exact hQ w_64
    rcases it_s h with ⟨hp_67, h⟩ | ⟨hp_67, h⟩
    · obtain ⟨x_69, m_70, hc_68, h⟩ := bd_s h
      have w_77 := (kw_X4_win (Kr.fix w_24) hc_68)
      have E_75 := Kr.ext w_77
      have w_78 := Kr.tr0 w_24 w_77 (by decide +kernel)
      obtain ⟨x_81, m_82, hc_80, h⟩ := bd_s h
      have w_89 := (kw_X4_dropDoomed (Kr.fix w_78) hc_80)
      have E_87 := Kr.ext w_89
      have w_90 := Kr.tr0 w_78 w_89 (by decide +kernel)
      cases h
      exact hQ w_90
    rcases it_s h with ⟨hp_93, h⟩ | ⟨hp_93, h⟩
    · have g_99 := Ext.ok E_21 g_6
      obtain ⟨x_101, e_102, h⟩ := lx_s h
      obtain ⟨x_104, m_105, hc_103, h⟩ := bd_s h
      have w_112 := (kw_X8_pushed (Kr.fix w_24) hc_103)
      have E_110 := Kr.ext w_112
      have w_113 := Kr.tr0 w_24 w_112 (by decide +kernel)
      have g_115 := Ext.ok E_110 g_99
      obtain ⟨m_116, e_117, h⟩ := up_s h
      have E_120 := ext_up e_117 (And.left g_115) (by decide)
      have w_121 := Kr.upK (y := 10) w_113 e_117 (ext_up e_117 (And.left g_115) (by decide)) (And.left g_115) (fx_f (j := 10) (Kr.fix w_113) g_115 (by decide +kernel)) g_115 (Or.inr rfl) (by decide +kernel) g_115 (by decide) (by first | exact Or.inl (by decide) | exact Or.inr (by decide))
      cases h
      exact hQ w_121
    exact kwj_X4_doBranchLine_115 (Kr.fix w_24) (fun f => hQ (Kr.trS w_24 f)) h
set_option maxHeartbeats 4000000 in
theorem kw_X4_undo {m0 : MM} {p1 : Int} {rz : Int} {rm : MM} (hF : Fix m0)
  (h : fm_X4_undo p1 m0 = some (rz, rm)) : Kr fW_X4_undo 0 0 m0 rm := by
  have hQ : Kr fW_X4_undo 0 0 m0 rm → Kr fW_X4_undo 0 0 m0 rm := id
  unfold fm_X4_undo at h
  obtain ⟨x_7, e_8, h⟩ := lx_s h
  rcases it_s h with ⟨hp_9, h⟩ | ⟨hp_9, h⟩
  · obtain ⟨g_100, h⟩ := gd_s h
    obtain ⟨x_102, e_103, h⟩ := lx_s h
    obtain ⟨x_109, m_110, hc_108, h⟩ := bd_s h
    have w_117 := (kw_X1_goOnAt hF g_100 hc_108)
    have E_115 := Kr.ext w_117
    have w_118 := Kr.tr0 (Kr.rf (W := fW_X4_undo) (e := 0) hF) w_117 (by decide +kernel)
    cases h
    exact hQ w_118
  · obtain ⟨x_20, hc_19, h⟩ := bp_s h
    obtain ⟨x_46, hc_45, h⟩ := bp_s h
    obtain ⟨m_54, e_55, h⟩ := up_s h
    have E_58 := ext_up e_55 (And.left (fx_kF (c := 9) hF (by decide +kernel))) (by decide)
    have w_59 := Kr.upC (y := 4) (Kr.rf (W := fW_X4_undo) (e := 0) hF) e_55 (ext_up e_55 (And.left (fx_kF (c := 9) hF (by decide +kernel))) (by decide)) (And.left (fx_kF (c := 9) hF (by decide +kernel))) (fx_f (j := 4) hF (fx_kF (c := 9) hF (by decide +kernel)) (by decide +kernel)) (Or.inr rfl) (by decide +kernel) (fx_kF (c := 9) hF (by decide +kernel)) (by decide) (by first | exact Or.inl (by decide) | exact Or.inr (by decide))
    obtain ⟨x_74, m_75, hc_73, h⟩ := bd_s h
    have w_82 := (kw_X4_command (Kr.fix w_59) hc_73)
    have E_80 := Kr.ext w_82
    have w_83 := Kr.tr0 w_59 w_82 (by decide +kernel)
    obtain ⟨g_85, h⟩ := gd_s h
    obtain ⟨x_87, m_88, hc_86, h⟩ := bd_s h
    have w_95 := (kw_X1_waitFor (Kr.fix w_83) g_85 hc_86)
    have E_93 := Kr.ext w_95
    have w_96 := Kr.tr0 w_83 w_95 (by decide +kernel)
    cases h
    exact hQ w_96
set_option maxHeartbeats 4000000 in
theorem kw_X4_doEndingLine {m0 : MM} {p1 p2 p3 p4 : Int} {rz : Int} {rm : MM} (hF : Fix m0)
  (h : fm_X4_doEndingLine p1 p2 p3 p4 m0 = some (rz, rm)) : Kr fW_X4_doEndingLine 0 0 m0 rm := by
  have hQ : Kr fW_X4_doEndingLine 0 0 m0 rm → Kr fW_X4_doEndingLine 0 0 m0 rm := id
  unfold fm_X4_doEndingLine at h
  rcases it_s h with ⟨hp_2, h⟩ | ⟨hp_2, h⟩
  · obtain ⟨x_15, e_16, h⟩ := lx_s h
    obtain ⟨x_25, hc_24, h⟩ := bp_s h
    obtain ⟨x_36, m_37, hc_35, h⟩ := bd_s h
    have w_44 := (kw_X8_pushed hF hc_35)
    have E_42 := Kr.ext w_44
    have w_45 := Kr.tr0 (Kr.rf (W := fW_X4_doEndingLine) (e := 0) hF) w_44 (by decide +kernel)
    obtain ⟨m_47, e_48, h⟩ := up_s h
    have E_51 := ext_up e_48 (And.left (fx_kF (c := 9) (Kr.fix w_45) (by decide +kernel))) (by decide)
    have w_52 := Kr.upC (y := 4) w_45 e_48 (ext_up e_48 (And.left (fx_kF (c := 9) (Kr.fix w_45) (by decide +kernel))) (by decide)) (And.left (fx_kF (c := 9) (Kr.fix w_45) (by decide +kernel))) (fx_f (j := 4) (Kr.fix w_45) (fx_kF (c := 9) (Kr.fix w_45) (by decide +kernel)) (by decide +kernel)) (Or.inr rfl) (by decide +kernel) (fx_kF (c := 9) (Kr.fix w_45) (by decide +kernel)) (by decide) (by first | exact Or.inl (by decide) | exact Or.inr (by decide))
    obtain ⟨g_56, h⟩ := gd_s h
    obtain ⟨x_58, e_59, h⟩ := lx_s h
    obtain ⟨x_65, m_66, hc_64, h⟩ := bd_s h
    have w_73 := (kw_X1_goOnAt (Kr.fix w_52) g_56 hc_64)
    have E_71 := Kr.ext w_73
    have w_74 := Kr.tr0 w_52 w_73 (by decide +kernel)
    cases h
    exact hQ w_74
  rcases it_s h with ⟨hp_77, h⟩ | ⟨hp_77, h⟩
  · obtain ⟨x_79, m_80, hc_78, h⟩ := bd_s h
    have w_87 := (kw_X4_undo hF hc_78)
    have E_85 := Kr.ext w_87
    have w_88 := Kr.tr0 (Kr.rf (W := fW_X4_doEndingLine) (e := 0) hF) w_87 (by decide +kernel)
    cases h
    exact hQ w_88
  rcases it_s h with ⟨hp_91, h⟩ | ⟨hp_91, h⟩
  · obtain ⟨x_93, m_94, hc_92, h⟩ := bd_s h
    have w_101 := (kw_X4_endBranch hF hc_92)
    have E_99 := Kr.ext w_101
    have w_102 := Kr.tr0 (Kr.rf (W := fW_X4_doEndingLine) (e := 0) hF) w_101 (by decide +kernel)
    cases h
    exact hQ w_102
  rcases it_s h with ⟨hp_105, h⟩ | ⟨hp_105, h⟩
  · obtain ⟨x_107, m_108, hc_106, h⟩ := bd_s h
    have w_115 := (kw_X4_failBranch hF hc_106)
    have E_113 := Kr.ext w_115
    have w_116 := Kr.tr0 (Kr.rf (W := fW_X4_doEndingLine) (e := 0) hF) w_115 (by decide +kernel)
    cases h
    exact hQ w_116
  obtain ⟨x_124, hc_123, h⟩ := bp_s h
  obtain ⟨x_135, m_136, hc_134, h⟩ := bd_s h
  have w_143 := (kw_X4_command hF hc_134)
  have E_141 := Kr.ext w_143
  have w_144 := Kr.tr0 (Kr.rf (W := fW_X4_doEndingLine) (e := 0) hF) w_143 (by decide +kernel)
  rcases it_s h with ⟨hp_146, h⟩ | ⟨hp_146, h⟩
  · cases h
    exact hQ w_144
  · obtain ⟨m_152, e_153, h⟩ := up_s h
    have E_156 := ext_up e_153 (And.left (fx_kF (c := 9) (Kr.fix w_144) (by decide +kernel))) (by decide)
    have w_157 := Kr.upC (y := 9) w_144 e_153 (ext_up e_153 (And.left (fx_kF (c := 9) (Kr.fix w_144) (by decide +kernel))) (by decide)) (And.left (fx_kF (c := 9) (Kr.fix w_144) (by decide +kernel))) (fx_f (j := 9) (Kr.fix w_144) (fx_kF (c := 9) (Kr.fix w_144) (by decide +kernel)) (by decide +kernel)) (Or.inr rfl) (by decide +kernel) (fx_kF (c := 9) (Kr.fix w_144) (by decide +kernel)) (by decide) (by first | exact Or.inl (by decide) | exact Or.inr (by decide))
    cases h
    exact hQ w_157
set_option maxHeartbeats 4000000 in
theorem kwj_X4_patch_125 {P : Prop} {m : MM} {y3 y4 : Int} {rz : Int} {rm : MM} (hF : Fix m) (hQ : Kr fW_X4_patch 0 0 m rm → P)
  (h : fj_X4_patch_125 y3 y4 m = some (rz, rm)) : P := by
  unfold fj_X4_patch_125 at h
  rcases it_s h with ⟨hp_118, h⟩ | ⟨hp_118, h⟩
  · rcases it_s h with ⟨hp_121, h⟩ | ⟨hp_121, h⟩
    · cases h
      exact hQ (Kr.rf (W := fW_X4_patch) (e := 0) hF)
    · cases h
      exact hQ (Kr.rf (W := fW_X4_patch) (e := 0) hF)
  · cases h
    exact hQ (Kr.rf (W := fW_X4_patch) (e := 0) hF)
set_option maxHeartbeats 4000000 in
theorem kwj_X4_patch_101 {P : Prop} {m : MM} {y1 y3 y4 : Int} {rz : Int} {rm : MM} (hF : Fix m) (hQ : Kr fW_X4_patch 0 0 m rm → P)
  (h : fj_X4_patch_101 y1 y3 y4 m = some (rz, rm)) : P := by
  unfold fj_X4_patch_101 at h
  obtain ⟨x_87, e_88, h⟩ := lx_s h
  obtain ⟨m_95, e_96, h⟩ := up_s h
  have E_99 := ext_up e_96 (And.left (fx_kF (c := 9) hF (by decide +kernel))) (by decide)
  have w_100 := Kr.upC (y := 7) (Kr.rf (W := fW_X4_patch) (e := 0) hF) e_96 (ext_up e_96 (And.left (fx_kF (c := 9) hF (by decide +kernel))) (by decide)) (And.left (fx_kF (c := 9) hF (by decide +kernel))) (fx_f (j := 7) hF (fx_kF (c := 9) hF (by decide +kernel)) (by decide +kernel)) (Or.inr rfl) (by decide +kernel) (fx_kF (c := 9) hF (by decide +kernel)) (by decide) (by first | exact Or.inl (by decide) | exact Or.inr (by decide))
  obtain ⟨x_107, m_108, hc_106, h⟩ := bd_s h
  have w_115 := (kw_X4_command (Kr.fix w_100) hc_106)
  have E_113 := Kr.ext w_115
  have w_116 := Kr.tr0 w_100 w_115 (by decide +kernel)
  exact kwj_X4_patch_125 (Kr.fix w_116) (fun f => hQ (Kr.trS w_116 f)) h
set_option maxHeartbeats 4000000 in
theorem kwj_X4_patch_90 {P : Prop} {m : MM} {y1 y3 s0 : Int} {rz : Int} {rm : MM} (hF : Fix m) (hQ : Kr fW_X4_patch 0 0 m rm → P)
  (h : fj_X4_patch_90 y1 y3 s0 m = some (rz, rm)) : P := by
  unfold fj_X4_patch_90 at h
  rcases it_s h with ⟨hp_80, h⟩ | ⟨hp_80, h⟩
  · rcases it_s h with ⟨hp_126, h⟩ | ⟨hp_126, h⟩
    · exact kwj_X4_patch_125 hF hQ h
    · exact kwj_X4_patch_101 hF hQ h
  · exact kwj_X4_patch_101 hF hQ h
set_option maxHeartbeats 4000000 in
theorem kwj_X4_patch_59 {P : Prop} {m : MM} {y1 y2 s0 : Int} {rz : Int} {rm : MM} (hF : Fix m) (hQ : Kr fW_X4_patch 0 0 m rm → P)
  (h : fj_X4_patch_59 y1 y2 s0 m = some (rz, rm)) : P := by
  unfold fj_X4_patch_59 at h
  obtain ⟨x_63, hc_62, h⟩ := bp_s h
  rcases it_s h with ⟨hp_71, h⟩ | ⟨hp_71, h⟩
  · exact kwj_X4_patch_90 hF hQ h
  · obtain ⟨x_133, e_134, h⟩ := lx_s h
    obtain ⟨x_138, e_139, h⟩ := lx_s h
    obtain ⟨g_142, h⟩ := gd_s h
    obtain ⟨x_144, e_145, h⟩ := lx_s h
    rcases it_s h with ⟨hp_146, h⟩ | ⟨hp_146, h⟩
    · exact kwj_X4_patch_90 hF hQ h
    · exact kwj_X4_patch_90 hF hQ h
set_option maxHeartbeats 4000000 in
theorem kw_X4_patch {m0 : MM} {p1 : Int} {rz : Int} {rm : MM} (hF : Fix m0)
  (h : fm_X4_patch p1 m0 = some (rz, rm)) : Kr fW_X4_patch 0 0 m0 rm := by
  have hQ : Kr fW_X4_patch 0 0 m0 rm → Kr fW_X4_patch 0 0 m0 rm := id
  unfold fm_X4_patch at h
  obtain ⟨x_7, e_8, h⟩ := lx_s h
  rcases it_s h with ⟨hp_15, h⟩ | ⟨hp_15, h⟩
  · obtain ⟨x_19, e_20, h⟩ := lx_s h
    obtain ⟨x_27, e_28, h⟩ := lx_s h
    obtain ⟨g_29, h⟩ := gd_s h
    obtain ⟨x_31, hc_30, h⟩ := bp_s h
    obtain ⟨x_45, hc_44, h⟩ := bp_s h
    rcases it_s h with ⟨hp_53, h⟩ | ⟨hp_53, h⟩
    · obtain ⟨x_159, hc_158, h⟩ := bp_s h
      rcases it_s h with ⟨hp_167, h⟩ | ⟨hp_167, h⟩
      · exact kwj_X4_patch_59 hF hQ h
      · exact kwj_X4_patch_59 hF hQ h
    · exact kwj_X4_patch_59 hF hQ h
  · cases h
    exact hQ (Kr.rf (W := fW_X4_patch) (e := 0) hF)
set_option maxHeartbeats 4000000 in
theorem kwj_X4_doOtherLine_128 {P : Prop} {m : MM} {y1 y5 y6 : Int} {rz : Int} {rm : MM} (hF : Fix m) (hQ : Kr fW_X4_doOtherLine 0 0 m rm → P)
  (h : fj_X4_doOtherLine_128 y1 y5 y6 m = some (rz, rm)) : P := by
  unfold fj_X4_doOtherLine_128 at h
  obtain ⟨g_54, h⟩ := gd_s h
  obtain ⟨x_56, m_57, hc_55, h⟩ := bd_s h
  have w_64 := (kw_X1_goOnAt hF g_54 hc_55)
  have E_62 := Kr.ext w_64
  have w_65 := Kr.tr0 (Kr.rf (W := fW_X4_doOtherLine) (e := 0) hF) w_64 (by decide +kernel)
  rcases it_s h with ⟨hp_67, h⟩ | ⟨hp_67, h⟩
  · cases h
    exact hQ w_65
  · obtain ⟨x_69, m_70, hc_68, h⟩ := bd_s h
    have w_77 := (kw_X4_failBranch (Kr.fix w_65) hc_68)
    have E_75 := Kr.ext w_77
    have w_78 := Kr.tr0 w_65 w_77 (by decide +kernel)
    cases h
    exact hQ w_78
set_option maxHeartbeats 4000000 in
theorem kwj_X4_doOtherLine_122 {P : Prop} {m : MM} {y1 y5 : Int} {rz : Int} {rm : MM} (hF : Fix m) (hQ : Kr fW_X4_doOtherLine 0 0 m rm → P)
  (h : fj_X4_doOtherLine_122 y1 y5 m = some (rz, rm)) : P := by
  unfold fj_X4_doOtherLine_122 at h
  obtain ⟨g_171, h⟩ := gd_s h
  obtain ⟨x_173, m_174, hc_172, h⟩ := bd_s h
  have w_181 := (kw_X1_isBare hF g_171 hc_172)
  have E_179 := Kr.ext w_181
  have w_182 := Kr.tr0 (Kr.rf (W := fW_X4_doOtherLine) (e := 0) hF) w_181 (by decide +kernel)
  exact kwj_X4_doOtherLine_128 (Kr.fix w_182) (fun f => hQ (Kr.trS w_182 f)) h
set_option maxHeartbeats 4000000 in
theorem kw_X4_doOtherLine {m0 : MM} {p1 p2 p3 p4 : Int} {rz : Int} {rm : MM} (hF : Fix m0)
  (h : fm_X4_doOtherLine p1 p2 p3 p4 m0 = some (rz, rm)) : Kr fW_X4_doOtherLine 0 0 m0 rm := by
  have hQ : Kr fW_X4_doOtherLine 0 0 m0 rm → Kr fW_X4_doOtherLine 0 0 m0 rm := id
  unfold fm_X4_doOtherLine at h
  obtain ⟨g_3, h⟩ := gd_s h
  obtain ⟨x_5, e_6, h⟩ := lx_s h
  obtain ⟨x_11, e_12, h⟩ := lx_s h
  rcases it_s h with ⟨hp_34, h⟩ | ⟨hp_34, h⟩
  · obtain ⟨x_36, m_37, hc_35, h⟩ := bd_s h
    have w_44 := (kw_X4_patch hF hc_35)
    have E_42 := Kr.ext w_44
    have w_45 := Kr.tr0 (Kr.rf (W := fW_X4_doOtherLine) (e := 0) hF) w_44 (by decide +kernel)
    rcases it_s h with ⟨hp_47, h⟩ | ⟨hp_47, h⟩
    · exact kwj_X4_doOtherLine_128 (Kr.fix w_45) (fun f => hQ (Kr.trS w_45 f)) h
    · exact kwj_X4_doOtherLine_128 (Kr.fix w_45) (fun f => hQ (Kr.trS w_45 f)) h
  rcases it_s h with ⟨hp_87, h⟩ | ⟨hp_87, h⟩
  · obtain ⟨x_94, e_95, h⟩ := lx_s h
    obtain ⟨x_99, e_100, h⟩ := lx_s h
    obtain ⟨g_101, h⟩ := gd_s h
    obtain ⟨x_103, hc_102, h⟩ := bp_s h
    obtain ⟨x_112, m_113, hc_111, h⟩ := bd_s h
    have w_120 := (kw_X8_set hF hc_111)
    have E_118 := Kr.ext w_120
    have w_121 := Kr.tr0 (Kr.rf (W := fW_X4_doOtherLine) (e := 0) hF) w_120 (by decide +kernel)
    exact kwj_X4_doOtherLine_128 (Kr.fix w_121) (fun f => hQ (Kr.trS w_121 f)) h
  rcases it_s h with ⟨hp_124, h⟩ | ⟨hp_124, h⟩
  · obtain ⟨x_128, e_129, h⟩ := lx_s h
    obtain ⟨m_134, e_135, h⟩ := up_s h
    have E_138 := ext_up e_135 (And.left g_3) (by decide)
    have w_139 := Kr.upK (y := 5) (Kr.rf (W := fW_X4_doOtherLine) (e := 0) hF) e_135 (ext_up e_135 (And.left g_3) (by decide)) (And.left g_3) (fx_f (j := 5) hF g_3 (by decide +kernel)) g_3 (Or.inr rfl) (by decide +kernel) g_3 (by decide) (by first | exact Or.inl (by decide) | exact Or.inr (by decide))
    exact kwj_X4_doOtherLine_128 (Kr.fix w_139) (fun f => hQ (Kr.trS w_139 f)) h
  rcases it_s h with ⟨hp_142, h⟩ | ⟨hp_142, h⟩
  · obtain ⟨x_149, hc_148, h⟩ := bp_s h
    obtain ⟨x_160, m_161, hc_159, h⟩ := bd_s h
    have w_168 := (kw_X4_command hF hc_159)
    have E_166 := Kr.ext w_168
    have w_169 := Kr.tr0 (Kr.rf (W := fW_X4_doOtherLine) (e := 0) hF) w_168 (by decide +kernel)
    exact kwj_X4_doOtherLine_128 (Kr.fix w_169) (fun f => hQ (Kr.trS w_169 f)) h
  exact kwj_X4_doOtherLine_122 hF hQ h
set_option maxHeartbeats 4000000 in
theorem kwj_X4_goOn_219 {P : Prop} {m : MM} {y2 : Int} {rz : Int} {rm : MM} {c : Int → Int → MM → Option (Int × MM)} (hF : Fix m)
  (hc : ∀ mq : MM, Kr fW_X4_goOn 0 0 m mq → ∀ {z1 z2 : Int}, c z1 z2 mq = some (rz, rm) → P) (hQ : Kr fW_X4_goOn 0 0 m rm → P)
  (h : fj_X4_goOn_219 c y2 m = some (rz, rm)) : P := by
  unfold fj_X4_goOn_219 at h
  obtain ⟨x_162, hc_161, h⟩ := bp_s h
  obtain ⟨x_180, e_181, h⟩ := lx_s h
  exact hc m (Kr.rf (W := fW_X4_goOn) (e := 0) hF) h
set_option maxHeartbeats 4000000 in
theorem kwl_X4_goOn_10 {P : Prop} {mb : MM} {rz : Int} {rm : MM} (hF0 : Fix mb) (hQ : Kr fW_X4_goOn 0 0 mb rm → P) :
  ∀ (n : Nat) {m : MM} {y1 y2 : Int} , Kr fW_X4_goOn 0 0 mb m → fl_X4_goOn_10 n y1 y2 m = some (rz, rm) → P := by
  intro n
  induction n with
  | zero => intro m y1 y2 w h; cases h
  | succ n ih0 =>
    intro m y1 y2 w h
    have ih : ∀ mq : MM, Kr fW_X4_goOn 0 0 mb mq → ∀ {z1 z2 : Int}, fl_X4_goOn_10 n z1 z2 mq = some (rz, rm) → P := fun mq b => by intros; exact ih0 b ‹_›
    unfold fl_X4_goOn_10 at h
    rcases it_s h with ⟨hp_26, h⟩ | ⟨hp_26, h⟩
    · rcases it_s h with ⟨hp_27, h⟩ | ⟨hp_27, h⟩
      · cases h
        exact hQ w
      · obtain ⟨x_29, hc_28, h⟩ := bp_s h
        rcases it_s h with ⟨hp_37, h⟩ | ⟨hp_37, h⟩
        · cases h
          exact hQ w
        · obtain ⟨g_40, h⟩ := gd_s h
          obtain ⟨x_42, e_43, h⟩ := lx_s h
          rcases it_s h with ⟨hp_44, h⟩ | ⟨hp_44, h⟩
          · obtain ⟨x_48, e_49, h⟩ := lx_s h
            obtain ⟨x_53, e_54, h⟩ := lx_s h
            obtain ⟨g_57, h⟩ := gd_s h
            obtain ⟨x_59, e_60, h⟩ := lx_s h
            rcases it_s h with ⟨hp_61, h⟩ | ⟨hp_61, h⟩
            · obtain ⟨x_65, e_66, h⟩ := lx_s h
              rcases it_s h with ⟨hp_69, h⟩ | ⟨hp_69, h⟩
              · obtain ⟨m_77, e_78, h⟩ := up_s h
                have E_81 := ext_up e_78 (And.left (fx_kF (c := 5) (Kr.fix w) (by decide +kernel))) (by decide)
                have w_82 := Kr.upC (y := 9) w e_78 (ext_up e_78 (And.left (fx_kF (c := 5) (Kr.fix w) (by decide +kernel))) (by decide)) (And.left (fx_kF (c := 5) (Kr.fix w) (by decide +kernel))) (fx_f (j := 9) (Kr.fix w) (fx_kF (c := 5) (Kr.fix w) (by decide +kernel)) (by decide +kernel)) (Or.inr rfl) (by decide +kernel) (fx_kF (c := 5) (Kr.fix w) (by decide +kernel)) (by decide) (by first | exact Or.inl (by decide) | exact Or.inr (by decide))
                obtain ⟨x_87, e_88, h⟩ := lx_s h
                have g_91 := Ext.ok E_81 g_40
                obtain ⟨x_93, e_94, h⟩ := lx_s h
                obtain ⟨g_95, h⟩ := gd_s h
                obtain ⟨x_97, hc_96, h⟩ := bp_s h
                obtain ⟨x_115, e_116, h⟩ := lx_s h
                rcases it_s h with ⟨hp_127, h⟩ | ⟨hp_127, h⟩
                · rcases it_s h with ⟨hp_130, h⟩ | ⟨hp_130, h⟩
                  · rcases it_s h with ⟨hp_133, h⟩ | ⟨hp_133, h⟩
                    · obtain ⟨x_147, m_148, hc_146, h⟩ := bd_s h
                      have w_155 := (kw_X4_doOtherLine (Kr.fix w_82) hc_146)
                      have E_153 := Kr.ext w_155
                      have w_156 := Kr.tr0 w_82 w_155 (by decide +kernel)
                      exact kwj_X4_goOn_219 (Kr.fix w_156) (fun mq f => ih mq (Kr.trS w_156 f)) (fun f => hQ (Kr.trS w_156 f)) h
                    · obtain ⟨x_198, m_199, hc_197, h⟩ := bd_s h
                      have w_206 := (kw_X4_doEndingLine (Kr.fix w_82) hc_197)
                      have E_204 := Kr.ext w_206
                      have w_207 := Kr.tr0 w_82 w_206 (by decide +kernel)
                      exact kwj_X4_goOn_219 (Kr.fix w_207) (fun mq f => ih mq (Kr.trS w_207 f)) (fun f => hQ (Kr.trS w_207 f)) h
                  · obtain ⟨x_218, m_219, hc_217, h⟩ := bd_s h
                    have w_226 := (kw_X4_doBranchLine (Kr.fix w_82) hc_217)
                    have E_224 := Kr.ext w_226
                    have w_227 := Kr.tr0 w_82 w_226 (by decide +kernel)
                    exact kwj_X4_goOn_219 (Kr.fix w_227) (fun mq f => ih mq (Kr.trS w_227 f)) (fun f => hQ (Kr.trS w_227 f)) h
                · obtain ⟨x_242, m_243, hc_241, h⟩ := bd_s h
                  have w_250 := (kw_X4_doPlainLine (Kr.fix w_82) hc_241)
                  have E_248 := Kr.ext w_250
                  have w_251 := Kr.tr0 w_82 w_250 (by decide +kernel)
                  exact kwj_X4_goOn_219 (Kr.fix w_251) (fun mq f => ih mq (Kr.trS w_251 f)) (fun f => hQ (Kr.trS w_251 f)) h
              · obtain ⟨x_256, m_257, hc_255, h⟩ := bd_s h
                have w_264 := (kw_X4_getStuck (Kr.fix w) hc_255)
                have E_262 := Kr.ext w_264
                have w_265 := Kr.tr0 w w_264 (by decide +kernel)
                exact kwj_X4_goOn_219 (Kr.fix w_265) (fun mq f => ih mq (Kr.trS w_265 f)) (fun f => hQ (Kr.trS w_265 f)) h
            · obtain ⟨x_268, m_269, hc_267, h⟩ := bd_s h
              have w_276 := (kw_X4_endBranch (Kr.fix w) hc_267)
              have E_274 := Kr.ext w_276
              have w_277 := Kr.tr0 w w_276 (by decide +kernel)
              exact kwj_X4_goOn_219 (Kr.fix w_277) (fun mq f => ih mq (Kr.trS w_277 f)) (fun f => hQ (Kr.trS w_277 f)) h
          · obtain ⟨x_280, m_281, hc_279, h⟩ := bd_s h
            have w_288 := (kw_X4_awake (Kr.fix w) hc_279)
            have E_286 := Kr.ext w_288
            have w_289 := Kr.tr0 w w_288 (by decide +kernel)
            exact kwj_X4_goOn_219 (Kr.fix w_289) (fun mq f => ih mq (Kr.trS w_289 f)) (fun f => hQ (Kr.trS w_289 f)) h
    · cases h
      exact hQ w
set_option maxHeartbeats 4000000 in
theorem kw_X4_goOn {m0 : MM} {rz : Int} {rm : MM} (hF : Fix m0)
  (h : fm_X4_goOn m0 = some (rz, rm)) : Kr fW_X4_goOn 0 0 m0 rm := by
  have hQ : Kr fW_X4_goOn 0 0 m0 rm → Kr fW_X4_goOn 0 0 m0 rm := id
  unfold fm_X4_goOn at h
  obtain ⟨x_5, hc_4, h⟩ := bp_s h
  refine kwl_X4_goOn_10 hF  hQ BIG (Kr.rf hF) h
end KW02
