/-! THE ROOM: how many objects there are: what each method makes (written by wip/whole/gen/gen951.py), 03. -/
section KW03
set_option maxHeartbeats 4000000 in
theorem kwj_X4_passTasks_88 {P : Prop} {m : MM} {y1 s0 : Int} {rz : Int} {rm : MM} {c : Int → MM → Option (Int × MM)} (hF : Fix m)
  (hc : ∀ mq : MM, Kr fW_X4_passTasks 0 0 m mq → ∀ {z1 : Int}, c z1 mq = some (rz, rm) → P) (hQ : Kr fW_X4_passTasks 0 0 m rm → P)
  (h : fj_X4_passTasks_88 c y1 s0 m = some (rz, rm)) : P := by
  unfold fj_X4_passTasks_88 at h
  rcases it_s h with ⟨hp_89, h⟩ | ⟨hp_89, h⟩
  · obtain ⟨x_100, m_101, hc_99, h⟩ := bd_s h
    have w_108 := (kw_X4_getStuck hF hc_99)
    have E_106 := Kr.ext w_108
    have w_109 := Kr.tr0 (Kr.rf (W := fW_X4_passTasks) (e := 0) hF) w_108 (by decide +kernel)
    obtain ⟨x_116, e_117, h⟩ := lx_s h
    exact hc m_101 w_109 h
  · obtain ⟨x_95, e_96, h⟩ := lx_s h
    exact hc m (Kr.rf (W := fW_X4_passTasks) (e := 0) hF) h
set_option maxHeartbeats 4000000 in
theorem kwj_X4_passTasks_57 {P : Prop} {m : MM} {y1 : Int} {rz : Int} {rm : MM} {c : Int → MM → Option (Int × MM)} (hF : Fix m)
  (hc : ∀ mq : MM, Kr fW_X4_passTasks 0 0 m mq → ∀ {z1 : Int}, c z1 mq = some (rz, rm) → P) (hQ : Kr fW_X4_passTasks 0 0 m rm → P)
  (h : fj_X4_passTasks_57 c y1 m = some (rz, rm)) : P := by
  unfold fj_X4_passTasks_57 at h
  obtain ⟨x_69, e_70, h⟩ := lx_s h
  obtain ⟨g_71, h⟩ := gd_s h
  obtain ⟨x_73, hc_72, h⟩ := bp_s h
  rcases it_s h with ⟨hp_83, h⟩ | ⟨hp_83, h⟩
  · obtain ⟨x_129, e_130, h⟩ := lx_s h
    obtain ⟨x_132, hc_131, h⟩ := bp_s h
    exact kwj_X4_passTasks_88 hF hc hQ h
  · exact kwj_X4_passTasks_88 hF hc hQ h
set_option maxHeartbeats 4000000 in
theorem kwl_X4_passTasks_8 {P : Prop} {mb : MM} {rz : Int} {rm : MM} (hF0 : Fix mb) (hQ : Kr fW_X4_passTasks 0 0 mb rm → P) :
  ∀ (n : Nat) {m : MM} {y1 : Int} , Kr fW_X4_passTasks 0 0 mb m → fl_X4_passTasks_8 n y1 m = some (rz, rm) → P := by
  intro n
  induction n with
  | zero => intro m y1 w h; cases h
  | succ n ih0 =>
    intro m y1 w h
    have ih : ∀ mq : MM, Kr fW_X4_passTasks 0 0 mb mq → ∀ {z1 : Int}, fl_X4_passTasks_8 n z1 mq = some (rz, rm) → P := fun mq b => by intros; exact ih0 b ‹_›
    unfold fl_X4_passTasks_8 at h
    obtain ⟨x_16, e_17, h⟩ := lx_s h
    obtain ⟨g_20, h⟩ := gd_s h
    obtain ⟨x_22, e_23, h⟩ := lx_s h
    rcases it_s h with ⟨hp_24, h⟩ | ⟨hp_24, h⟩
    · obtain ⟨x_38, e_39, h⟩ := lx_s h
      rcases it_s h with ⟨hp_40, h⟩ | ⟨hp_40, h⟩
      · obtain ⟨x_55, hc_54, h⟩ := bp_s h
        rcases it_s h with ⟨hp_65, h⟩ | ⟨hp_65, h⟩
        · obtain ⟨x_144, hc_143, h⟩ := bp_s h
          obtain ⟨x_158, e_159, h⟩ := lx_s h
          rcases it_s h with ⟨hp_160, h⟩ | ⟨hp_160, h⟩
          · obtain ⟨m_164, e_165, h⟩ := up_s h
            have E_168 := ext_up e_165 (And.left (fx_kF (c := 9) (Kr.fix w) (by decide +kernel))) (by decide)
            have w_169 := Kr.upC (y := 13) w e_165 (ext_up e_165 (And.left (fx_kF (c := 9) (Kr.fix w) (by decide +kernel))) (by decide)) (And.left (fx_kF (c := 9) (Kr.fix w) (by decide +kernel))) (fx_f (j := 13) (Kr.fix w) (fx_kF (c := 9) (Kr.fix w) (by decide +kernel)) (by decide +kernel)) (Or.inr rfl) (by decide +kernel) (fx_kF (c := 9) (Kr.fix w) (by decide +kernel)) (by decide) (by first | exact Or.inl (by decide) | exact Or.inr (by decide))
            cases h
            exact hQ w_169
          · exact kwj_X4_passTasks_57 (Kr.fix w) (fun mq f => ih mq (Kr.trS w f)) (fun f => hQ (Kr.trS w f)) h
        · exact kwj_X4_passTasks_57 (Kr.fix w) (fun mq f => ih mq (Kr.trS w f)) (fun f => hQ (Kr.trS w f)) h
      · obtain ⟨m_44, e_45, h⟩ := up_s h
        have E_48 := ext_up e_45 (And.left (fx_kF (c := 9) (Kr.fix w) (by decide +kernel))) (by decide)
        have w_49 := Kr.upC (y := 13) w e_45 (ext_up e_45 (And.left (fx_kF (c := 9) (Kr.fix w) (by decide +kernel))) (by decide)) (And.left (fx_kF (c := 9) (Kr.fix w) (by decide +kernel))) (fx_f (j := 13) (Kr.fix w) (fx_kF (c := 9) (Kr.fix w) (by decide +kernel)) (by decide +kernel)) (Or.inr rfl) (by decide +kernel) (fx_kF (c := 9) (Kr.fix w) (by decide +kernel)) (by decide) (by first | exact Or.inl (by decide) | exact Or.inr (by decide))
        cases h
        exact hQ w_49
    · obtain ⟨m_28, e_29, h⟩ := up_s h
      have E_32 := ext_up e_29 (And.left (fx_kF (c := 9) (Kr.fix w) (by decide +kernel))) (by decide)
      have w_33 := Kr.upC (y := 13) w e_29 (ext_up e_29 (And.left (fx_kF (c := 9) (Kr.fix w) (by decide +kernel))) (by decide)) (And.left (fx_kF (c := 9) (Kr.fix w) (by decide +kernel))) (fx_f (j := 13) (Kr.fix w) (fx_kF (c := 9) (Kr.fix w) (by decide +kernel)) (by decide +kernel)) (Or.inr rfl) (by decide +kernel) (fx_kF (c := 9) (Kr.fix w) (by decide +kernel)) (by decide) (by first | exact Or.inl (by decide) | exact Or.inr (by decide))
      cases h
      exact hQ w_33
set_option maxHeartbeats 4000000 in
theorem kw_X4_passTasks {m0 : MM} {rz : Int} {rm : MM} (hF : Fix m0)
  (h : fm_X4_passTasks m0 = some (rz, rm)) : Kr fW_X4_passTasks 0 0 m0 rm := by
  have hQ : Kr fW_X4_passTasks 0 0 m0 rm → Kr fW_X4_passTasks 0 0 m0 rm := id
  unfold fm_X4_passTasks at h
  obtain ⟨x_7, e_8, h⟩ := lx_s h
  refine kwl_X4_passTasks_8 hF  hQ BIG (Kr.rf hF) h
set_option maxHeartbeats 4000000 in
theorem kwl_X4_follow_17 {P : Prop} {mb : MM} {y3 : Int} {k62 : MM → Option (Int × MM)} {k147 : MM → Option (Int × MM)} {rz : Int} {rm : MM} (hF0 : Fix mb)
  (hk62 : ∀ mq : MM, Kr fW_X4_follow 0 0 mb mq → k62 mq = some (rz, rm) → P)
  (hk147 : ∀ mq : MM, Kr fW_X4_follow 0 0 mb mq → k147 mq = some (rz, rm) → P) (hQ : Kr fW_X4_follow 0 0 mb rm → P) :
  ∀ (n : Nat) {m : MM} {y5 : Int} , Kr fW_X4_follow 0 0 mb m → fl_X4_follow_17 y3 k62 k147 n y5 m = some (rz, rm) → P := by
  intro n
  induction n with
  | zero => intro m y5 w h; cases h
  | succ n ih0 =>
    intro m y5 w h
    have ih : ∀ mq : MM, Kr fW_X4_follow 0 0 mb mq → ∀ {z5 : Int}, fl_X4_follow_17 y3 k62 k147 n z5 mq = some (rz, rm) → P := fun mq b => by intros; exact ih0 b ‹_›
    unfold fl_X4_follow_17 at h
    rcases it_s h with ⟨hp_26, h⟩ | ⟨hp_26, h⟩
    · obtain ⟨x_28, hc_27, h⟩ := bp_s h
      rcases it_s h with ⟨hp_36, h⟩ | ⟨hp_36, h⟩
      · exact hk147 m w h
      · obtain ⟨x_40, e_41, h⟩ := lx_s h
        obtain ⟨x_48, e_49, h⟩ := lx_s h
        obtain ⟨g_50, h⟩ := gd_s h
        obtain ⟨x_52, hc_51, h⟩ := bp_s h
        obtain ⟨m_60, e_61, h⟩ := up_s h
        have E_64 := ext_up e_61 (And.left (fx_kF (c := 5) (Kr.fix w) (by decide +kernel))) (by decide)
        have w_65 := Kr.upC (y := 8) w e_61 (ext_up e_61 (And.left (fx_kF (c := 5) (Kr.fix w) (by decide +kernel))) (by decide)) (And.left (fx_kF (c := 5) (Kr.fix w) (by decide +kernel))) (fx_f (j := 8) (Kr.fix w) (fx_kF (c := 5) (Kr.fix w) (by decide +kernel)) (by decide +kernel)) (Or.inr rfl) (by decide +kernel) (fx_kF (c := 5) (Kr.fix w) (by decide +kernel)) (by decide) (by first | exact Or.inl (by decide) | exact Or.inr (by decide))
        obtain ⟨x_70, e_71, h⟩ := lx_s h
        obtain ⟨x_75, e_76, h⟩ := lx_s h
        obtain ⟨g_79, h⟩ := gd_s h
        obtain ⟨x_81, e_82, h⟩ := lx_s h
        rcases it_s h with ⟨hp_83, h⟩ | ⟨hp_83, h⟩
        · obtain ⟨m_94, e_95, h⟩ := up_s h
          have E_98 := ext_up e_95 (And.left (fx_kF (c := 9) (Kr.fix w_65) (by decide +kernel))) (by decide)
          have w_99 := Kr.upC (y := 11) w_65 e_95 (ext_up e_95 (And.left (fx_kF (c := 9) (Kr.fix w_65) (by decide +kernel))) (by decide)) (And.left (fx_kF (c := 9) (Kr.fix w_65) (by decide +kernel))) (fx_f (j := 11) (Kr.fix w_65) (fx_kF (c := 9) (Kr.fix w_65) (by decide +kernel)) (by decide +kernel)) (Or.inr rfl) (by decide +kernel) (fx_kF (c := 9) (Kr.fix w_65) (by decide +kernel)) (by decide) (by first | exact Or.inl (by decide) | exact Or.inr (by decide))
          obtain ⟨m_103, e_104, h⟩ := up_s h
          have E_107 := ext_up e_104 (And.left (fx_kF (c := 5) (Kr.fix w_99) (by decide +kernel))) (by decide)
          have w_108 := Kr.upC (y := 9) w_99 e_104 (ext_up e_104 (And.left (fx_kF (c := 5) (Kr.fix w_99) (by decide +kernel))) (by decide)) (And.left (fx_kF (c := 5) (Kr.fix w_99) (by decide +kernel))) (fx_f (j := 9) (Kr.fix w_99) (fx_kF (c := 5) (Kr.fix w_99) (by decide +kernel)) (by decide +kernel)) (Or.inr rfl) (by decide +kernel) (fx_kF (c := 5) (Kr.fix w_99) (by decide +kernel)) (by decide) (by first | exact Or.inl (by decide) | exact Or.inr (by decide))
          obtain ⟨x_113, e_114, h⟩ := lx_s h
          obtain ⟨x_118, e_119, h⟩ := lx_s h
          obtain ⟨g_120, h⟩ := gd_s h
          obtain ⟨x_122, hc_121, h⟩ := bp_s h
          obtain ⟨x_137, hc_136, h⟩ := bp_s h
          obtain ⟨x_152, hc_151, h⟩ := bp_s h
          obtain ⟨x_161, m_162, hc_160, h⟩ := bd_s h
          have w_169 := (kw_X4_note (Kr.fix w_108) hc_160)
          have E_167 := Kr.ext w_169
          have w_170 := Kr.tr0 w_108 w_169 (by decide +kernel)
          obtain ⟨x_173, m_174, hc_172, h⟩ := bd_s h
          have w_181 := (kw_X4_goOn (Kr.fix w_170) hc_172)
          have E_179 := Kr.ext w_181
          have w_182 := Kr.tr0 w_170 w_181 (by decide +kernel)
          obtain ⟨x_190, e_191, h⟩ := lx_s h
          obtain ⟨m_196, e_197, h⟩ := up_s h
          have E_200 := ext_up e_197 (And.left (fx_kF (c := 9) (Kr.fix w_182) (by decide +kernel))) (by decide)
          have w_201 := Kr.upC (y := 10) w_182 e_197 (ext_up e_197 (And.left (fx_kF (c := 9) (Kr.fix w_182) (by decide +kernel))) (by decide)) (And.left (fx_kF (c := 9) (Kr.fix w_182) (by decide +kernel))) (fx_f (j := 10) (Kr.fix w_182) (fx_kF (c := 9) (Kr.fix w_182) (by decide +kernel)) (by decide +kernel)) (Or.inr rfl) (by decide +kernel) (fx_kF (c := 9) (Kr.fix w_182) (by decide +kernel)) (by decide) (by first | exact Or.inl (by decide) | exact Or.inr (by decide))
          obtain ⟨x_204, m_205, hc_203, h⟩ := bd_s h
          have w_212 := (kw_X4_passTasks (Kr.fix w_201) hc_203)
          have E_210 := Kr.ext w_212
          have w_213 := Kr.tr0 w_201 w_212 (by decide +kernel)
          obtain ⟨x_220, e_221, h⟩ := lx_s h
          exact ih m_205 w_213 h
        · exact hk62 m_60 w_65 h
    · exact hk147 m w h
set_option maxHeartbeats 4000000 in
theorem kwj_X4_follow_147 {P : Prop} {m : MM} {rz : Int} {rm : MM} (hF : Fix m) (hQ : Kr fW_X4_follow 0 0 m rm → P)
  (h : fj_X4_follow_147 m = some (rz, rm)) : P := by
  unfold fj_X4_follow_147 at h
  obtain ⟨x_239, e_240, h⟩ := lx_s h
  rcases it_s h with ⟨hp_241, h⟩ | ⟨hp_241, h⟩
  · cases h
    exact hQ (Kr.rf (W := fW_X4_follow) (e := 0) hF)
  · cases h
    exact hQ (Kr.rf (W := fW_X4_follow) (e := 0) hF)
set_option maxHeartbeats 4000000 in
theorem kw_X4_follow {m0 : MM} {p1 p2 p3 p4 : Int} {rz : Int} {rm : MM} (hF : Fix m0)
  (h : fm_X4_follow p1 p2 p3 p4 m0 = some (rz, rm)) : Kr fW_X4_follow 0 0 m0 rm := by
  have hQ : Kr fW_X4_follow 0 0 m0 rm → Kr fW_X4_follow 0 0 m0 rm := id
  unfold fm_X4_follow at h
  obtain ⟨x_2, m_3, hc_1, h⟩ := bd_s h
  have w_10 := (kw_X4_load hF hc_1)
  have E_8 := Kr.ext w_10
  have w_11 := Kr.tr0 (Kr.rf (W := fW_X4_follow) (e := 0) hF) w_10 (by decide +kernel)
  obtain ⟨x_19, e_20, h⟩ := lx_s h
  refine kwl_X4_follow_17 (Kr.fix w_11) ?_ ?_ (fun f => hQ (Kr.trS w_11 f)) BIG (Kr.rf (Kr.fix w_11)) h
  · intro m_231 w_234
    intro h
    have E_232 := Kr.ext w_234
    have w_235 := Kr.trS w_11 w_234
    exact kwj_X4_follow_147 (Kr.fix w_235) (fun f => hQ (Kr.trS w_235 f)) h
  · intro m_252 w_255
    intro h
    have E_253 := Kr.ext w_255
    have w_256 := Kr.trS w_11 w_255
    exact kwj_X4_follow_147 (Kr.fix w_256) (fun f => hQ (Kr.trS w_256 f)) h
set_option maxHeartbeats 4000000 in
theorem kw_X4_knows {m0 : MM} {p1 : Int} {rz : Int} {rm : MM} (hF : Fix m0)
  (h : fm_X4_knows p1 m0 = some (rz, rm)) : Kr fW_X4_knows 0 0 m0 rm := by
  have hQ : Kr fW_X4_knows 0 0 m0 rm → Kr fW_X4_knows 0 0 m0 rm := id
  unfold fm_X4_knows at h
  obtain ⟨g_6, h⟩ := gd_s h
  obtain ⟨x_8, e_9, h⟩ := lx_s h
  obtain ⟨g_12, h⟩ := gd_s h
  obtain ⟨x_14, e_15, h⟩ := lx_s h
  obtain ⟨m_16, e_17, h⟩ := up_s h
  have E_20 := ext_up e_17 (And.left (fx_kF (c := 9) hF (by decide +kernel))) (by decide)
  have w_21 := Kr.upC (y := 12) (Kr.rf (W := fW_X4_knows) (e := 0) hF) e_17 (ext_up e_17 (And.left (fx_kF (c := 9) hF (by decide +kernel))) (by decide)) (And.left (fx_kF (c := 9) hF (by decide +kernel))) (fx_f (j := 12) hF (fx_kF (c := 9) hF (by decide +kernel)) (by decide +kernel)) (Or.inr rfl) (by decide +kernel) (fx_kF (c := 9) hF (by decide +kernel)) (by decide) (by first | exact Or.inl (by decide) | exact Or.inr (by decide))
  have g_28 := Ext.ok E_20 g_6
  obtain ⟨x_30, e_31, h⟩ := lx_s h
  obtain ⟨g_34, h⟩ := gd_s h
  obtain ⟨x_36, e_37, h⟩ := lx_s h
  obtain ⟨m_38, e_39, h⟩ := up_s h
  have E_42 := ext_up e_39 (And.left (fx_kF (c := 9) (Kr.fix w_21) (by decide +kernel))) (by decide)
  have w_43 := Kr.upC (y := 13) w_21 e_39 (ext_up e_39 (And.left (fx_kF (c := 9) (Kr.fix w_21) (by decide +kernel))) (by decide)) (And.left (fx_kF (c := 9) (Kr.fix w_21) (by decide +kernel))) (fx_f (j := 13) (Kr.fix w_21) (fx_kF (c := 9) (Kr.fix w_21) (by decide +kernel)) (by decide +kernel)) (Or.inr rfl) (by decide +kernel) (fx_kF (c := 9) (Kr.fix w_21) (by decide +kernel)) (by decide) (by first | exact Or.inl (by decide) | exact Or.inr (by decide))
  obtain ⟨m_45, e_46, h⟩ := up_s h
  have E_49 := ext_up e_46 (And.left (fx_kF (c := 5) (Kr.fix w_43) (by decide +kernel))) (by decide)
  have w_50 := Kr.upC (y := 7) w_43 e_46 (ext_up e_46 (And.left (fx_kF (c := 5) (Kr.fix w_43) (by decide +kernel))) (by decide)) (And.left (fx_kF (c := 5) (Kr.fix w_43) (by decide +kernel))) (fx_f (j := 7) (Kr.fix w_43) (fx_kF (c := 5) (Kr.fix w_43) (by decide +kernel)) (by decide +kernel)) (Or.inr rfl) (by decide +kernel) (fx_kF (c := 5) (Kr.fix w_43) (by decide +kernel)) (by decide) (by first | exact Or.inl (by decide) | exact Or.inr (by decide))
  cases h
  exact hQ w_50
set_option maxHeartbeats 4000000 in
theorem kw_X4_isLeft {m0 : MM} {rz : Int} {rm : MM} (hF : Fix m0)
  (h : fm_X4_isLeft m0 = some (rz, rm)) : Kr fW_X4_isLeft 0 0 m0 rm := by
  have hQ : Kr fW_X4_isLeft 0 0 m0 rm → Kr fW_X4_isLeft 0 0 m0 rm := id
  unfold fm_X4_isLeft at h
  obtain ⟨x_4, e_5, h⟩ := lx_s h
  obtain ⟨x_12, e_13, h⟩ := lx_s h
  obtain ⟨g_14, h⟩ := gd_s h
  obtain ⟨x_16, hc_15, h⟩ := bp_s h
  obtain ⟨x_34, e_35, h⟩ := lx_s h
  rcases it_s h with ⟨hp_36, h⟩ | ⟨hp_36, h⟩
  · obtain ⟨x_44, m_45, hc_43, h⟩ := bd_s h
    have w_52 := (kw_X4_getStuck hF hc_43)
    have E_50 := Kr.ext w_52
    have w_53 := Kr.tr0 (Kr.rf (W := fW_X4_isLeft) (e := 0) hF) w_52 (by decide +kernel)
    obtain ⟨x_58, e_59, h⟩ := lx_s h
    obtain ⟨g_60, h⟩ := gd_s h
    cases h
    exact hQ w_53
  · obtain ⟨x_40, e_41, h⟩ := lx_s h
    obtain ⟨g_42, h⟩ := gd_s h
    cases h
    exact hQ (Kr.rf (W := fW_X4_isLeft) (e := 0) hF)
set_option maxHeartbeats 4000000 in
theorem kw_X5_init {m0 : MM} {p0 : Int} {rz : Int} {rm : MM} (hF : Fix m0) (g0 : okc m0 p0 6)
  (h : fm_X5_init p0 m0 = some (rz, rm)) : Kr fW_X5_init p0 0 m0 rm := by
  have hQ : Kr fW_X5_init p0 0 m0 rm → Kr fW_X5_init p0 0 m0 rm := id
  unfold fm_X5_init at h
  obtain ⟨x_3, m_4, e_5, e_6, h⟩ := nw_s h
  have g_12 := okc_nwF (c := 108) hF e_5 e_6
  have E_11 := ext_nw hF e_6
  have n_13 := Kr.nge (Kr.rf (W := fW_X5_init) (e := p0) hF) e_5
  have w_14 := Kr.nw0 (kd := 108) (Kr.rf (W := fW_X5_init) (e := p0) hF) e_6 (by decide +kernel) (by decide)
  have g_16 := Ext.ok E_11 g0
  obtain ⟨m_17, e_18, h⟩ := up_s h
  have E_21 := ext_up e_18 (And.left g_16) (by decide)
  have w_22 := Kr.upE w_14 e_18 (ext_up e_18 (And.left g_16) (by decide)) (And.left g_16) (fx_f (j := 0) (Kr.fix w_14) g_16 (by decide +kernel)) g_16 (by decide) (by first | exact Or.inl (by decide) | exact Or.inr (by decide))
  have g_26 := Ext.ok E_21 g_16
  obtain ⟨m_27, e_28, h⟩ := up_s h
  have E_31 := ext_up e_28 (And.left g_26) (by decide)
  have w_32 := Kr.upE w_22 e_28 (ext_up e_28 (And.left g_26) (by decide)) (And.left g_26) (fx_f (j := 1) (Kr.fix w_22) g_26 (by decide +kernel)) g_26 (by decide) (by first | exact Or.inl (by decide) | exact Or.inr (by decide))
  have g_36 := Ext.ok E_31 g_26
  obtain ⟨m_37, e_38, h⟩ := up_s h
  have E_41 := ext_up e_38 (And.left g_36) (by decide)
  have w_42 := Kr.upE w_32 e_38 (ext_up e_38 (And.left g_36) (by decide)) (And.left g_36) (fx_f (j := 2) (Kr.fix w_32) g_36 (by decide +kernel)) g_36 (by decide) (by first | exact Or.inl (by decide) | exact Or.inr (by decide))
  cases h
  exact hQ w_42
set_option maxHeartbeats 4000000 in
theorem kd_X6_init {m0 : MM} {p0 p1 p2 p3 p4 p5 p6 : Int} {rz : Int} {rm : MM} (hF : Fix m0) (g0 : okc m0 p0 7)
  (h : fm_X6_init p0 p1 p2 p3 p4 p5 p6 m0 = some (rz, rm)) : Kd fW_X6_init p0 (fun g => g 3 5 + 4 * g 6 3) m0 rm := by
  have hQ : ∀ {d : (Int → Int → Int) → Int}, Kd fW_X6_init p0 d m0 rm → (∀ g, GOK g → d g ≤ g 3 5 + 4 * g 6 3) → Kd fW_X6_init p0 (fun g => g 3 5 + 4 * g 6 3) m0 rm := fun w h => Kd.le w h
  unfold fm_X6_init at h
  obtain ⟨m_3, e_4, h⟩ := up_s h
  have E_7 := ext_up e_4 (And.left g0) (by decide)
  have w_8 := Kd.upE (Kd.rf (W := fW_X6_init) (e := p0) hF) e_4 (ext_up e_4 (And.left g0) (by decide)) (And.left g0) (fx_f (j := 6) hF g0 (by decide +kernel)) g0 (by decide) (by first | exact Or.inl (by decide) | exact Or.inr (by decide))
  have g_12 := Ext.ok E_7 g0
  obtain ⟨m_13, e_14, h⟩ := up_s h
  have E_17 := ext_up e_14 (And.left g_12) (by decide)
  have w_18 := Kd.upE w_8 e_14 (ext_up e_14 (And.left g_12) (by decide)) (And.left g_12) (fx_f (j := 7) (Kd.fix w_8) g_12 (by decide +kernel)) g_12 (by decide) (by first | exact Or.inl (by decide) | exact Or.inr (by decide))
  have g_22 := Ext.ok E_17 g_12
  obtain ⟨m_23, e_24, h⟩ := up_s h
  have E_27 := ext_up e_24 (And.left g_22) (by decide)
  have w_28 := Kd.upE w_18 e_24 (ext_up e_24 (And.left g_22) (by decide)) (And.left g_22) (fx_f (j := 8) (Kd.fix w_18) g_22 (by decide +kernel)) g_22 (by decide) (by first | exact Or.inl (by decide) | exact Or.inr (by decide))
  have g_32 := Ext.ok E_27 g_22
  obtain ⟨m_33, e_34, h⟩ := up_s h
  have E_37 := ext_up e_34 (And.left g_32) (by decide)
  have w_38 := Kd.upE w_28 e_34 (ext_up e_34 (And.left g_32) (by decide)) (And.left g_32) (fx_f (j := 9) (Kd.fix w_28) g_32 (by decide +kernel)) g_32 (by decide) (by first | exact Or.inl (by decide) | exact Or.inr (by decide))
  have g_42 := Ext.ok E_37 g_32
  obtain ⟨m_43, e_44, h⟩ := up_s h
  have E_47 := ext_up e_44 (And.left g_42) (by decide)
  have w_48 := Kd.upE w_38 e_44 (ext_up e_44 (And.left g_42) (by decide)) (And.left g_42) (fx_f (j := 10) (Kd.fix w_38) g_42 (by decide +kernel)) g_42 (by decide) (by first | exact Or.inl (by decide) | exact Or.inr (by decide))
  have g_52 := Ext.ok E_47 g_42
  obtain ⟨m_53, e_54, h⟩ := up_s h
  have E_57 := ext_up e_54 (And.left g_52) (by decide)
  have w_58 := Kd.upE w_48 e_54 (ext_up e_54 (And.left g_52) (by decide)) (And.left g_52) (fx_f (j := 11) (Kd.fix w_48) g_52 (by decide +kernel)) g_52 (by decide) (by first | exact Or.inl (by decide) | exact Or.inr (by decide))
  have g_62 := Ext.ok E_57 g_52
  obtain ⟨m_63, e_64, h⟩ := up_s h
  have E_67 := ext_up e_64 (And.left g_62) (by decide)
  have w_68 := Kd.upE w_58 e_64 (ext_up e_64 (And.left g_62) (by decide)) (And.left g_62) (fx_f (j := 12) (Kd.fix w_58) g_62 (by decide +kernel)) g_62 (by decide) (by first | exact Or.inl (by decide) | exact Or.inr (by decide))
  have g_72 := Ext.ok E_67 g_62
  obtain ⟨m_73, e_74, h⟩ := up_s h
  have E_77 := ext_up e_74 (And.left g_72) (by decide)
  have w_78 := Kd.upE w_68 e_74 (ext_up e_74 (And.left g_72) (by decide)) (And.left g_72) (fx_f (j := 13) (Kd.fix w_68) g_72 (by decide +kernel)) g_72 (by decide) (by first | exact Or.inl (by decide) | exact Or.inr (by decide))
  have g_82 := Ext.ok E_77 g_72
  obtain ⟨m_83, e_84, h⟩ := up_s h
  have E_87 := ext_up e_84 (And.left g_82) (by decide)
  have w_88 := Kd.upE w_78 e_84 (ext_up e_84 (And.left g_82) (by decide)) (And.left g_82) (fx_f (j := 14) (Kd.fix w_78) g_82 (by decide +kernel)) g_82 (by decide) (by first | exact Or.inl (by decide) | exact Or.inr (by decide))
  have g_92 := Ext.ok E_87 g_82
  obtain ⟨m_93, e_94, h⟩ := up_s h
  have E_97 := ext_up e_94 (And.left g_92) (by decide)
  have w_98 := Kd.upE w_88 e_94 (ext_up e_94 (And.left g_92) (by decide)) (And.left g_92) (fx_f (j := 15) (Kd.fix w_88) g_92 (by decide +kernel)) g_92 (by decide) (by first | exact Or.inl (by decide) | exact Or.inr (by decide))
  obtain ⟨x_100, m_101, e_102, e_103, h⟩ := nw_s h
  have g_109 := okc_nwF (c := 3) (Kd.fix w_98) e_102 e_103
  have E_108 := ext_nw (Kd.fix w_98) e_103
  have n_110 := Kd.nge w_98 e_102
  have w_111 := Kd.nw (kd := 3) (kz := 3) rfl w_98 e_103 (by decide +kernel)
  obtain ⟨x_113, m_114, e_115, e_116, h⟩ := nw_s h
  have g_122 := okc_nwF (c := 6) (Kd.fix w_111) e_115 e_116
  have E_121 := ext_nw (Kd.fix w_111) e_116
  have n_123 := Kd.nge w_111 e_115
  have w_124 := Kd.nw (kd := 6) (kz := 6) rfl w_111 e_116 (by decide +kernel)
  obtain ⟨x_127, m_128, hc_126, h⟩ := bd_s h
  have w_135 := (kw_X5_init (Kd.fix w_124) g_122 hc_126)
  have E_133 := Kd.ext w_135
  have w_136 := Kd.trN w_124 w_135 n_123 (by decide +kernel)
  have g_138 := Ext.ok (Ext.tr E_121 E_133) g_109
  obtain ⟨x_140, m_141, hc_139, h⟩ := bd_s h
  have w_148 := (kw_X2_init (Kd.fix w_136) g_138 hc_139)
  have E_146 := Kd.ext w_148
  have w_149 := Kd.trN w_136 w_148 n_110 (by decide +kernel)
  have g_151 := Ext.ok (Ext.tr (Ext.tr (Ext.tr (Ext.tr E_97 E_108) E_121) E_133) E_146) g_92
  obtain ⟨m_152, e_153, h⟩ := up_s h
  have E_156 := ext_up e_153 (And.left g_151) (by decide)
  have w_157 := Kd.upE w_149 e_153 (ext_up e_153 (And.left g_151) (by decide)) (And.left g_151) (fx_f (j := 16) (Kd.fix w_149) g_151 (by decide +kernel)) g_151 (by decide) (by first | exact Or.inl (by decide) | exact Or.inr (by decide))
  obtain ⟨x_159, m_160, e_161, e_162, h⟩ := nw_s h
  have g_168 := okc_nwF (c := 6) (Kd.fix w_157) e_161 e_162
  have E_167 := ext_nw (Kd.fix w_157) e_162
  have n_169 := Kd.nge w_157 e_161
  have w_170 := Kd.nw (kd := 6) (kz := 6) rfl w_157 e_162 (by decide +kernel)
  obtain ⟨x_173, m_174, hc_172, h⟩ := bd_s h
  have w_181 := (kw_X5_init (Kd.fix w_170) g_168 hc_172)
  have E_179 := Kd.ext w_181
  have w_182 := Kd.trN w_170 w_181 n_169 (by decide +kernel)
  have g_184 := Ext.ok (Ext.tr (Ext.tr E_156 E_167) E_179) g_151
  obtain ⟨m_185, e_186, h⟩ := up_s h
  have E_189 := ext_up e_186 (And.left g_184) (by decide)
  have w_190 := Kd.upE w_182 e_186 (ext_up e_186 (And.left g_184) (by decide)) (And.left g_184) (fx_f (j := 17) (Kd.fix w_182) g_184 (by decide +kernel)) g_184 (by decide) (by first | exact Or.inl (by decide) | exact Or.inr (by decide))
  obtain ⟨x_192, m_193, e_194, e_195, h⟩ := nw_s h
  have g_201 := okc_nwF (c := 6) (Kd.fix w_190) e_194 e_195
  have E_200 := ext_nw (Kd.fix w_190) e_195
  have n_202 := Kd.nge w_190 e_194
  have w_203 := Kd.nw (kd := 6) (kz := 6) rfl w_190 e_195 (by decide +kernel)
  obtain ⟨x_206, m_207, hc_205, h⟩ := bd_s h
  have w_214 := (kw_X5_init (Kd.fix w_203) g_201 hc_205)
  have E_212 := Kd.ext w_214
  have w_215 := Kd.trN w_203 w_214 n_202 (by decide +kernel)
  have g_217 := Ext.ok (Ext.tr (Ext.tr E_189 E_200) E_212) g_184
  obtain ⟨m_218, e_219, h⟩ := up_s h
  have E_222 := ext_up e_219 (And.left g_217) (by decide)
  have w_223 := Kd.upE w_215 e_219 (ext_up e_219 (And.left g_217) (by decide)) (And.left g_217) (fx_f (j := 18) (Kd.fix w_215) g_217 (by decide +kernel)) g_217 (by decide) (by first | exact Or.inl (by decide) | exact Or.inr (by decide))
  obtain ⟨x_225, m_226, e_227, e_228, h⟩ := nw_s h
  have g_234 := okc_nwF (c := 6) (Kd.fix w_223) e_227 e_228
  have E_233 := ext_nw (Kd.fix w_223) e_228
  have n_235 := Kd.nge w_223 e_227
  have w_236 := Kd.nw (kd := 6) (kz := 6) rfl w_223 e_228 (by decide +kernel)
  obtain ⟨x_239, m_240, hc_238, h⟩ := bd_s h
  have w_247 := (kw_X5_init (Kd.fix w_236) g_234 hc_238)
  have E_245 := Kd.ext w_247
  have w_248 := Kd.trN w_236 w_247 n_235 (by decide +kernel)
  have g_250 := Ext.ok (Ext.tr (Ext.tr E_222 E_233) E_245) g_217
  obtain ⟨m_251, e_252, h⟩ := up_s h
  have E_255 := ext_up e_252 (And.left g_250) (by decide)
  have w_256 := Kd.upE w_248 e_252 (ext_up e_252 (And.left g_250) (by decide)) (And.left g_250) (fx_f (j := 19) (Kd.fix w_248) g_250 (by decide +kernel)) g_250 (by decide) (by first | exact Or.inl (by decide) | exact Or.inr (by decide))
  have g_258 := Ext.ok E_255 g_250
  obtain ⟨m_259, e_260, h⟩ := up_s h
  have E_263 := ext_up e_260 (And.left g_258) (by decide)
  have w_264 := Kd.upE w_256 e_260 (ext_up e_260 (And.left g_258) (by decide)) (And.left g_258) (fx_f (j := 0) (Kd.fix w_256) g_258 (by decide +kernel)) g_258 (by decide) (by first | exact Or.inl (by decide) | exact Or.inr (by decide))
  have g_266 := Ext.ok E_263 g_258
  obtain ⟨m_267, e_268, h⟩ := up_s h
  have E_271 := ext_up e_268 (And.left g_266) (by decide)
  have w_272 := Kd.upE w_264 e_268 (ext_up e_268 (And.left g_266) (by decide)) (And.left g_266) (fx_f (j := 1) (Kd.fix w_264) g_266 (by decide +kernel)) g_266 (by decide) (by first | exact Or.inl (by decide) | exact Or.inr (by decide))
  have g_274 := Ext.ok E_271 g_266
  obtain ⟨m_275, e_276, h⟩ := up_s h
  have E_279 := ext_up e_276 (And.left g_274) (by decide)
  have w_280 := Kd.upE w_272 e_276 (ext_up e_276 (And.left g_274) (by decide)) (And.left g_274) (fx_f (j := 2) (Kd.fix w_272) g_274 (by decide +kernel)) g_274 (by decide) (by first | exact Or.inl (by decide) | exact Or.inr (by decide))
  have g_282 := Ext.ok E_279 g_274
  obtain ⟨m_283, e_284, h⟩ := up_s h
  have E_287 := ext_up e_284 (And.left g_282) (by decide)
  have w_288 := Kd.upE w_280 e_284 (ext_up e_284 (And.left g_282) (by decide)) (And.left g_282) (fx_f (j := 3) (Kd.fix w_280) g_282 (by decide +kernel)) g_282 (by decide) (by first | exact Or.inl (by decide) | exact Or.inr (by decide))
  have g_290 := Ext.ok E_287 g_282
  obtain ⟨m_291, e_292, h⟩ := up_s h
  have E_295 := ext_up e_292 (And.left g_290) (by decide)
  have w_296 := Kd.upE w_288 e_292 (ext_up e_292 (And.left g_290) (by decide)) (And.left g_290) (fx_f (j := 4) (Kd.fix w_288) g_290 (by decide +kernel)) g_290 (by decide) (by first | exact Or.inl (by decide) | exact Or.inr (by decide))
  have g_298 := Ext.ok E_295 g_290
  obtain ⟨m_299, e_300, h⟩ := up_s h
  have E_303 := ext_up e_300 (And.left g_298) (by decide)
  have w_304 := Kd.upE w_296 e_300 (ext_up e_300 (And.left g_298) (by decide)) (And.left g_298) (fx_f (j := 5) (Kd.fix w_296) g_298 (by decide +kernel)) g_298 (by decide) (by first | exact Or.inl (by decide) | exact Or.inr (by decide))
  cases h
  exact hQ w_304 (fun g hg => by have q1 := hg.1 99 0; (try simp only [tn, uo_7, uo_8, uo_9, uo_10]); (try simp only [uRun]); omega)
set_option maxHeartbeats 4000000 in
theorem kw_X6_addTimer {m0 : MM} {p0 p1 p2 : Int} {rz : Int} {rm : MM} (hF : Fix m0) (g0 : okc m0 p0 7)
  (h : fm_X6_addTimer p0 p1 p2 m0 = some (rz, rm)) : Kr fW_X6_addTimer 0 0 m0 rm := by
  have hQ : Kr fW_X6_addTimer 0 0 m0 rm → Kr fW_X6_addTimer 0 0 m0 rm := id
  unfold fm_X6_addTimer at h
  obtain ⟨x_4, e_5, h⟩ := lx_s h
  obtain ⟨g_8, h⟩ := gd_s h
  obtain ⟨x_10, m_11, hc_9, h⟩ := bd_s h
  have w_18 := (kw_X5_add hF g_8 hc_9)
  have E_16 := Kr.ext w_18
  have w_19 := Kr.tr0 (Kr.rf (W := fW_X6_addTimer) (e := 0) hF) w_18 (by decide +kernel)
  have g_23 := Ext.ok E_16 g0
  obtain ⟨x_25, e_26, h⟩ := lx_s h
  obtain ⟨g_29, h⟩ := gd_s h
  obtain ⟨x_31, m_32, hc_30, h⟩ := bd_s h
  have w_39 := (kw_X5_add (Kr.fix w_19) g_29 hc_30)
  have E_37 := Kr.ext w_39
  have w_40 := Kr.tr0 w_19 w_39 (by decide +kernel)
  cases h
  exact hQ w_40
set_option maxHeartbeats 4000000 in
theorem kwl_X6_dropTimer_10 {P : Prop} {mb : MM} {p0 y1 : Int} {rz : Int} {rm : MM} (hF0 : Fix mb) (gb : okc mb p0 7) (hQ : Kr fW_X6_dropTimer 0 0 mb rm → P) :
  ∀ (n : Nat) {m : MM} {y2 : Int} , Kr fW_X6_dropTimer 0 0 mb m → fl_X6_dropTimer_10 p0 y1 n y2 m = some (rz, rm) → P := by
  intro n
  induction n with
  | zero => intro m y2 w h; cases h
  | succ n ih0 =>
    intro m y2 w h
    have ih : ∀ mq : MM, Kr fW_X6_dropTimer 0 0 mb mq → ∀ {z2 : Int}, fl_X6_dropTimer_10 p0 y1 n z2 mq = some (rz, rm) → P := fun mq b => by intros; exact ih0 b ‹_›
    have g0 := Ext.ok (Kr.ext w) gb
    unfold fl_X6_dropTimer_10 at h
    rcases it_s h with ⟨hp_24, h⟩ | ⟨hp_24, h⟩
    · cases h
      exact hQ w
    · obtain ⟨x_28, e_29, h⟩ := lx_s h
      obtain ⟨g_30, h⟩ := gd_s h
      obtain ⟨x_32, hc_31, h⟩ := bp_s h
      rcases it_s h with ⟨hp_40, h⟩ | ⟨hp_40, h⟩
      · obtain ⟨x_55, m_56, hc_54, h⟩ := bd_s h
        have w_63 := (kw_X5_removeAt (Kr.fix w) g_30 hc_54)
        have E_61 := Kr.ext w_63
        have w_64 := Kr.tr0 w w_63 (by decide +kernel)
        have g_68 := Ext.ok E_61 g0
        obtain ⟨x_70, e_71, h⟩ := lx_s h
        obtain ⟨g_72, h⟩ := gd_s h
        obtain ⟨x_74, m_75, hc_73, h⟩ := bd_s h
        have w_82 := (kw_X5_removeAt (Kr.fix w_64) g_72 hc_73)
        have E_80 := Kr.ext w_82
        have w_83 := Kr.tr0 w_64 w_82 (by decide +kernel)
        obtain ⟨x_90, e_91, h⟩ := lx_s h
        exact ih m_75 w_83 h
      · obtain ⟨x_46, e_47, h⟩ := lx_s h
        exact ih m w h
set_option maxHeartbeats 4000000 in
theorem kw_X6_dropTimer {m0 : MM} {p0 p1 : Int} {rz : Int} {rm : MM} (hF : Fix m0) (g0 : okc m0 p0 7)
  (h : fm_X6_dropTimer p0 p1 m0 = some (rz, rm)) : Kr fW_X6_dropTimer 0 0 m0 rm := by
  have hQ : Kr fW_X6_dropTimer 0 0 m0 rm → Kr fW_X6_dropTimer 0 0 m0 rm := id
  unfold fm_X6_dropTimer at h
  obtain ⟨x_4, e_5, h⟩ := lx_s h
  obtain ⟨g_8, h⟩ := gd_s h
  obtain ⟨x_10, e_11, h⟩ := lx_s h
  obtain ⟨x_16, e_17, h⟩ := lx_s h
  refine kwl_X6_dropTimer_10 hF g0  hQ BIG (Kr.rf hF) h
set_option maxHeartbeats 4000000 in
theorem kw_X7_init {m0 : MM} {p0 p1 p2 p3 p4 p5 : Int} {rz : Int} {rm : MM} (hF : Fix m0) (g0 : okc m0 p0 8)
  (h : fm_X7_init p0 p1 p2 p3 p4 p5 m0 = some (rz, rm)) : Kr fW_X7_init p0 0 m0 rm := by
  have hQ : Kr fW_X7_init p0 0 m0 rm → Kr fW_X7_init p0 0 m0 rm := id
  unfold fm_X7_init at h
  obtain ⟨m_3, e_4, h⟩ := up_s h
  have E_7 := ext_up e_4 (And.left g0) (by decide)
  have w_8 := Kr.upE (Kr.rf (W := fW_X7_init) (e := p0) hF) e_4 (ext_up e_4 (And.left g0) (by decide)) (And.left g0) (fx_f (j := 5) hF g0 (by decide +kernel)) g0 (by decide) (by first | exact Or.inl (by decide) | exact Or.inr (by decide))
  have g_12 := Ext.ok E_7 g0
  obtain ⟨m_13, e_14, h⟩ := up_s h
  have E_17 := ext_up e_14 (And.left g_12) (by decide)
  have w_18 := Kr.upE w_8 e_14 (ext_up e_14 (And.left g_12) (by decide)) (And.left g_12) (fx_f (j := 6) (Kr.fix w_8) g_12 (by decide +kernel)) g_12 (by decide) (by first | exact Or.inl (by decide) | exact Or.inr (by decide))
  have g_22 := Ext.ok E_17 g_12
  obtain ⟨m_23, e_24, h⟩ := up_s h
  have E_27 := ext_up e_24 (And.left g_22) (by decide)
  have w_28 := Kr.upE w_18 e_24 (ext_up e_24 (And.left g_22) (by decide)) (And.left g_22) (fx_f (j := 7) (Kr.fix w_18) g_22 (by decide +kernel)) g_22 (by decide) (by first | exact Or.inl (by decide) | exact Or.inr (by decide))
  have g_32 := Ext.ok E_27 g_22
  obtain ⟨m_33, e_34, h⟩ := up_s h
  have E_37 := ext_up e_34 (And.left g_32) (by decide)
  have w_38 := Kr.upE w_28 e_34 (ext_up e_34 (And.left g_32) (by decide)) (And.left g_32) (fx_f (j := 8) (Kr.fix w_28) g_32 (by decide +kernel)) g_32 (by decide) (by first | exact Or.inl (by decide) | exact Or.inr (by decide))
  have g_40 := Ext.ok E_37 g_32
  obtain ⟨m_41, e_42, h⟩ := up_s h
  have E_45 := ext_up e_42 (And.left g_40) (by decide)
  have w_46 := Kr.upE w_38 e_42 (ext_up e_42 (And.left g_40) (by decide)) (And.left g_40) (fx_f (j := 0) (Kr.fix w_38) g_40 (by decide +kernel)) g_40 (by decide) (by first | exact Or.inl (by decide) | exact Or.inr (by decide))
  have g_48 := Ext.ok E_45 g_40
  obtain ⟨m_49, e_50, h⟩ := up_s h
  have E_53 := ext_up e_50 (And.left g_48) (by decide)
  have w_54 := Kr.upE w_46 e_50 (ext_up e_50 (And.left g_48) (by decide)) (And.left g_48) (fx_f (j := 1) (Kr.fix w_46) g_48 (by decide +kernel)) g_48 (by decide) (by first | exact Or.inl (by decide) | exact Or.inr (by decide))
  have g_56 := Ext.ok E_53 g_48
  obtain ⟨m_57, e_58, h⟩ := up_s h
  have E_61 := ext_up e_58 (And.left g_56) (by decide)
  have w_62 := Kr.upE w_54 e_58 (ext_up e_58 (And.left g_56) (by decide)) (And.left g_56) (fx_f (j := 2) (Kr.fix w_54) g_56 (by decide +kernel)) g_56 (by decide) (by first | exact Or.inl (by decide) | exact Or.inr (by decide))
  have g_64 := Ext.ok E_61 g_56
  obtain ⟨m_65, e_66, h⟩ := up_s h
  have E_69 := ext_up e_66 (And.left g_64) (by decide)
  have w_70 := Kr.upE w_62 e_66 (ext_up e_66 (And.left g_64) (by decide)) (And.left g_64) (fx_f (j := 3) (Kr.fix w_62) g_64 (by decide +kernel)) g_64 (by decide) (by first | exact Or.inl (by decide) | exact Or.inr (by decide))
  have g_72 := Ext.ok E_69 g_64
  obtain ⟨m_73, e_74, h⟩ := up_s h
  have E_77 := ext_up e_74 (And.left g_72) (by decide)
  have w_78 := Kr.upE w_70 e_74 (ext_up e_74 (And.left g_72) (by decide)) (And.left g_72) (fx_f (j := 4) (Kr.fix w_70) g_72 (by decide +kernel)) g_72 (by decide) (by first | exact Or.inl (by decide) | exact Or.inr (by decide))
  cases h
  exact hQ w_78
set_option maxHeartbeats 4000000 in
theorem kw_X9_init {m0 : MM} {p0 p1 p2 p3 : Int} {rz : Int} {rm : MM} (hF : Fix m0) (g0 : okc m0 p0 10)
  (h : fm_X9_init p0 p1 p2 p3 m0 = some (rz, rm)) : Kr fW_X9_init p0 0 m0 rm := by
  have hQ : Kr fW_X9_init p0 0 m0 rm → Kr fW_X9_init p0 0 m0 rm := id
  unfold fm_X9_init at h
  obtain ⟨m_3, e_4, h⟩ := up_s h
  have E_7 := ext_up e_4 (And.left g0) (by decide)
  have w_8 := Kr.upE (Kr.rf (W := fW_X9_init) (e := p0) hF) e_4 (ext_up e_4 (And.left g0) (by decide)) (And.left g0) (fx_f (j := 5) hF g0 (by decide +kernel)) g0 (by decide) (by first | exact Or.inl (by decide) | exact Or.inr (by decide))
  have g_10 := Ext.ok E_7 g0
  obtain ⟨m_11, e_12, h⟩ := up_s h
  have E_15 := ext_up e_12 (And.left g_10) (by decide)
  have w_16 := Kr.upE w_8 e_12 (ext_up e_12 (And.left g_10) (by decide)) (And.left g_10) (fx_f (j := 0) (Kr.fix w_8) g_10 (by decide +kernel)) g_10 (by decide) (by first | exact Or.inl (by decide) | exact Or.inr (by decide))
  have g_18 := Ext.ok E_15 g_10
  obtain ⟨m_19, e_20, h⟩ := up_s h
  have E_23 := ext_up e_20 (And.left g_18) (by decide)
  have w_24 := Kr.upE w_16 e_20 (ext_up e_20 (And.left g_18) (by decide)) (And.left g_18) (fx_f (j := 1) (Kr.fix w_16) g_18 (by decide +kernel)) g_18 (by decide) (by first | exact Or.inl (by decide) | exact Or.inr (by decide))
  have g_26 := Ext.ok E_23 g_18
  obtain ⟨m_27, e_28, h⟩ := up_s h
  have E_31 := ext_up e_28 (And.left g_26) (by decide)
  have w_32 := Kr.upE w_24 e_28 (ext_up e_28 (And.left g_26) (by decide)) (And.left g_26) (fx_f (j := 2) (Kr.fix w_24) g_26 (by decide +kernel)) g_26 (by decide) (by first | exact Or.inl (by decide) | exact Or.inr (by decide))
  obtain ⟨g_36, h⟩ := gd_s h
  obtain ⟨x_38, e_39, h⟩ := lx_s h
  obtain ⟨g_42, h⟩ := gd_s h
  obtain ⟨x_44, e_45, h⟩ := lx_s h
  have g_46 := Ext.ok E_31 g_26
  obtain ⟨m_47, e_48, h⟩ := up_s h
  have E_51 := ext_up e_48 (And.left g_46) (by decide)
  have w_52 := Kr.upE w_32 e_48 (ext_up e_48 (And.left g_46) (by decide)) (And.left g_46) (fx_f (j := 3) (Kr.fix w_32) g_46 (by decide +kernel)) g_46 (by decide) (by first | exact Or.inl (by decide) | exact Or.inr (by decide))
  have g_54 := Ext.ok E_51 g_36
  obtain ⟨x_56, hc_55, h⟩ := bp_s h
  have g_64 := Ext.ok E_51 g_46
  obtain ⟨m_65, e_66, h⟩ := up_s h
  have E_69 := ext_up e_66 (And.left g_64) (by decide)
  have w_70 := Kr.upE w_52 e_66 (ext_up e_66 (And.left g_64) (by decide)) (And.left g_64) (fx_f (j := 4) (Kr.fix w_52) g_64 (by decide +kernel)) g_64 (by decide) (by first | exact Or.inl (by decide) | exact Or.inr (by decide))
  cases h
  exact hQ w_70
set_option maxHeartbeats 4000000 in
theorem kw_X10_draftBecomesVersion {m0 : MM} {p0 : Int} {rz : Int} {rm : MM} (hF : Fix m0) (g0 : okc m0 p0 11) (hT : isT p0)
  (h : fm_X10_draftBecomesVersion p0 m0 = some (rz, rm)) : Kr fW_X10_draftBecomesVersion 0 0 m0 rm := by
  have hQ : ∀ {d : (Int → Int → Int) → Int}, Kd fW_X10_draftBecomesVersion 0 d m0 rm → (∀ g, GOK g → d g ≤ 0 * g 99 0) → Kr fW_X10_draftBecomesVersion 0 0 m0 rm := fun w h => Kd.le w h
  unfold fm_X10_draftBecomesVersion at h
  obtain ⟨x_4, e_5, h⟩ := lx_s h
  obtain ⟨x_9, e_10, h⟩ := lx_s h
  obtain ⟨g_11, h⟩ := gd_s h
  obtain ⟨x_13, m_14, hc_12, h⟩ := bd_s h
  have w_21 := (kd_ladd hF g_11 hc_12)
  have E_19 := Kd.ext w_21
  have w_22 := Kd.tr0 (Kd.rf (W := fW_X10_draftBecomesVersion) (e := 0) hF) w_21 (by decide +kernel)
  obtain ⟨x_24, m_25, e_26, e_27, h⟩ := nw_s h
  have g_33 := okc_nwF (c := 6) (Kd.fix w_22) e_26 e_27
  have E_32 := ext_nw (Kd.fix w_22) e_27
  have n_34 := Kd.nge w_22 e_26
  have w_35 := Kd.nw (kd := 6) (kz := 6) rfl w_22 e_27 (by decide +kernel)
  obtain ⟨x_38, m_39, hc_37, h⟩ := bd_s h
  have w_46 := (kw_X5_init (Kd.fix w_35) g_33 hc_37)
  have E_44 := Kd.ext w_46
  have w_47 := Kd.trN w_35 w_46 n_34 (by decide +kernel)
  have g_49 := Ext.ok (Ext.tr (Ext.tr E_19 E_32) E_44) g0
  obtain ⟨m_50, e_51, h⟩ := up_s h
  have E_54 := ext_up e_51 (And.left g_49) (by decide)
  have w_55 := Kd.upK (y := 1) w_47 e_51 (ext_up e_51 (And.left g_49) (by decide)) (And.left g_49) (fx_f (j := 1) (Kd.fix w_47) g_49 (by decide +kernel)) g_49 (Or.inr rfl) (by decide +kernel) g_49 (by decide) (by first | exact Or.inl (by decide) | exact Or.inr (by decide))
  cases h
  exact hQ w_55 (fun g hg => by have q1 := hg.1 99 0; have qT := uo_t (g := g) hF hT; (try rw [← e_5] at qT); (try rw [← e_10] at qT); (try simp only [tn, uo_7, uo_8, uo_9, uo_10]); (try simp only [uRun]); omega)
set_option maxHeartbeats 4000000 in
theorem kw_X11_typeAt {m0 : MM} {p1 : Int} {rr : Int ⊕ Nat} {rm : MM} (hF : Fix m0)
  (h : fm_X11_typeAt p1 m0 = some (rr, rm)) : Kr fW_X11_typeAt 0 (tn rr) m0 rm := by
  have hQ : Kr fW_X11_typeAt 0 (tn rr) m0 rm → Kr fW_X11_typeAt 0 (tn rr) m0 rm := id
  unfold fm_X11_typeAt at h
  rcases it_s h with ⟨hp_1, h⟩ | ⟨hp_1, h⟩
  · cases h
    exact hQ (Kr.thr (Kr.rf (W := fW_X11_typeAt) (e := 0) hF) (by decide +kernel))
  · rcases it_s h with ⟨hp_8, h⟩ | ⟨hp_8, h⟩
    · obtain ⟨g_14, h⟩ := gd_s h
      obtain ⟨x_16, e_17, h⟩ := lx_s h
      cases h
      exact hQ (Kr.rf (W := fW_X11_typeAt) (e := 0) hF)
    · cases h
      exact hQ (Kr.thr (Kr.rf (W := fW_X11_typeAt) (e := 0) hF) (by decide +kernel))
set_option maxHeartbeats 4000000 in
theorem kwj_X11_line_53 {P : Prop} {m : MM} {y2 y3 y4 y5 s0 : Int} {rr : Int ⊕ Nat} {rm : MM} (hF : Fix m) (hQ : Kr fW_X11_line 0 (tn rr) m rm → P)
  (h : fj_X11_line_53 y2 y3 y4 y5 s0 m = some (rr, rm)) : P := by
  unfold fj_X11_line_53 at h
  rcases it_s h with ⟨hp_49, h⟩ | ⟨hp_49, h⟩
  · cases h
    exact hQ (Kr.thr (Kr.rf (W := fW_X11_line) (e := 0) hF) (by decide +kernel))
  · obtain ⟨g_54, h⟩ := gd_s h
    rcases it_s h with ⟨hp_55, h⟩ | ⟨hp_55, h⟩
    · cases h
      exact hQ (Kr.thr (Kr.rf (W := fW_X11_line) (e := 0) hF) (by decide +kernel))
    · rcases it_s h with ⟨hp_56, h⟩ | ⟨hp_56, h⟩
      · cases h
        exact hQ (Kr.thr (Kr.rf (W := fW_X11_line) (e := 0) hF) (by decide +kernel))
      · rcases it_s h with ⟨hp_61, h⟩ | ⟨hp_61, h⟩
        · cases h
          exact hQ (Kr.thr (Kr.rf (W := fW_X11_line) (e := 0) hF) (by decide +kernel))
        · obtain ⟨g_64, h⟩ := gd_s h
          obtain ⟨x_66, e_67, h⟩ := lx_s h
          obtain ⟨g_70, h⟩ := gd_s h
          obtain ⟨x_72, e_73, h⟩ := lx_s h
          rcases it_s h with ⟨hp_76, h⟩ | ⟨hp_76, h⟩
          · obtain ⟨x_81, hc_80, h⟩ := bp_s h
            obtain ⟨x_92, m_93, hc_91, h⟩ := bd_s h
            have w_100 := (kw_X5_add hF g_70 hc_91)
            have E_98 := Kr.ext w_100
            have w_101 := Kr.tr0 (Kr.rf (W := fW_X11_line) (e := 0) hF) w_100 (by decide +kernel)
            have g_105 := Ext.ok E_98 g_64
            obtain ⟨x_107, e_108, h⟩ := lx_s h
            obtain ⟨g_111, h⟩ := gd_s h
            obtain ⟨x_113, e_114, h⟩ := lx_s h
            cases h
            exact hQ w_101
          · cases h
            exact hQ (Kr.thr (Kr.rf (W := fW_X11_line) (e := 0) hF) (by decide +kernel))
set_option maxHeartbeats 4000000 in
theorem kw_X11_line {m0 : MM} {p1 p2 p3 p4 : Int} {rr : Int ⊕ Nat} {rm : MM} (hF : Fix m0)
  (h : fm_X11_line p1 p2 p3 p4 m0 = some (rr, rm)) : Kr fW_X11_line 0 (tn rr) m0 rm := by
  have hQ : Kr fW_X11_line 0 (tn rr) m0 rm → Kr fW_X11_line 0 (tn rr) m0 rm := id
  unfold fm_X11_line at h
  obtain ⟨rr5, m_3, hc_1, h⟩ := bx_s h
  rcases h with ⟨q_10, rfl, h⟩ | ⟨x_2, rfl, h⟩
  · cases h
    have w_12 := (kw_X11_typeAt hF hc_1)
    have E_8 := Kr.ext w_12
    have w_13 := Kr.tr0 (Kr.rf (W := fW_X11_line) (e := 0) hF) w_12 (by decide +kernel)
    exact hQ w_13
  have w_14 := (kw_X11_typeAt hF hc_1)
  have E_8 := Kr.ext w_14
  have w_15 := Kr.tr0 (Kr.rf (W := fW_X11_line) (e := 0) hF) w_14 (by decide +kernel)
  rcases it_s h with ⟨hp_23, h⟩ | ⟨hp_23, h⟩
  · cases h
    exact hQ (Kr.thr w_15 (by decide +kernel))
  · rcases it_s h with ⟨hp_26, h⟩ | ⟨hp_26, h⟩
    · cases h
      exact hQ (Kr.thr w_15 (by decide +kernel))
    · rcases it_s h with ⟨hp_31, h⟩ | ⟨hp_31, h⟩
      · rcases it_s h with ⟨hp_36, h⟩ | ⟨hp_36, h⟩
        · rcases it_s h with ⟨hp_39, h⟩ | ⟨hp_39, h⟩
          · exact kwj_X11_line_53 (Kr.fix w_15) (fun f => hQ (Kr.trS w_15 f)) h
          · exact kwj_X11_line_53 (Kr.fix w_15) (fun f => hQ (Kr.trS w_15 f)) h
        · cases h
          exact hQ (Kr.thr w_15 (by decide +kernel))
      · cases h
        exact hQ (Kr.thr w_15 (by decide +kernel))
set_option maxHeartbeats 4000000 in
theorem kw_X11_deploy {m0 : MM} {p1 : Int} {rr : Int ⊕ Nat} {rm : MM} (hF : Fix m0)
  (h : fm_X11_deploy p1 m0 = some (rr, rm)) : Kr fW_X11_deploy 0 (tn rr) m0 rm := by
  have hQ : Kr fW_X11_deploy 0 (tn rr) m0 rm → Kr fW_X11_deploy 0 (tn rr) m0 rm := id
  unfold fm_X11_deploy at h
  obtain ⟨rr5, m_3, hc_1, h⟩ := bx_s h
  rcases h with ⟨q_10, rfl, h⟩ | ⟨x_2, rfl, h⟩
  · cases h
    have w_12 := (kw_X11_typeAt hF hc_1)
    have E_8 := Kr.ext w_12
    have w_13 := Kr.tr0 (Kr.rf (W := fW_X11_deploy) (e := 0) hF) w_12 (by decide +kernel)
    exact hQ w_13
  have w_14 := (kw_X11_typeAt hF hc_1)
  have E_8 := Kr.ext w_14
  have w_15 := Kr.tr0 (Kr.rf (W := fW_X11_deploy) (e := 0) hF) w_14 (by decide +kernel)
  obtain ⟨g_22, h⟩ := gd_s h
  obtain ⟨x_24, e_25, h⟩ := lx_s h
  obtain ⟨g_28, h⟩ := gd_s h
  obtain ⟨x_30, e_31, h⟩ := lx_s h
  rcases it_s h with ⟨hp_32, h⟩ | ⟨hp_32, h⟩
  · cases h
    exact hQ (Kr.thr w_15 (by decide +kernel))
  · obtain ⟨x_36, e_37, h⟩ := lx_s h
    obtain ⟨g_38, h⟩ := gd_s h
    obtain ⟨x_40, hc_39, h⟩ := bp_s h
    rcases it_s h with ⟨hp_50, h⟩ | ⟨hp_50, h⟩
    · obtain ⟨x_52, m_53, hc_51, h⟩ := bd_s h
      have w_60 := (kw_X10_draftBecomesVersion (Kr.fix w_15) g_22 (ty_isT hF hc_1) hc_51)
      have E_58 := Kr.ext w_60
      have w_61 := Kr.tr0 w_15 w_60 (by decide +kernel)
      have g_65 := Ext.ok E_58 g_22
      obtain ⟨x_67, e_68, h⟩ := lx_s h
      obtain ⟨g_69, h⟩ := gd_s h
      obtain ⟨x_71, hc_70, h⟩ := bp_s h
      cases h
      exact hQ w_61
    · cases h
      exact hQ (Kr.thr w_15 (by decide +kernel))
set_option maxHeartbeats 4000000 in
theorem kw_X11_kindAt {m0 : MM} {p1 : Int} {rr : Int ⊕ Nat} {rm : MM} (hF : Fix m0)
  (h : fm_X11_kindAt p1 m0 = some (rr, rm)) : Kr fW_X11_kindAt 0 (tn rr) m0 rm := by
  have hQ : Kr fW_X11_kindAt 0 (tn rr) m0 rm → Kr fW_X11_kindAt 0 (tn rr) m0 rm := id
  unfold fm_X11_kindAt at h
  rcases it_s h with ⟨hp_1, h⟩ | ⟨hp_1, h⟩
  · cases h
    exact hQ (Kr.thr (Kr.rf (W := fW_X11_kindAt) (e := 0) hF) (by decide +kernel))
  · rcases it_s h with ⟨hp_8, h⟩ | ⟨hp_8, h⟩
    · obtain ⟨g_14, h⟩ := gd_s h
      obtain ⟨x_16, e_17, h⟩ := lx_s h
      cases h
      exact hQ (Kr.rf (W := fW_X11_kindAt) (e := 0) hF)
    · cases h
      exact hQ (Kr.thr (Kr.rf (W := fW_X11_kindAt) (e := 0) hF) (by decide +kernel))
set_option maxHeartbeats 4000000 in
theorem kw_X11_setKind {m0 : MM} {p1 p2 p3 p4 p5 p6 : Int} {rr : Int ⊕ Nat} {rm : MM} (hF : Fix m0)
  (h : fm_X11_setKind p1 p2 p3 p4 p5 p6 m0 = some (rr, rm)) : Kr fW_X11_setKind 0 (tn rr) m0 rm := by
  have hQ : Kr fW_X11_setKind 0 (tn rr) m0 rm → Kr fW_X11_setKind 0 (tn rr) m0 rm := id
  unfold fm_X11_setKind at h
  obtain ⟨rr5, m_3, hc_1, h⟩ := bx_s h
  rcases h with ⟨q_10, rfl, h⟩ | ⟨x_2, rfl, h⟩
  · cases h
    have w_12 := (kw_X11_kindAt hF hc_1)
    have E_8 := Kr.ext w_12
    have w_13 := Kr.tr0 (Kr.rf (W := fW_X11_setKind) (e := 0) hF) w_12 (by decide +kernel)
    exact hQ w_13
  have w_14 := (kw_X11_kindAt hF hc_1)
  have E_8 := Kr.ext w_14
  have w_15 := Kr.tr0 (Kr.rf (W := fW_X11_setKind) (e := 0) hF) w_14 (by decide +kernel)
  rcases it_s h with ⟨hp_27, h⟩ | ⟨hp_27, h⟩
  · cases h
    exact hQ (Kr.thr w_15 (by decide +kernel))
  · rcases it_s h with ⟨hp_30, h⟩ | ⟨hp_30, h⟩
    · cases h
      exact hQ (Kr.thr w_15 (by decide +kernel))
    · rcases it_s h with ⟨hp_31, h⟩ | ⟨hp_31, h⟩
      · cases h
        exact hQ (Kr.thr w_15 (by decide +kernel))
      · rcases it_s h with ⟨hp_34, h⟩ | ⟨hp_34, h⟩
        · cases h
          exact hQ (Kr.thr w_15 (by decide +kernel))
        · rcases it_s h with ⟨hp_35, h⟩ | ⟨hp_35, h⟩
          · cases h
            exact hQ (Kr.thr w_15 (by decide +kernel))
          · rcases it_s h with ⟨hp_38, h⟩ | ⟨hp_38, h⟩
            · cases h
              exact hQ (Kr.thr w_15 (by decide +kernel))
            · rcases it_s h with ⟨hp_39, h⟩ | ⟨hp_39, h⟩
              · cases h
                exact hQ (Kr.thr w_15 (by decide +kernel))
              · rcases it_s h with ⟨hp_42, h⟩ | ⟨hp_42, h⟩
                · cases h
                  exact hQ (Kr.thr w_15 (by decide +kernel))
                · rcases it_s h with ⟨hp_43, h⟩ | ⟨hp_43, h⟩
                  · cases h
                    exact hQ (Kr.thr w_15 (by decide +kernel))
                  · rcases it_s h with ⟨hp_46, h⟩ | ⟨hp_46, h⟩
                    · cases h
                      exact hQ (Kr.thr w_15 (by decide +kernel))
                    · obtain ⟨g_47, h⟩ := gd_s h
                      obtain ⟨m_48, e_49, h⟩ := up_s h
                      have E_52 := ext_up e_49 (And.left g_47) (by decide)
                      have w_53 := Kr.upK (y := 0) w_15 e_49 (ext_up e_49 (And.left g_47) (by decide)) (And.left g_47) (fx_f (j := 0) (Kr.fix w_15) g_47 (by decide +kernel)) g_47 (Or.inr rfl) (by decide +kernel) g_47 (by decide) (by first | exact Or.inl (by decide) | exact Or.inr (by decide))
                      have g_55 := Ext.ok E_52 g_47
                      obtain ⟨m_56, e_57, h⟩ := up_s h
                      have E_60 := ext_up e_57 (And.left g_55) (by decide)
                      have w_61 := Kr.upK (y := 1) w_53 e_57 (ext_up e_57 (And.left g_55) (by decide)) (And.left g_55) (fx_f (j := 1) (Kr.fix w_53) g_55 (by decide +kernel)) g_55 (Or.inr rfl) (by decide +kernel) g_55 (by decide) (by first | exact Or.inl (by decide) | exact Or.inr (by decide))
                      have g_63 := Ext.ok E_60 g_55
                      obtain ⟨m_64, e_65, h⟩ := up_s h
                      have E_68 := ext_up e_65 (And.left g_63) (by decide)
                      have w_69 := Kr.upK (y := 2) w_61 e_65 (ext_up e_65 (And.left g_63) (by decide)) (And.left g_63) (fx_f (j := 2) (Kr.fix w_61) g_63 (by decide +kernel)) g_63 (Or.inr rfl) (by decide +kernel) g_63 (by decide) (by first | exact Or.inl (by decide) | exact Or.inr (by decide))
                      have g_71 := Ext.ok E_68 g_63
                      obtain ⟨m_72, e_73, h⟩ := up_s h
                      have E_76 := ext_up e_73 (And.left g_71) (by decide)
                      have w_77 := Kr.upK (y := 3) w_69 e_73 (ext_up e_73 (And.left g_71) (by decide)) (And.left g_71) (fx_f (j := 3) (Kr.fix w_69) g_71 (by decide +kernel)) g_71 (Or.inr rfl) (by decide +kernel) g_71 (by decide) (by first | exact Or.inl (by decide) | exact Or.inr (by decide))
                      have g_79 := Ext.ok E_76 g_71
                      obtain ⟨m_80, e_81, h⟩ := up_s h
                      have E_84 := ext_up e_81 (And.left g_79) (by decide)
                      have w_85 := Kr.upK (y := 4) w_77 e_81 (ext_up e_81 (And.left g_79) (by decide)) (And.left g_79) (fx_f (j := 4) (Kr.fix w_77) g_79 (by decide +kernel)) g_79 (Or.inr rfl) (by decide +kernel) g_79 (by decide) (by first | exact Or.inl (by decide) | exact Or.inr (by decide))
                      cases h
                      exact hQ w_85
set_option maxHeartbeats 4000000 in
theorem kw_X11_setPolicy {m0 : MM} {p1 p2 : Int} {rr : Int ⊕ Nat} {rm : MM} (hF : Fix m0)
  (h : fm_X11_setPolicy p1 p2 m0 = some (rr, rm)) : Kr fW_X11_setPolicy 0 (tn rr) m0 rm := by
  have hQ : Kr fW_X11_setPolicy 0 (tn rr) m0 rm → Kr fW_X11_setPolicy 0 (tn rr) m0 rm := id
  unfold fm_X11_setPolicy at h
  obtain ⟨rr5, m_3, hc_1, h⟩ := bx_s h
  rcases h with ⟨q_10, rfl, h⟩ | ⟨x_2, rfl, h⟩
  · cases h
    have w_12 := (kw_X11_typeAt hF hc_1)
    have E_8 := Kr.ext w_12
    have w_13 := Kr.tr0 (Kr.rf (W := fW_X11_setPolicy) (e := 0) hF) w_12 (by decide +kernel)
    exact hQ w_13
  have w_14 := (kw_X11_typeAt hF hc_1)
  have E_8 := Kr.ext w_14
  have w_15 := Kr.tr0 (Kr.rf (W := fW_X11_setPolicy) (e := 0) hF) w_14 (by decide +kernel)
  rcases it_s h with ⟨hp_21, h⟩ | ⟨hp_21, h⟩
  · cases h
    exact hQ (Kr.thr w_15 (by decide +kernel))
  · rcases it_s h with ⟨hp_24, h⟩ | ⟨hp_24, h⟩
    · cases h
      exact hQ (Kr.thr w_15 (by decide +kernel))
    · obtain ⟨g_27, h⟩ := gd_s h
      obtain ⟨x_29, e_30, h⟩ := lx_s h
      obtain ⟨m_36, e_37, h⟩ := up_s h
      have E_40 := ext_up e_37 (And.left g_27) (by decide)
      have w_41 := Kr.upK (y := 2) w_15 e_37 (ext_up e_37 (And.left g_27) (by decide)) (And.left g_27) (fx_f (j := 2) (Kr.fix w_15) g_27 (by decide +kernel)) g_27 (Or.inr rfl) (by decide +kernel) g_27 (by decide) (by first | exact Or.inl (by decide) | exact Or.inr (by decide))
      cases h
      exact hQ w_41
set_option maxHeartbeats 4000000 in
theorem kw_X11_checkTenant {m0 : MM} {p1 : Int} {rr : Int ⊕ Nat} {rm : MM} (hF : Fix m0)
  (h : fm_X11_checkTenant p1 m0 = some (rr, rm)) : Kr fW_X11_checkTenant 0 (tn rr) m0 rm := by
  have hQ : Kr fW_X11_checkTenant 0 (tn rr) m0 rm → Kr fW_X11_checkTenant 0 (tn rr) m0 rm := id
  unfold fm_X11_checkTenant at h
  rcases it_s h with ⟨hp_1, h⟩ | ⟨hp_1, h⟩
  · cases h
    exact hQ (Kr.thr (Kr.rf (W := fW_X11_checkTenant) (e := 0) hF) (by decide +kernel))
  · rcases it_s h with ⟨hp_4, h⟩ | ⟨hp_4, h⟩
    · cases h
      exact hQ (Kr.rf (W := fW_X11_checkTenant) (e := 0) hF)
    · cases h
      exact hQ (Kr.thr (Kr.rf (W := fW_X11_checkTenant) (e := 0) hF) (by decide +kernel))
set_option maxHeartbeats 4000000 in
theorem kw_X11_checkValue {m0 : MM} {p1 : Int} {rr : Int ⊕ Nat} {rm : MM} (hF : Fix m0)
  (h : fm_X11_checkValue p1 m0 = some (rr, rm)) : Kr fW_X11_checkValue 0 (tn rr) m0 rm := by
  have hQ : Kr fW_X11_checkValue 0 (tn rr) m0 rm → Kr fW_X11_checkValue 0 (tn rr) m0 rm := id
  unfold fm_X11_checkValue at h
  rcases it_s h with ⟨hp_1, h⟩ | ⟨hp_1, h⟩
  · cases h
    exact hQ (Kr.thr (Kr.rf (W := fW_X11_checkValue) (e := 0) hF) (by decide +kernel))
  · rcases it_s h with ⟨hp_4, h⟩ | ⟨hp_4, h⟩
    · cases h
      exact hQ (Kr.thr (Kr.rf (W := fW_X11_checkValue) (e := 0) hF) (by decide +kernel))
    · cases h
      exact hQ (Kr.rf (W := fW_X11_checkValue) (e := 0) hF)
set_option maxHeartbeats 4000000 in
theorem kw_X11_addRun {m0 : MM} {p1 p2 p3 p4 p5 : Int} {rz : Int} {rm : MM} (hF : Fix m0)
  (h : fm_X11_addRun p1 p2 p3 p4 p5 m0 = some (rz, rm)) : Kr fW_X11_addRun 0 0 m0 rm := by
  have hQ : ∀ {d : (Int → Int → Int) → Int}, Kd fW_X11_addRun 0 d m0 rm → (∀ g, GOK g → d g ≤ 0 * g 99 0) → Kr fW_X11_addRun 0 0 m0 rm := fun w h => Kd.le w h
  unfold fm_X11_addRun at h
  obtain ⟨x_1, m_2, e_3, e_4, h⟩ := nw_s h
  have g_10 := okc_nwF (c := 7) hF e_3 e_4
  have E_9 := ext_nw hF e_4
  have n_11 := Kd.nge (Kd.rf (W := fW_X11_addRun) (e := 0) hF) e_3
  have w_12 := Kd.nw (kd := 7) (kz := 7) rfl (Kd.rf (W := fW_X11_addRun) (e := 0) hF) e_4 (by decide +kernel)
  obtain ⟨x_18, hc_17, h⟩ := bp_s h
  obtain ⟨x_27, m_28, hc_26, h⟩ := bd_s h
  have w_35 := (kd_X6_init (Kd.fix w_12) g_10 hc_26)
  have E_33 := Kd.ext w_35
  have w_36 := Kd.trN w_12 w_35 n_11 (by decide +kernel)
  obtain ⟨x_46, m_47, hc_45, h⟩ := bd_s h
  have w_54 := (kd_ladd (Kd.fix w_36) (fx_kF (c := 0) (Kd.fix w_36) (by decide +kernel)) hc_45)
  have E_52 := Kd.ext w_54
  have w_55 := Kd.tr0 w_36 w_54 (by decide +kernel)
  cases h
  exact hQ w_55 (fun g hg => by have q1 := hg.1 99 0; (try simp only [tn, uo_7, uo_8, uo_9, uo_10]); (try simp only [uRun]); omega)
set_option maxHeartbeats 4000000 in
theorem kw_X11_arrive {m0 : MM} {p1 p2 p3 p4 : Int} {rz : Int} {rm : MM} (hF : Fix m0)
  (h : fm_X11_arrive p1 p2 p3 p4 m0 = some (rz, rm)) : Kr fW_X11_arrive 0 0 m0 rm := by
  have hQ : Kr fW_X11_arrive 0 0 m0 rm → Kr fW_X11_arrive 0 0 m0 rm := id
  unfold fm_X11_arrive at h
  obtain ⟨g_3, h⟩ := gd_s h
  obtain ⟨x_5, e_6, h⟩ := lx_s h
  obtain ⟨x_10, e_11, h⟩ := lx_s h
  obtain ⟨x_15, e_16, h⟩ := lx_s h
  obtain ⟨g_17, h⟩ := gd_s h
  obtain ⟨x_19, m_20, hc_18, h⟩ := bd_s h
  have w_27 := (kw_X2_put hF g_17 hc_18)
  have E_25 := Kr.ext w_27
  have w_28 := Kr.tr0 (Kr.rf (W := fW_X11_arrive) (e := 0) hF) w_27 (by decide +kernel)
  obtain ⟨x_33, e_34, h⟩ := lx_s h
  obtain ⟨m_39, e_40, h⟩ := up_s h
  have E_43 := ext_up e_40 (And.left (fx_kF (c := 12) (Kr.fix w_28) (by decide +kernel))) (by decide)
  have w_44 := Kr.upC (y := 16) w_28 e_40 (ext_up e_40 (And.left (fx_kF (c := 12) (Kr.fix w_28) (by decide +kernel))) (by decide)) (And.left (fx_kF (c := 12) (Kr.fix w_28) (by decide +kernel))) (fx_f (j := 16) (Kr.fix w_28) (fx_kF (c := 12) (Kr.fix w_28) (by decide +kernel)) (by decide +kernel)) (Or.inr rfl) (by decide +kernel) (fx_kF (c := 12) (Kr.fix w_28) (by decide +kernel)) (by decide) (by first | exact Or.inl (by decide) | exact Or.inr (by decide))
  cases h
  exact hQ w_44
set_option maxHeartbeats 4000000 in
theorem kw_X11_startRun {m0 : MM} {p1 p2 p3 p4 p5 : Int} {rz : Int} {rm : MM} (hF : Fix m0)
  (h : fm_X11_startRun p1 p2 p3 p4 p5 m0 = some (rz, rm)) : Kr fW_X11_startRun 0 0 m0 rm := by
  have hQ : Kr fW_X11_startRun 0 0 m0 rm → Kr fW_X11_startRun 0 0 m0 rm := id
  unfold fm_X11_startRun at h
  obtain ⟨x_11, hc_10, h⟩ := bp_s h
  obtain ⟨g_21, h⟩ := gd_s h
  obtain ⟨x_23, e_24, h⟩ := lx_s h
  obtain ⟨g_27, h⟩ := gd_s h
  obtain ⟨x_29, e_30, h⟩ := lx_s h
  obtain ⟨g_31, h⟩ := gd_s h
  obtain ⟨x_33, hc_32, h⟩ := bp_s h
  obtain ⟨x_45, e_46, h⟩ := lx_s h
  obtain ⟨x_58, m_59, hc_57, h⟩ := bd_s h
  have w_66 := (kw_X11_addRun hF hc_57)
  have E_64 := Kr.ext w_66
  have w_67 := Kr.tr0 (Kr.rf (W := fW_X11_startRun) (e := 0) hF) w_66 (by decide +kernel)
  obtain ⟨x_79, m_80, hc_78, h⟩ := bd_s h
  have w_87 := (kw_X11_arrive (Kr.fix w_67) hc_78)
  have E_85 := Kr.ext w_87
  have w_88 := Kr.tr0 w_67 w_87 (by decide +kernel)
  cases h
  exact hQ w_88
set_option maxHeartbeats 4000000 in
theorem kw_X11_begin {m0 : MM} {p1 p2 p3 : Int} {rr : Int ⊕ Nat} {rm : MM} (hF : Fix m0)
  (h : fm_X11_begin p1 p2 p3 m0 = some (rr, rm)) : Kr fW_X11_begin 0 (tn rr) m0 rm := by
  have hQ : Kr fW_X11_begin 0 (tn rr) m0 rm → Kr fW_X11_begin 0 (tn rr) m0 rm := id
  unfold fm_X11_begin at h
  obtain ⟨rr5, m_3, hc_1, h⟩ := bx_s h
  rcases h with ⟨q_10, rfl, h⟩ | ⟨x_2, rfl, h⟩
  · cases h
    have w_12 := (kw_X11_typeAt hF hc_1)
    have E_8 := Kr.ext w_12
    have w_13 := Kr.tr0 (Kr.rf (W := fW_X11_begin) (e := 0) hF) w_12 (by decide +kernel)
    exact hQ w_13
  have w_14 := (kw_X11_typeAt hF hc_1)
  have E_8 := Kr.ext w_14
  have w_15 := Kr.tr0 (Kr.rf (W := fW_X11_begin) (e := 0) hF) w_14 (by decide +kernel)
  obtain ⟨rr5, m_26, hc_24, h⟩ := bx_s h
  rcases h with ⟨q_33, rfl, h⟩ | ⟨x_25, rfl, h⟩
  · cases h
    have w_35 := (kw_X11_checkTenant (Kr.fix w_15) hc_24)
    have E_31 := Kr.ext w_35
    have w_36 := Kr.tr0 w_15 w_35 (by decide +kernel)
    exact hQ w_36
  have w_37 := (kw_X11_checkTenant (Kr.fix w_15) hc_24)
  have E_31 := Kr.ext w_37
  have w_38 := Kr.tr0 w_15 w_37 (by decide +kernel)
  obtain ⟨rr5, m_42, hc_40, h⟩ := bx_s h
  rcases h with ⟨q_49, rfl, h⟩ | ⟨x_41, rfl, h⟩
  · cases h
    have w_51 := (kw_X11_checkValue (Kr.fix w_38) hc_40)
    have E_47 := Kr.ext w_51
    have w_52 := Kr.tr0 w_38 w_51 (by decide +kernel)
    exact hQ w_52
  have w_53 := (kw_X11_checkValue (Kr.fix w_38) hc_40)
  have E_47 := Kr.ext w_53
  have w_54 := Kr.tr0 w_38 w_53 (by decide +kernel)
  obtain ⟨g_58, h⟩ := gd_s h
  obtain ⟨x_60, e_61, h⟩ := lx_s h
  obtain ⟨g_62, h⟩ := gd_s h
  obtain ⟨x_64, hc_63, h⟩ := bp_s h
  rcases it_s h with ⟨hp_72, h⟩ | ⟨hp_72, h⟩
  · obtain ⟨x_77, hc_76, h⟩ := bp_s h
    rcases it_s h with ⟨hp_87, h⟩ | ⟨hp_87, h⟩
    · obtain ⟨x_93, m_94, hc_92, h⟩ := bd_s h
      have w_101 := (kw_X11_startRun (Kr.fix w_54) hc_92)
      have E_99 := Kr.ext w_101
      have w_102 := Kr.tr0 w_54 w_101 (by decide +kernel)
      obtain ⟨g_106, h⟩ := gd_s h
      obtain ⟨x_108, e_109, h⟩ := lx_s h
      cases h
      exact hQ w_102
    · cases h
      exact hQ (Kr.thr w_54 (by decide +kernel))
  · cases h
    exact hQ (Kr.thr w_54 (by decide +kernel))
set_option maxHeartbeats 4000000 in
theorem kw_X11_runAt {m0 : MM} {p1 : Int} {rr : Int ⊕ Nat} {rm : MM} (hF : Fix m0)
  (h : fm_X11_runAt p1 m0 = some (rr, rm)) : Kr fW_X11_runAt 0 (tn rr) m0 rm := by
  have hQ : Kr fW_X11_runAt 0 (tn rr) m0 rm → Kr fW_X11_runAt 0 (tn rr) m0 rm := id
  unfold fm_X11_runAt at h
  rcases it_s h with ⟨hp_1, h⟩ | ⟨hp_1, h⟩
  · cases h
    exact hQ (Kr.thr (Kr.rf (W := fW_X11_runAt) (e := 0) hF) (by decide +kernel))
  · obtain ⟨x_6, hc_5, h⟩ := bp_s h
    rcases it_s h with ⟨hp_14, h⟩ | ⟨hp_14, h⟩
    · obtain ⟨x_19, hc_18, h⟩ := bp_s h
      obtain ⟨g_27, h⟩ := gd_s h
      cases h
      exact hQ (Kr.rf (W := fW_X11_runAt) (e := 0) hF)
    · cases h
      exact hQ (Kr.thr (Kr.rf (W := fW_X11_runAt) (e := 0) hF) (by decide +kernel))
set_option maxHeartbeats 4000000 in
theorem kw_X11_checkName {m0 : MM} {p1 : Int} {rr : Int ⊕ Nat} {rm : MM} (hF : Fix m0)
  (h : fm_X11_checkName p1 m0 = some (rr, rm)) : Kr fW_X11_checkName 0 (tn rr) m0 rm := by
  have hQ : Kr fW_X11_checkName 0 (tn rr) m0 rm → Kr fW_X11_checkName 0 (tn rr) m0 rm := id
  unfold fm_X11_checkName at h
  rcases it_s h with ⟨hp_1, h⟩ | ⟨hp_1, h⟩
  · cases h
    exact hQ (Kr.thr (Kr.rf (W := fW_X11_checkName) (e := 0) hF) (by decide +kernel))
  · rcases it_s h with ⟨hp_4, h⟩ | ⟨hp_4, h⟩
    · cases h
      exact hQ (Kr.rf (W := fW_X11_checkName) (e := 0) hF)
    · cases h
      exact hQ (Kr.thr (Kr.rf (W := fW_X11_checkName) (e := 0) hF) (by decide +kernel))
set_option maxHeartbeats 4000000 in
theorem kw_X11_signal {m0 : MM} {p1 p2 p3 : Int} {rr : Int ⊕ Nat} {rm : MM} (hF : Fix m0)
  (h : fm_X11_signal p1 p2 p3 m0 = some (rr, rm)) : Kr fW_X11_signal 0 (tn rr) m0 rm := by
  have hQ : Kr fW_X11_signal 0 (tn rr) m0 rm → Kr fW_X11_signal 0 (tn rr) m0 rm := id
  unfold fm_X11_signal at h
  obtain ⟨rr5, m_3, hc_1, h⟩ := bx_s h
  rcases h with ⟨q_10, rfl, h⟩ | ⟨x_2, rfl, h⟩
  · cases h
    have w_12 := (kw_X11_runAt hF hc_1)
    have E_8 := Kr.ext w_12
    have w_13 := Kr.tr0 (Kr.rf (W := fW_X11_signal) (e := 0) hF) w_12 (by decide +kernel)
    exact hQ w_13
  have w_14 := (kw_X11_runAt hF hc_1)
  have E_8 := Kr.ext w_14
  have w_15 := Kr.tr0 (Kr.rf (W := fW_X11_signal) (e := 0) hF) w_14 (by decide +kernel)
  obtain ⟨rr5, m_25, hc_23, h⟩ := bx_s h
  rcases h with ⟨q_32, rfl, h⟩ | ⟨x_24, rfl, h⟩
  · cases h
    have w_34 := (kw_X11_checkName (Kr.fix w_15) hc_23)
    have E_30 := Kr.ext w_34
    have w_35 := Kr.tr0 w_15 w_34 (by decide +kernel)
    exact hQ w_35
  have w_36 := (kw_X11_checkName (Kr.fix w_15) hc_23)
  have E_30 := Kr.ext w_36
  have w_37 := Kr.tr0 w_15 w_36 (by decide +kernel)
  obtain ⟨rr5, m_41, hc_39, h⟩ := bx_s h
  rcases h with ⟨q_48, rfl, h⟩ | ⟨x_40, rfl, h⟩
  · cases h
    have w_50 := (kw_X11_checkValue (Kr.fix w_37) hc_39)
    have E_46 := Kr.ext w_50
    have w_51 := Kr.tr0 w_37 w_50 (by decide +kernel)
    exact hQ w_51
  have w_52 := (kw_X11_checkValue (Kr.fix w_37) hc_39)
  have E_46 := Kr.ext w_52
  have w_53 := Kr.tr0 w_37 w_52 (by decide +kernel)
  obtain ⟨g_55, h⟩ := gd_s h
  obtain ⟨x_57, hc_56, h⟩ := bp_s h
  rcases it_s h with ⟨hp_65, h⟩ | ⟨hp_65, h⟩
  · cases h
    exact hQ (Kr.thr w_53 (by decide +kernel))
  · obtain ⟨x_69, e_70, h⟩ := lx_s h
    obtain ⟨g_73, h⟩ := gd_s h
    obtain ⟨x_75, e_76, h⟩ := lx_s h
    rcases it_s h with ⟨hp_79, h⟩ | ⟨hp_79, h⟩
    · obtain ⟨x_83, m_84, hc_82, h⟩ := bd_s h
      have w_91 := (kw_X11_arrive (Kr.fix w_53) hc_82)
      have E_89 := Kr.ext w_91
      have w_92 := Kr.tr0 w_53 w_91 (by decide +kernel)
      have g_96 := Ext.ok E_89 g_55
      obtain ⟨x_98, e_99, h⟩ := lx_s h
      obtain ⟨g_102, h⟩ := gd_s h
      obtain ⟨x_104, e_105, h⟩ := lx_s h
      cases h
      exact hQ w_92
    · cases h
      exact hQ (Kr.thr w_53 (by decide +kernel))
end KW03
