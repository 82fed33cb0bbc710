/-! THE ROOM: how many objects there are: what each method makes (written by wip/whole/gen/gen951.py), 09. -/
section KW09
set_option maxHeartbeats 4000000 in
theorem kwj_X12_tellsParent_59 {P : Prop} {m : MM} {s0 s1 s2 s3 : Int} {rz : Int} {rm : MM} (hF : Fix m) (hQ : Kr fW_X12_tellsParent 0 0 m rm → P)
  (h : fj_X12_tellsParent_59 s0 s1 s2 s3 m = some (rz, rm)) : P := by
  unfold fj_X12_tellsParent_59 at h
  obtain ⟨x_65, m_66, hc_64, h⟩ := bd_s h
  have w_73 := (kw_X12_puts hF hc_64)
  have E_71 := Kr.ext w_73
  have w_74 := Kr.tr0 (Kr.rf (W := fW_X12_tellsParent) (e := 0) hF) w_73 (by decide +kernel)
  cases h
  exact hQ w_74
set_option maxHeartbeats 4000000 in
theorem kwj_X12_tellsParent_38 {P : Prop} {m : MM} {y1 y2 s0 s1 : Int} {rz : Int} {rm : MM} (hF : Fix m) (hQ : Kr fW_X12_tellsParent 0 0 m rm → P)
  (h : fj_X12_tellsParent_38 y1 y2 s0 s1 m = some (rz, rm)) : P := by
  unfold fj_X12_tellsParent_38 at h
  obtain ⟨g_47, h⟩ := gd_s h
  obtain ⟨x_49, e_50, h⟩ := lx_s h
  obtain ⟨x_57, e_58, h⟩ := lx_s h
  rcases it_s h with ⟨hp_61, h⟩ | ⟨hp_61, h⟩
  · exact kwj_X12_tellsParent_59 hF hQ h
  · exact kwj_X12_tellsParent_59 hF hQ h
set_option maxHeartbeats 4000000 in
theorem kw_X12_tellsParent {m0 : MM} {p1 p2 : Int} {rz : Int} {rm : MM} (hF : Fix m0)
  (h : fm_X12_tellsParent p1 p2 m0 = some (rz, rm)) : Kr fW_X12_tellsParent 0 0 m0 rm := by
  have hQ : Kr fW_X12_tellsParent 0 0 m0 rm → Kr fW_X12_tellsParent 0 0 m0 rm := id
  unfold fm_X12_tellsParent at h
  obtain ⟨g_6, h⟩ := gd_s h
  obtain ⟨x_8, e_9, h⟩ := lx_s h
  rcases it_s h with ⟨hp_18, h⟩ | ⟨hp_18, h⟩
  · cases h
    exact hQ (Kr.rf (W := fW_X12_tellsParent) (e := 0) hF)
  · obtain ⟨x_20, hc_19, h⟩ := bp_s h
    rcases it_s h with ⟨hp_28, h⟩ | ⟨hp_28, h⟩
    · cases h
      exact hQ (Kr.rf (W := fW_X12_tellsParent) (e := 0) hF)
    · obtain ⟨x_35, e_36, h⟩ := lx_s h
      rcases it_s h with ⟨hp_39, h⟩ | ⟨hp_39, h⟩
      · exact kwj_X12_tellsParent_38 hF hQ h
      · exact kwj_X12_tellsParent_38 hF hQ h
set_option maxHeartbeats 4000000 in
theorem kwl_X12_closes_45 {P : Prop} {m : MM} {y2 y3 y4 y5 : Int} {k82 : Int → Option (Int × MM)} {rz : Int} {rm : MM} (hF : Fix m)
  (hk82 : ∀ {z6 : Int}, k82 z6 = some (rz, rm) → P) (hQ : Kr fW_X12_closes 0 0 m rm → P) :
  ∀ (n : Nat) {y6 : Int} , fl_X12_closes_45 y2 y3 y4 y5 m k82 n y6 = some (rz, rm) → P := by
  intro n
  induction n with
  | zero => intro y6 h; cases h
  | succ n ih0 =>
    intro y6 h
    have ih : ∀ {z6 : Int}, fl_X12_closes_45 y2 y3 y4 y5 m k82 n z6 = some (rz, rm) → P := by intros; exact ih0 ‹_›
    unfold fl_X12_closes_45 at h
    obtain ⟨x_84, e_85, h⟩ := lx_s h
    rcases it_s h with ⟨hp_86, h⟩ | ⟨hp_86, h⟩
    · obtain ⟨g_92, h⟩ := gd_s h
      obtain ⟨x_94, e_95, h⟩ := lx_s h
      rcases it_s h with ⟨hp_96, h⟩ | ⟨hp_96, h⟩
      · obtain ⟨x_116, e_117, h⟩ := lx_s h
        rcases it_s h with ⟨hp_118, h⟩ | ⟨hp_118, h⟩
        · exact hk82 h
        · obtain ⟨x_124, e_125, h⟩ := lx_s h
          exact ih h
      · obtain ⟨x_102, e_103, h⟩ := lx_s h
        exact ih h
    · exact hk82 h
set_option maxHeartbeats 4000000 in
theorem kwj_X12_closes_111 {P : Prop} {m : MM} {y2 y3 y4 y5 : Int} {rz : Int} {rm : MM} {c : Int → MM → Option (Int × MM)} (hF : Fix m)
  (hc : ∀ mq : MM, Kr fW_X12_closes 0 0 m mq → ∀ {z4 : Int}, c z4 mq = some (rz, rm) → P) (hQ : Kr fW_X12_closes 0 0 m rm → P)
  (h : fj_X12_closes_111 c y2 y3 y4 y5 m = some (rz, rm)) : P := by
  unfold fj_X12_closes_111 at h
  obtain ⟨x_283, m_284, hc_282, h⟩ := bd_s h
  have w_291 := (kw_X12_tellsParent hF hc_282)
  have E_289 := Kr.ext w_291
  have w_292 := Kr.tr0 (Kr.rf (W := fW_X12_closes) (e := 0) hF) w_291 (by decide +kernel)
  obtain ⟨x_299, e_300, h⟩ := lx_s h
  exact hc m_284 w_292 h
set_option maxHeartbeats 4000000 in
theorem kwl_X12_closes_22 {P : Prop} {mb : MM} {y2 y3 : Int} {rz : Int} {rm : MM} (hF0 : Fix mb) (hQ : Kr fW_X12_closes 0 0 mb rm → P) :
  ∀ (n : Nat) {m : MM} {y4 : Int} , Kr fW_X12_closes 0 0 mb m → fl_X12_closes_22 y2 y3 n y4 m = some (rz, rm) → P := by
  intro n
  induction n with
  | zero => intro m y4 w h; cases h
  | succ n ih0 =>
    intro m y4 w h
    have ih : ∀ mq : MM, Kr fW_X12_closes 0 0 mb mq → ∀ {z4 : Int}, fl_X12_closes_22 y2 y3 n z4 mq = some (rz, rm) → P := fun mq b => by intros; exact ih0 b ‹_›
    unfold fl_X12_closes_22 at h
    rcases it_s h with ⟨hp_48, h⟩ | ⟨hp_48, h⟩
    · cases h
      exact hQ w
    · obtain ⟨g_54, h⟩ := gd_s h
      obtain ⟨x_56, e_57, h⟩ := lx_s h
      obtain ⟨x_71, e_72, h⟩ := lx_s h
      refine kwl_X12_closes_45 (Kr.fix w) ?_ (fun f => hQ (Kr.trS w f)) BIG h
      intro x_132
      intro h
      obtain ⟨m_161, e_162, h⟩ := up_s h
      have E_165 := ext_up e_162 (And.left (fx_kF (c := 100) (Kr.fix w) (by decide +kernel))) (And.left g_54)
      have w_166 := Kr.upC (y := (-9)) w e_162 (ext_up e_162 (And.left (fx_kF (c := 100) (Kr.fix w) (by decide +kernel))) (And.left g_54)) (And.left (fx_kF (c := 100) (Kr.fix w) (by decide +kernel))) (fx_a (Kr.fix w) (fx_kF (c := 100) (Kr.fix w) (by decide +kernel)) (And.left g_54) (by decide +kernel)) (Or.inl rfl) (by decide +kernel) (fx_kF (c := 100) (Kr.fix w) (by decide +kernel)) (And.left g_54) (by first | exact Or.inl (by decide) | exact Or.inr (by decide))
      obtain ⟨x_171, e_172, h⟩ := lx_s h
      rcases it_s h with ⟨hp_173, h⟩ | ⟨hp_173, h⟩
      · obtain ⟨g_182, h⟩ := gd_s h
        obtain ⟨x_184, e_185, h⟩ := lx_s h
        obtain ⟨g_188, h⟩ := gd_s h
        obtain ⟨x_190, e_191, h⟩ := lx_s h
        rcases it_s h with ⟨hp_194, h⟩ | ⟨hp_194, h⟩
        · obtain ⟨x_270, m_271, hc_269, h⟩ := bd_s h
          have w_278 := (kw_X12_cancels (Kr.fix w_166) hc_269)
          have E_276 := Kr.ext w_278
          have w_279 := Kr.tr0 w_166 w_278 (by decide +kernel)
          exact ih m_271 w_279 h
        · rcases it_s h with ⟨hp_209, h⟩ | ⟨hp_209, h⟩
          · obtain ⟨m_215, e_216, h⟩ := up_s h
            have E_219 := ext_up e_216 (And.left (fx_kF (c := 100) (Kr.fix w_166) (by decide +kernel))) (And.left g_182)
            have w_220 := Kr.upC (y := (-9)) w_166 e_216 (ext_up e_216 (And.left (fx_kF (c := 100) (Kr.fix w_166) (by decide +kernel))) (And.left g_182)) (And.left (fx_kF (c := 100) (Kr.fix w_166) (by decide +kernel))) (fx_a (Kr.fix w_166) (fx_kF (c := 100) (Kr.fix w_166) (by decide +kernel)) (And.left g_182) (by decide +kernel)) (Or.inl rfl) (by decide +kernel) (fx_kF (c := 100) (Kr.fix w_166) (by decide +kernel)) (And.left g_182) (by first | exact Or.inl (by decide) | exact Or.inr (by decide))
            obtain ⟨x_223, m_224, hc_222, h⟩ := bd_s h
            have w_231 := (kw_X12_stops (Kr.fix w_220) hc_222)
            have E_229 := Kr.ext w_231
            have w_232 := Kr.tr0 w_220 w_231 (by decide +kernel)
            obtain ⟨x_239, e_240, h⟩ := lx_s h
            obtain ⟨g_249, h⟩ := gd_s h
            obtain ⟨m_250, e_251, h⟩ := up_s h
            have E_254 := ext_up e_251 (And.left (fx_kF (c := 100) (Kr.fix w_232) (by decide +kernel))) (And.left g_249)
            have w_255 := Kr.upC (y := (-9)) w_232 e_251 (ext_up e_251 (And.left (fx_kF (c := 100) (Kr.fix w_232) (by decide +kernel))) (And.left g_249)) (And.left (fx_kF (c := 100) (Kr.fix w_232) (by decide +kernel))) (fx_a (Kr.fix w_232) (fx_kF (c := 100) (Kr.fix w_232) (by decide +kernel)) (And.left g_249) (by decide +kernel)) (Or.inl rfl) (by decide +kernel) (fx_kF (c := 100) (Kr.fix w_232) (by decide +kernel)) (And.left g_249) (by first | exact Or.inl (by decide) | exact Or.inr (by decide))
            obtain ⟨m_262, e_263, h⟩ := up_s h
            have E_266 := ext_up e_263 (And.left (fx_kF (c := 100) (Kr.fix w_255) (by decide +kernel))) (And.left g_249)
            have w_267 := Kr.upC (y := (-9)) w_255 e_263 (ext_up e_263 (And.left (fx_kF (c := 100) (Kr.fix w_255) (by decide +kernel))) (And.left g_249)) (And.left (fx_kF (c := 100) (Kr.fix w_255) (by decide +kernel))) (fx_a (Kr.fix w_255) (fx_kF (c := 100) (Kr.fix w_255) (by decide +kernel)) (And.left g_249) (by decide +kernel)) (Or.inl rfl) (by decide +kernel) (fx_kF (c := 100) (Kr.fix w_255) (by decide +kernel)) (And.left g_249) (by first | exact Or.inl (by decide) | exact Or.inr (by decide))
            exact ih m_262 w_267 h
          · exact ih m_161 w_166 h
      · rcases it_s h with ⟨hp_281, h⟩ | ⟨hp_281, h⟩
        · exact kwj_X12_closes_111 (Kr.fix w_166) (fun mq f => ih mq (Kr.trS w_166 f)) (fun f => hQ (Kr.trS w_166 f)) h
        · rcases it_s h with ⟨hp_305, h⟩ | ⟨hp_305, h⟩
          · obtain ⟨x_311, e_312, h⟩ := lx_s h
            exact ih m_161 w_166 h
          · exact kwj_X12_closes_111 (Kr.fix w_166) (fun mq f => ih mq (Kr.trS w_166 f)) (fun f => hQ (Kr.trS w_166 f)) h
set_option maxHeartbeats 4000000 in
theorem kw_X12_closes {m0 : MM} {p1 p2 p3 : Int} {rz : Int} {rm : MM} (hF : Fix m0)
  (h : fm_X12_closes p1 p2 p3 m0 = some (rz, rm)) : Kr fW_X12_closes 0 0 m0 rm := by
  have hQ : Kr fW_X12_closes 0 0 m0 rm → Kr fW_X12_closes 0 0 m0 rm := id
  unfold fm_X12_closes at h
  obtain ⟨m_15, e_16, h⟩ := up_s h
  have E_19 := ext_up e_16 (And.left (fx_kF (c := 100) hF (by decide +kernel))) (by decide)
  have w_20 := Kr.upC (y := (-9)) (Kr.rf (W := fW_X12_closes) (e := 0) hF) e_16 (ext_up e_16 (And.left (fx_kF (c := 100) hF (by decide +kernel))) (by decide)) (And.left (fx_kF (c := 100) hF (by decide +kernel))) (fx_a hF (fx_kF (c := 100) hF (by decide +kernel)) (by decide) (by decide +kernel)) (Or.inl rfl) (by decide +kernel) (fx_kF (c := 100) hF (by decide +kernel)) (by decide) (by first | exact Or.inl (by decide) | exact Or.inr (by decide))
  obtain ⟨m_29, e_30, h⟩ := up_s h
  have E_33 := ext_up e_30 (And.left (fx_kF (c := 100) (Kr.fix w_20) (by decide +kernel))) (by decide)
  have w_34 := Kr.upC (y := (-9)) w_20 e_30 (ext_up e_30 (And.left (fx_kF (c := 100) (Kr.fix w_20) (by decide +kernel))) (by decide)) (And.left (fx_kF (c := 100) (Kr.fix w_20) (by decide +kernel))) (fx_a (Kr.fix w_20) (fx_kF (c := 100) (Kr.fix w_20) (by decide +kernel)) (by decide) (by decide +kernel)) (Or.inl rfl) (by decide +kernel) (fx_kF (c := 100) (Kr.fix w_20) (by decide +kernel)) (by decide) (by first | exact Or.inl (by decide) | exact Or.inr (by decide))
  obtain ⟨x_37, m_38, hc_36, h⟩ := bd_s h
  have w_45 := (kw_X12_stops (Kr.fix w_34) hc_36)
  have E_43 := Kr.ext w_45
  have w_46 := Kr.tr0 w_34 w_45 (by decide +kernel)
  refine kwl_X12_closes_22 (Kr.fix w_46)  (fun f => hQ (Kr.trS w_46 f)) BIG (Kr.rf (Kr.fix w_46)) h
set_option maxHeartbeats 4000000 in
theorem kwj_X12_begin_65 {P : Prop} {m : MM} {y1 y2 y3 s0 : Int} {rz : Int} {rm : MM} (hF : Fix m) (hQ : Kr fW_X12_begin 0 0 m rm → P)
  (h : fj_X12_begin_65 y1 y2 y3 s0 m = some (rz, rm)) : P := by
  unfold fj_X12_begin_65 at h
  obtain ⟨x_44, m_45, hc_43, h⟩ := bd_s h
  have w_52 := (kw_X12_fails hF hc_43)
  have E_50 := Kr.ext w_52
  have w_53 := Kr.tr0 (Kr.rf (W := fW_X12_begin) (e := 0) hF) w_52 (by decide +kernel)
  rcases it_s h with ⟨hp_55, h⟩ | ⟨hp_55, h⟩
  · obtain ⟨g_61, h⟩ := gd_s h
    obtain ⟨x_63, e_64, h⟩ := lx_s h
    obtain ⟨x_74, m_75, hc_73, h⟩ := bd_s h
    have w_82 := (kw_X12_makes (Kr.fix w_53) hc_73)
    have E_80 := Kr.ext w_82
    have w_83 := Kr.tr0 w_53 w_82 (by decide +kernel)
    cases h
    exact hQ w_83
  · cases h
    exact hQ w_53
set_option maxHeartbeats 4000000 in
theorem kwj_X12_begin_19 {P : Prop} {m : MM} {y1 y2 y3 s0 : Int} {rz : Int} {rm : MM} (hF : Fix m) (hQ : Kr fW_X12_begin 0 0 m rm → P)
  (h : fj_X12_begin_19 y1 y2 y3 s0 m = some (rz, rm)) : P := by
  unfold fj_X12_begin_19 at h
  rcases it_s h with ⟨hp_20, h⟩ | ⟨hp_20, h⟩
  · exact kwj_X12_begin_65 hF hQ h
  · obtain ⟨x_22, hc_21, h⟩ := bp_s h
    rcases it_s h with ⟨hp_30, h⟩ | ⟨hp_30, h⟩
    · exact kwj_X12_begin_65 hF hQ h
    · obtain ⟨g_36, h⟩ := gd_s h
      obtain ⟨x_38, e_39, h⟩ := lx_s h
      rcases it_s h with ⟨hp_40, h⟩ | ⟨hp_40, h⟩
      · exact kwj_X12_begin_65 hF hQ h
      · obtain ⟨x_90, e_91, h⟩ := lx_s h
        rcases it_s h with ⟨hp_94, h⟩ | ⟨hp_94, h⟩
        · exact kwj_X12_begin_65 hF hQ h
        · exact kwj_X12_begin_65 hF hQ h
set_option maxHeartbeats 4000000 in
theorem kw_X12_begin {m0 : MM} {p1 p2 p3 : Int} {rz : Int} {rm : MM} (hF : Fix m0)
  (h : fm_X12_begin p1 p2 p3 m0 = some (rz, rm)) : Kr fW_X12_begin 0 0 m0 rm := by
  have hQ : Kr fW_X12_begin 0 0 m0 rm → Kr fW_X12_begin 0 0 m0 rm := id
  unfold fm_X12_begin at h
  obtain ⟨x_2, hc_1, h⟩ := bp_s h
  rcases it_s h with ⟨hp_10, h⟩ | ⟨hp_10, h⟩
  · exact kwj_X12_begin_19 hF hQ h
  · obtain ⟨x_104, hc_103, h⟩ := bp_s h
    rcases it_s h with ⟨hp_112, h⟩ | ⟨hp_112, h⟩
    · exact kwj_X12_begin_19 hF hQ h
    · exact kwj_X12_begin_19 hF hQ h
set_option maxHeartbeats 4000000 in
theorem kwj_X12_signal_67 {P : Prop} {m : MM} {y1 y2 y3 s0 : Int} {rz : Int} {rm : MM} (hF : Fix m) (hQ : Kr fW_X12_signal 0 0 m rm → P)
  (h : fj_X12_signal_67 y1 y2 y3 s0 m = some (rz, rm)) : P := by
  unfold fj_X12_signal_67 at h
  obtain ⟨x_44, m_45, hc_43, h⟩ := bd_s h
  have w_52 := (kw_X12_fails hF hc_43)
  have E_50 := Kr.ext w_52
  have w_53 := Kr.tr0 (Kr.rf (W := fW_X12_signal) (e := 0) hF) w_52 (by decide +kernel)
  rcases it_s h with ⟨hp_55, h⟩ | ⟨hp_55, h⟩
  · obtain ⟨x_59, m_60, hc_58, h⟩ := bd_s h
    have w_67 := (kw_X12_puts (Kr.fix w_53) hc_58)
    have E_65 := Kr.ext w_67
    have w_68 := Kr.tr0 w_53 w_67 (by decide +kernel)
    cases h
    exact hQ w_68
  · cases h
    exact hQ w_53
set_option maxHeartbeats 4000000 in
theorem kwj_X12_signal_20 {P : Prop} {m : MM} {y1 y2 y3 s0 : Int} {rz : Int} {rm : MM} (hF : Fix m) (hQ : Kr fW_X12_signal 0 0 m rm → P)
  (h : fj_X12_signal_20 y1 y2 y3 s0 m = some (rz, rm)) : P := by
  unfold fj_X12_signal_20 at h
  rcases it_s h with ⟨hp_20, h⟩ | ⟨hp_20, h⟩
  · exact kwj_X12_signal_67 hF hQ h
  · obtain ⟨x_22, hc_21, h⟩ := bp_s h
    rcases it_s h with ⟨hp_30, h⟩ | ⟨hp_30, h⟩
    · exact kwj_X12_signal_67 hF hQ h
    · obtain ⟨x_32, hc_31, h⟩ := bp_s h
      rcases it_s h with ⟨hp_40, h⟩ | ⟨hp_40, h⟩
      · exact kwj_X12_signal_67 hF hQ h
      · obtain ⟨g_77, h⟩ := gd_s h
        obtain ⟨x_79, e_80, h⟩ := lx_s h
        rcases it_s h with ⟨hp_83, h⟩ | ⟨hp_83, h⟩
        · exact kwj_X12_signal_67 hF hQ h
        · exact kwj_X12_signal_67 hF hQ h
set_option maxHeartbeats 4000000 in
theorem kw_X12_signal {m0 : MM} {p1 p2 p3 : Int} {rz : Int} {rm : MM} (hF : Fix m0)
  (h : fm_X12_signal p1 p2 p3 m0 = some (rz, rm)) : Kr fW_X12_signal 0 0 m0 rm := by
  have hQ : Kr fW_X12_signal 0 0 m0 rm → Kr fW_X12_signal 0 0 m0 rm := id
  unfold fm_X12_signal at h
  obtain ⟨x_2, hc_1, h⟩ := bp_s h
  rcases it_s h with ⟨hp_10, h⟩ | ⟨hp_10, h⟩
  · exact kwj_X12_signal_20 hF hQ h
  · obtain ⟨x_93, hc_92, h⟩ := bp_s h
    rcases it_s h with ⟨hp_101, h⟩ | ⟨hp_101, h⟩
    · exact kwj_X12_signal_20 hF hQ h
    · exact kwj_X12_signal_20 hF hQ h
set_option maxHeartbeats 4000000 in
theorem kwj_X12_update_104 {P : Prop} {m : MM} {y1 y2 y3 s0 : Int} {rz : Int} {rm : MM} (hF : Fix m) (hQ : Kr fW_X12_update 0 0 m rm → P)
  (h : fj_X12_update_104 y1 y2 y3 s0 m = some (rz, rm)) : P := by
  unfold fj_X12_update_104 at h
  rcases it_s h with ⟨hp_87, h⟩ | ⟨hp_87, h⟩
  · obtain ⟨g_88, h⟩ := gd_s h
    cases h
    exact hQ (Kr.rf (W := fW_X12_update) (e := 0) hF)
  · obtain ⟨x_92, m_93, hc_91, h⟩ := bd_s h
    have w_100 := (kw_X12_puts hF hc_91)
    have E_98 := Kr.ext w_100
    have w_101 := Kr.tr0 (Kr.rf (W := fW_X12_update) (e := 0) hF) w_100 (by decide +kernel)
    obtain ⟨g_103, h⟩ := gd_s h
    cases h
    exact hQ w_101
set_option maxHeartbeats 4000000 in
theorem kwj_X12_update_68 {P : Prop} {m : MM} {y1 y2 y3 s0 : Int} {rz : Int} {rm : MM} (hF : Fix m) (hQ : Kr fW_X12_update 0 0 m rm → P)
  (h : fj_X12_update_68 y1 y2 y3 s0 m = some (rz, rm)) : P := by
  unfold fj_X12_update_68 at h
  obtain ⟨x_44, m_45, hc_43, h⟩ := bd_s h
  have w_52 := (kw_X12_fails hF hc_43)
  have E_50 := Kr.ext w_52
  have w_53 := Kr.tr0 (Kr.rf (W := fW_X12_update) (e := 0) hF) w_52 (by decide +kernel)
  rcases it_s h with ⟨hp_55, h⟩ | ⟨hp_55, h⟩
  · obtain ⟨g_61, h⟩ := gd_s h
    obtain ⟨x_63, e_64, h⟩ := lx_s h
    obtain ⟨x_66, m_67, hc_65, h⟩ := bd_s h
    have w_74 := (kw_X12_isSafe (Kr.fix w_53) hc_65)
    have E_72 := Kr.ext w_74
    have w_75 := Kr.tr0 w_53 w_74 (by decide +kernel)
    rcases it_s h with ⟨hp_77, h⟩ | ⟨hp_77, h⟩
    · exact kwj_X12_update_104 (Kr.fix w_75) (fun f => hQ (Kr.trS w_75 f)) h
    · obtain ⟨x_105, hc_104, h⟩ := bp_s h
      rcases it_s h with ⟨hp_113, h⟩ | ⟨hp_113, h⟩
      · exact kwj_X12_update_104 (Kr.fix w_75) (fun f => hQ (Kr.trS w_75 f)) h
      · exact kwj_X12_update_104 (Kr.fix w_75) (fun f => hQ (Kr.trS w_75 f)) h
  · cases h
    exact hQ w_53
set_option maxHeartbeats 4000000 in
theorem kwj_X12_update_20 {P : Prop} {m : MM} {y1 y2 y3 s0 : Int} {rz : Int} {rm : MM} (hF : Fix m) (hQ : Kr fW_X12_update 0 0 m rm → P)
  (h : fj_X12_update_20 y1 y2 y3 s0 m = some (rz, rm)) : P := by
  unfold fj_X12_update_20 at h
  rcases it_s h with ⟨hp_20, h⟩ | ⟨hp_20, h⟩
  · exact kwj_X12_update_68 hF hQ h
  · obtain ⟨x_22, hc_21, h⟩ := bp_s h
    rcases it_s h with ⟨hp_30, h⟩ | ⟨hp_30, h⟩
    · exact kwj_X12_update_68 hF hQ h
    · obtain ⟨g_36, h⟩ := gd_s h
      obtain ⟨x_38, e_39, h⟩ := lx_s h
      rcases it_s h with ⟨hp_40, h⟩ | ⟨hp_40, h⟩
      · obtain ⟨x_126, e_127, h⟩ := lx_s h
        rcases it_s h with ⟨hp_130, h⟩ | ⟨hp_130, h⟩
        · exact kwj_X12_update_68 hF hQ h
        · exact kwj_X12_update_68 hF hQ h
      · exact kwj_X12_update_68 hF hQ h
set_option maxHeartbeats 4000000 in
theorem kw_X12_update {m0 : MM} {p1 p2 p3 : Int} {rz : Int} {rm : MM} (hF : Fix m0)
  (h : fm_X12_update p1 p2 p3 m0 = some (rz, rm)) : Kr fW_X12_update 0 0 m0 rm := by
  have hQ : Kr fW_X12_update 0 0 m0 rm → Kr fW_X12_update 0 0 m0 rm := id
  unfold fm_X12_update at h
  obtain ⟨x_2, hc_1, h⟩ := bp_s h
  rcases it_s h with ⟨hp_10, h⟩ | ⟨hp_10, h⟩
  · exact kwj_X12_update_20 hF hQ h
  · obtain ⟨x_140, hc_139, h⟩ := bp_s h
    rcases it_s h with ⟨hp_148, h⟩ | ⟨hp_148, h⟩
    · exact kwj_X12_update_20 hF hQ h
    · exact kwj_X12_update_20 hF hQ h
set_option maxHeartbeats 4000000 in
theorem kwj_X12_cancel_28 {P : Prop} {m : MM} {y1 s0 : Int} {rz : Int} {rm : MM} (hF : Fix m) (hQ : Kr fW_X12_cancel 0 0 m rm → P)
  (h : fj_X12_cancel_28 y1 s0 m = some (rz, rm)) : P := by
  unfold fj_X12_cancel_28 at h
  obtain ⟨x_29, m_30, hc_28, h⟩ := bd_s h
  have w_37 := (kw_X12_fails hF hc_28)
  have E_35 := Kr.ext w_37
  have w_38 := Kr.tr0 (Kr.rf (W := fW_X12_cancel) (e := 0) hF) w_37 (by decide +kernel)
  rcases it_s h with ⟨hp_40, h⟩ | ⟨hp_40, h⟩
  · obtain ⟨x_42, m_43, hc_41, h⟩ := bd_s h
    have w_50 := (kw_X12_cancels (Kr.fix w_38) hc_41)
    have E_48 := Kr.ext w_50
    have w_51 := Kr.tr0 w_38 w_50 (by decide +kernel)
    obtain ⟨g_53, h⟩ := gd_s h
    cases h
    exact hQ w_51
  · cases h
    exact hQ w_38
set_option maxHeartbeats 4000000 in
theorem kw_X12_cancel {m0 : MM} {p1 : Int} {rz : Int} {rm : MM} (hF : Fix m0)
  (h : fm_X12_cancel p1 m0 = some (rz, rm)) : Kr fW_X12_cancel 0 0 m0 rm := by
  have hQ : Kr fW_X12_cancel 0 0 m0 rm → Kr fW_X12_cancel 0 0 m0 rm := id
  unfold fm_X12_cancel at h
  obtain ⟨x_2, hc_1, h⟩ := bp_s h
  rcases it_s h with ⟨hp_15, h⟩ | ⟨hp_15, h⟩
  · exact kwj_X12_cancel_28 hF hQ h
  · obtain ⟨x_17, hc_16, h⟩ := bp_s h
    rcases it_s h with ⟨hp_25, h⟩ | ⟨hp_25, h⟩
    · exact kwj_X12_cancel_28 hF hQ h
    · exact kwj_X12_cancel_28 hF hQ h
set_option maxHeartbeats 4000000 in
theorem kwj_X12_asks_67 {P : Prop} {m : MM} {y2 s0 : Int} {rz : Int} {rm : MM} (hF : Fix m) (hQ : Kr fW_X12_asks 0 0 m rm → P)
  (h : fj_X12_asks_67 y2 s0 m = some (rz, rm)) : P := by
  unfold fj_X12_asks_67 at h
  obtain ⟨x_33, m_34, hc_32, h⟩ := bd_s h
  have w_41 := (kw_X12_fails hF hc_32)
  have E_39 := Kr.ext w_41
  have w_42 := Kr.tr0 (Kr.rf (W := fW_X12_asks) (e := 0) hF) w_41 (by decide +kernel)
  rcases it_s h with ⟨hp_44, h⟩ | ⟨hp_44, h⟩
  · obtain ⟨g_50, h⟩ := gd_s h
    obtain ⟨x_52, e_53, h⟩ := lx_s h
    cases h
    exact hQ w_42
  · cases h
    exact hQ w_42
set_option maxHeartbeats 4000000 in
theorem kwj_X12_asks_46 {P : Prop} {m : MM} {y2 y3 s0 : Int} {rz : Int} {rm : MM} (hF : Fix m) (hQ : Kr fW_X12_asks 0 0 m rm → P)
  (h : fj_X12_asks_46 y2 y3 s0 m = some (rz, rm)) : P := by
  unfold fj_X12_asks_46 at h
  rcases it_s h with ⟨hp_28, h⟩ | ⟨hp_28, h⟩
  · exact kwj_X12_asks_67 hF hQ h
  · rcases it_s h with ⟨hp_29, h⟩ | ⟨hp_29, h⟩
    · exact kwj_X12_asks_67 hF hQ h
    · exact kwj_X12_asks_67 hF hQ h
set_option maxHeartbeats 4000000 in
theorem kwj_X12_asks_22 {P : Prop} {m : MM} {y1 y2 s0 : Int} {rz : Int} {rm : MM} (hF : Fix m) (hQ : Kr fW_X12_asks 0 0 m rm → P)
  (h : fj_X12_asks_22 y1 y2 s0 m = some (rz, rm)) : P := by
  unfold fj_X12_asks_22 at h
  rcases it_s h with ⟨hp_19, h⟩ | ⟨hp_19, h⟩
  · exact kwj_X12_asks_46 hF hQ h
  · obtain ⟨g_65, h⟩ := gd_s h
    obtain ⟨x_67, e_68, h⟩ := lx_s h
    obtain ⟨x_70, m_71, hc_69, h⟩ := bd_s h
    have w_78 := (kw_X12_isSafe hF hc_69)
    have E_76 := Kr.ext w_78
    have w_79 := Kr.tr0 (Kr.rf (W := fW_X12_asks) (e := 0) hF) w_78 (by decide +kernel)
    rcases it_s h with ⟨hp_81, h⟩ | ⟨hp_81, h⟩
    · exact kwj_X12_asks_46 (Kr.fix w_79) (fun f => hQ (Kr.trS w_79 f)) h
    · exact kwj_X12_asks_46 (Kr.fix w_79) (fun f => hQ (Kr.trS w_79 f)) h
set_option maxHeartbeats 4000000 in
theorem kw_X12_asks {m0 : MM} {p1 p2 : Int} {rz : Int} {rm : MM} (hF : Fix m0)
  (h : fm_X12_asks p1 p2 m0 = some (rz, rm)) : Kr fW_X12_asks 0 0 m0 rm := by
  have hQ : Kr fW_X12_asks 0 0 m0 rm → Kr fW_X12_asks 0 0 m0 rm := id
  unfold fm_X12_asks at h
  obtain ⟨x_2, hc_1, h⟩ := bp_s h
  rcases it_s h with ⟨hp_10, h⟩ | ⟨hp_10, h⟩
  · exact kwj_X12_asks_22 hF hQ h
  · obtain ⟨x_91, hc_90, h⟩ := bp_s h
    rcases it_s h with ⟨hp_99, h⟩ | ⟨hp_99, h⟩
    · exact kwj_X12_asks_22 hF hQ h
    · exact kwj_X12_asks_22 hF hQ h
set_option maxHeartbeats 4000000 in
theorem kw_X12_query {m0 : MM} {p1 p2 : Int} {rz : Int} {rm : MM} (hF : Fix m0)
  (h : fm_X12_query p1 p2 m0 = some (rz, rm)) : Kr fW_X12_query 0 0 m0 rm := by
  have hQ : Kr fW_X12_query 0 0 m0 rm → Kr fW_X12_query 0 0 m0 rm := id
  unfold fm_X12_query at h
  obtain ⟨x_2, m_3, hc_1, h⟩ := bd_s h
  have w_10 := (kw_X12_asks hF hc_1)
  have E_8 := Kr.ext w_10
  have w_11 := Kr.tr0 (Kr.rf (W := fW_X12_query) (e := 0) hF) w_10 (by decide +kernel)
  cases h
  exact hQ w_11
set_option maxHeartbeats 4000000 in
theorem kw_X12_plain {m0 : MM} {p1 p2 : Int} {rz : Int} {rm : MM} (hF : Fix m0)
  (h : fm_X12_plain p1 p2 m0 = some (rz, rm)) : Kr fW_X12_plain 0 0 m0 rm := by
  have hQ : Kr fW_X12_plain 0 0 m0 rm → Kr fW_X12_plain 0 0 m0 rm := id
  unfold fm_X12_plain at h
  obtain ⟨x_2, m_3, hc_1, h⟩ := bd_s h
  have w_10 := (kw_X12_asks hF hc_1)
  have E_8 := Kr.ext w_10
  have w_11 := Kr.tr0 (Kr.rf (W := fW_X12_plain) (e := 0) hF) w_10 (by decide +kernel)
  cases h
  exact hQ w_11
set_option maxHeartbeats 4000000 in
theorem kwj_X12_standing_14 {P : Prop} {m : MM} {y1 s0 : Int} {rz : Int} {rm : MM} (hF : Fix m) (hQ : Kr fW_X12_standing 0 0 m rm → P)
  (h : fj_X12_standing_14 y1 s0 m = some (rz, rm)) : P := by
  unfold fj_X12_standing_14 at h
  obtain ⟨x_14, m_15, hc_13, h⟩ := bd_s h
  have w_22 := (kw_X12_fails hF hc_13)
  have E_20 := Kr.ext w_22
  have w_23 := Kr.tr0 (Kr.rf (W := fW_X12_standing) (e := 0) hF) w_22 (by decide +kernel)
  rcases it_s h with ⟨hp_25, h⟩ | ⟨hp_25, h⟩
  · obtain ⟨g_33, h⟩ := gd_s h
    obtain ⟨x_35, e_36, h⟩ := lx_s h
    obtain ⟨x_45, e_46, h⟩ := lx_s h
    cases h
    exact hQ w_23
  · cases h
    exact hQ w_23
set_option maxHeartbeats 4000000 in
theorem kw_X12_standing {m0 : MM} {p1 : Int} {rz : Int} {rm : MM} (hF : Fix m0)
  (h : fm_X12_standing p1 m0 = some (rz, rm)) : Kr fW_X12_standing 0 0 m0 rm := by
  have hQ : Kr fW_X12_standing 0 0 m0 rm → Kr fW_X12_standing 0 0 m0 rm := id
  unfold fm_X12_standing at h
  obtain ⟨x_2, hc_1, h⟩ := bp_s h
  rcases it_s h with ⟨hp_10, h⟩ | ⟨hp_10, h⟩
  · exact kwj_X12_standing_14 hF hQ h
  · exact kwj_X12_standing_14 hF hQ h
set_option maxHeartbeats 4000000 in
theorem kwj_X12_event_40 {P : Prop} {m : MM} {y1 y2 s0 : Int} {rz : Int} {rm : MM} (hF : Fix m) (hQ : Kr fW_X12_event 0 0 m rm → P)
  (h : fj_X12_event_40 y1 y2 s0 m = some (rz, rm)) : P := by
  unfold fj_X12_event_40 at h
  obtain ⟨x_23, m_24, hc_22, h⟩ := bd_s h
  have w_31 := (kw_X12_fails hF hc_22)
  have E_29 := Kr.ext w_31
  have w_32 := Kr.tr0 (Kr.rf (W := fW_X12_event) (e := 0) hF) w_31 (by decide +kernel)
  rcases it_s h with ⟨hp_34, h⟩ | ⟨hp_34, h⟩
  · obtain ⟨x_38, hc_37, h⟩ := bp_s h
    obtain ⟨x_51, hc_50, h⟩ := bp_s h
    obtain ⟨x_64, hc_63, h⟩ := bp_s h
    cases h
    exact hQ w_32
  · cases h
    exact hQ w_32
set_option maxHeartbeats 4000000 in
theorem kwj_X12_event_29 {P : Prop} {m : MM} {y1 y2 s0 : Int} {rz : Int} {rm : MM} (hF : Fix m) (hQ : Kr fW_X12_event 0 0 m rm → P)
  (h : fj_X12_event_29 y1 y2 s0 m = some (rz, rm)) : P := by
  unfold fj_X12_event_29 at h
  rcases it_s h with ⟨hp_19, h⟩ | ⟨hp_19, h⟩
  · exact kwj_X12_event_40 hF hQ h
  · exact kwj_X12_event_40 hF hQ h
set_option maxHeartbeats 4000000 in
theorem kw_X12_event {m0 : MM} {p1 p2 : Int} {rz : Int} {rm : MM} (hF : Fix m0)
  (h : fm_X12_event p1 p2 m0 = some (rz, rm)) : Kr fW_X12_event 0 0 m0 rm := by
  have hQ : Kr fW_X12_event 0 0 m0 rm → Kr fW_X12_event 0 0 m0 rm := id
  unfold fm_X12_event at h
  obtain ⟨x_2, hc_1, h⟩ := bp_s h
  rcases it_s h with ⟨hp_10, h⟩ | ⟨hp_10, h⟩
  · exact kwj_X12_event_29 hF hQ h
  · obtain ⟨g_85, h⟩ := gd_s h
    obtain ⟨x_87, e_88, h⟩ := lx_s h
    obtain ⟨x_94, hc_93, h⟩ := bp_s h
    rcases it_s h with ⟨hp_102, h⟩ | ⟨hp_102, h⟩
    · exact kwj_X12_event_29 hF hQ h
    · exact kwj_X12_event_29 hF hQ h
set_option maxHeartbeats 4000000 in
theorem kwj_X12_difference_31 {P : Prop} {m : MM} {y1 s0 : Int} {rz : Int} {rm : MM} (hF : Fix m) (hQ : Kr fW_X12_difference 0 0 m rm → P)
  (h : fj_X12_difference_31 y1 s0 m = some (rz, rm)) : P := by
  unfold fj_X12_difference_31 at h
  obtain ⟨x_31, m_32, hc_30, h⟩ := bd_s h
  have w_39 := (kw_X12_fails hF hc_30)
  have E_37 := Kr.ext w_39
  have w_40 := Kr.tr0 (Kr.rf (W := fW_X12_difference) (e := 0) hF) w_39 (by decide +kernel)
  rcases it_s h with ⟨hp_42, h⟩ | ⟨hp_42, h⟩
  · obtain ⟨g_48, h⟩ := gd_s h
    obtain ⟨x_50, e_51, h⟩ := lx_s h
    cases h
    exact hQ w_40
  · cases h
    exact hQ w_40
set_option maxHeartbeats 4000000 in
theorem kw_X12_difference {m0 : MM} {p1 : Int} {rz : Int} {rm : MM} (hF : Fix m0)
  (h : fm_X12_difference p1 m0 = some (rz, rm)) : Kr fW_X12_difference 0 0 m0 rm := by
  have hQ : Kr fW_X12_difference 0 0 m0 rm → Kr fW_X12_difference 0 0 m0 rm := id
  unfold fm_X12_difference at h
  obtain ⟨x_2, hc_1, h⟩ := bp_s h
  rcases it_s h with ⟨hp_15, h⟩ | ⟨hp_15, h⟩
  · exact kwj_X12_difference_31 hF hQ h
  · obtain ⟨g_21, h⟩ := gd_s h
    obtain ⟨x_23, e_24, h⟩ := lx_s h
    rcases it_s h with ⟨hp_27, h⟩ | ⟨hp_27, h⟩
    · exact kwj_X12_difference_31 hF hQ h
    · exact kwj_X12_difference_31 hF hQ h
set_option maxHeartbeats 4000000 in
theorem kw_X12_runs {m0 : MM} {rz : Int} {rm : MM} (hF : Fix m0)
  (h : fm_X12_runs m0 = some (rz, rm)) : Kr fW_X12_runs 0 0 m0 rm := by
  have hQ : Kr fW_X12_runs 0 0 m0 rm → Kr fW_X12_runs 0 0 m0 rm := id
  unfold fm_X12_runs at h
  obtain ⟨x_4, e_5, h⟩ := lx_s h
  obtain ⟨x_7, m_8, hc_6, h⟩ := bd_s h
  have w_15 := (kw_X12_tells hF hc_6)
  have E_13 := Kr.ext w_15
  have w_16 := Kr.tr0 (Kr.rf (W := fW_X12_runs) (e := 0) hF) w_15 (by decide +kernel)
  cases h
  exact hQ w_16
set_option maxHeartbeats 4000000 in
theorem kwj_X12_setRate_16 {P : Prop} {m : MM} {y1 s0 : Int} {rz : Int} {rm : MM} (hF : Fix m) (hQ : Kr fW_X12_setRate 0 0 m rm → P)
  (h : fj_X12_setRate_16 y1 s0 m = some (rz, rm)) : P := by
  unfold fj_X12_setRate_16 at h
  obtain ⟨x_18, m_19, hc_17, h⟩ := bd_s h
  have w_26 := (kw_X12_fails hF hc_17)
  have E_24 := Kr.ext w_26
  have w_27 := Kr.tr0 (Kr.rf (W := fW_X12_setRate) (e := 0) hF) w_26 (by decide +kernel)
  rcases it_s h with ⟨hp_29, h⟩ | ⟨hp_29, h⟩
  · obtain ⟨x_33, e_34, h⟩ := lx_s h
    obtain ⟨m_40, e_41, h⟩ := up_s h
    have E_44 := ext_up e_41 (And.left (fx_kF (c := 13) (Kr.fix w_27) (by decide +kernel))) (by decide)
    have w_45 := Kr.upC (y := 50) w_27 e_41 (ext_up e_41 (And.left (fx_kF (c := 13) (Kr.fix w_27) (by decide +kernel))) (by decide)) (And.left (fx_kF (c := 13) (Kr.fix w_27) (by decide +kernel))) (fx_f (j := 50) (Kr.fix w_27) (fx_kF (c := 13) (Kr.fix w_27) (by decide +kernel)) (by decide +kernel)) (Or.inr rfl) (by decide +kernel) (fx_kF (c := 13) (Kr.fix w_27) (by decide +kernel)) (by decide) (by first | exact Or.inl (by decide) | exact Or.inr (by decide))
    cases h
    exact hQ w_45
  · cases h
    exact hQ w_27
set_option maxHeartbeats 4000000 in
theorem kw_X12_setRate {m0 : MM} {p1 : Int} {rz : Int} {rm : MM} (hF : Fix m0)
  (h : fm_X12_setRate p1 m0 = some (rz, rm)) : Kr fW_X12_setRate 0 0 m0 rm := by
  have hQ : Kr fW_X12_setRate 0 0 m0 rm → Kr fW_X12_setRate 0 0 m0 rm := id
  unfold fm_X12_setRate at h
  obtain ⟨x_6, hc_5, h⟩ := bp_s h
  rcases it_s h with ⟨hp_14, h⟩ | ⟨hp_14, h⟩
  · exact kwj_X12_setRate_16 hF hQ h
  · exact kwj_X12_setRate_16 hF hQ h
set_option maxHeartbeats 4000000 in
theorem kwj_X12_poll_123 {P : Prop} {m : MM} {y1 y2 y3 y4 s0 : Int} {rz : Int} {rm : MM} {c : Int → Int → Option (Int × MM)} {k143 : Int → Option (Int × MM)} (hF : Fix m)
  (hc : ∀ {z2 z3 : Int}, c z2 z3 = some (rz, rm) → P)
  (hk143 : ∀ {z2 : Int}, k143 z2 = some (rz, rm) → P) (hQ : Kr fW_X12_poll 0 0 m rm → P)
  (h : fj_X12_poll_123 c k143 y1 y2 y3 y4 s0 m = some (rz, rm)) : P := by
  unfold fj_X12_poll_123 at h
  rcases it_s h with ⟨hp_99, h⟩ | ⟨hp_99, h⟩
  · obtain ⟨x_111, e_112, h⟩ := lx_s h
    exact hc h
  · obtain ⟨x_128, e_129, h⟩ := lx_s h
    exact hc h
set_option maxHeartbeats 4000000 in
theorem kwj_X12_poll_68 {P : Prop} {m : MM} {y1 y2 y3 y4 s0 : Int} {rz : Int} {rm : MM} {c : Int → Int → Option (Int × MM)} {k143 : Int → Option (Int × MM)} (hF : Fix m)
  (hc : ∀ {z2 z3 : Int}, c z2 z3 = some (rz, rm) → P)
  (hk143 : ∀ {z2 : Int}, k143 z2 = some (rz, rm) → P) (hQ : Kr fW_X12_poll 0 0 m rm → P)
  (h : fj_X12_poll_68 c k143 y1 y2 y3 y4 s0 m = some (rz, rm)) : P := by
  unfold fj_X12_poll_68 at h
  rcases it_s h with ⟨hp_88, h⟩ | ⟨hp_88, h⟩
  · exact kwj_X12_poll_123 hF hc hk143 hQ h
  · rcases it_s h with ⟨hp_136, h⟩ | ⟨hp_136, h⟩
    · exact kwj_X12_poll_123 hF hc hk143 hQ h
    · obtain ⟨g_144, h⟩ := gd_s h
      obtain ⟨x_146, e_147, h⟩ := lx_s h
      obtain ⟨g_153, h⟩ := gd_s h
      obtain ⟨x_155, e_156, h⟩ := lx_s h
      rcases it_s h with ⟨hp_157, h⟩ | ⟨hp_157, h⟩
      · exact kwj_X12_poll_123 hF hc hk143 hQ h
      · rcases it_s h with ⟨hp_172, h⟩ | ⟨hp_172, h⟩
        · rcases it_s h with ⟨hp_175, h⟩ | ⟨hp_175, h⟩
          · exact kwj_X12_poll_123 hF hc hk143 hQ h
          · exact kwj_X12_poll_123 hF hc hk143 hQ h
        · exact kwj_X12_poll_123 hF hc hk143 hQ h
set_option maxHeartbeats 4000000 in
theorem kwl_X12_poll_25 {P : Prop} {m : MM} {y1 : Int} {k143 : Int → Option (Int × MM)} {rz : Int} {rm : MM} (hF : Fix m)
  (hk143 : ∀ {z2 : Int}, k143 z2 = some (rz, rm) → P) (hQ : Kr fW_X12_poll 0 0 m rm → P) :
  ∀ (n : Nat) {y2 y3 : Int} , fl_X12_poll_25 y1 m k143 n y2 y3 = some (rz, rm) → P := by
  intro n
  induction n with
  | zero => intro y2 y3 h; cases h
  | succ n ih0 =>
    intro y2 y3 h
    have ih : ∀ {z2 z3 : Int}, fl_X12_poll_25 y1 m k143 n z2 z3 = some (rz, rm) → P := by intros; exact ih0 ‹_›
    unfold fl_X12_poll_25 at h
    obtain ⟨x_44, e_45, h⟩ := lx_s h
    rcases it_s h with ⟨hp_46, h⟩ | ⟨hp_46, h⟩
    · obtain ⟨g_52, h⟩ := gd_s h
      obtain ⟨x_54, e_55, h⟩ := lx_s h
      obtain ⟨g_68, h⟩ := gd_s h
      obtain ⟨x_70, e_71, h⟩ := lx_s h
      obtain ⟨x_75, e_76, h⟩ := lx_s h
      rcases it_s h with ⟨hp_77, h⟩ | ⟨hp_77, h⟩
      · obtain ⟨x_181, hc_180, h⟩ := bp_s h
        rcases it_s h with ⟨hp_189, h⟩ | ⟨hp_189, h⟩
        · exact kwj_X12_poll_68 hF ih hk143 hQ h
        · exact kwj_X12_poll_68 hF ih hk143 hQ h
      · exact kwj_X12_poll_68 hF ih hk143 hQ h
    · exact hk143 h
set_option maxHeartbeats 4000000 in
theorem kwj_X12_poll_187 {P : Prop} {m : MM} {y1 y2 y3 y4 s0 : Int} {rz : Int} {rm : MM} {c : Int → Int → Option (Int × MM)} {k226 : Int → Option (Int × MM)} (hF : Fix m)
  (hc : ∀ {z3 z4 : Int}, c z3 z4 = some (rz, rm) → P)
  (hk226 : ∀ {z3 : Int}, k226 z3 = some (rz, rm) → P) (hQ : Kr fW_X12_poll 0 0 m rm → P)
  (h : fj_X12_poll_187 c k226 y1 y2 y3 y4 s0 m = some (rz, rm)) : P := by
  unfold fj_X12_poll_187 at h
  rcases it_s h with ⟨hp_253, h⟩ | ⟨hp_253, h⟩
  · obtain ⟨x_266, e_267, h⟩ := lx_s h
    exact hc h
  · rcases it_s h with ⟨hp_275, h⟩ | ⟨hp_275, h⟩
    · obtain ⟨x_288, e_289, h⟩ := lx_s h
      exact hc h
    · obtain ⟨x_296, hc_295, h⟩ := bp_s h
      obtain ⟨x_305, hc_304, h⟩ := bp_s h
      rcases it_s h with ⟨hp_313, h⟩ | ⟨hp_313, h⟩
      · obtain ⟨x_345, e_346, h⟩ := lx_s h
        exact hc h
      · obtain ⟨x_326, e_327, h⟩ := lx_s h
        exact hc h
set_option maxHeartbeats 4000000 in
theorem kwl_X12_poll_148 {P : Prop} {m : MM} {y1 y2 : Int} {k226 : Int → Option (Int × MM)} {rz : Int} {rm : MM} (hF : Fix m)
  (hk226 : ∀ {z3 : Int}, k226 z3 = some (rz, rm) → P) (hQ : Kr fW_X12_poll 0 0 m rm → P) :
  ∀ (n : Nat) {y3 y4 : Int} , fl_X12_poll_148 y1 y2 m k226 n y3 y4 = some (rz, rm) → P := by
  intro n
  induction n with
  | zero => intro y3 y4 h; cases h
  | succ n ih0 =>
    intro y3 y4 h
    have ih : ∀ {z3 z4 : Int}, fl_X12_poll_148 y1 y2 m k226 n z3 z4 = some (rz, rm) → P := by intros; exact ih0 ‹_›
    unfold fl_X12_poll_148 at h
    obtain ⟨x_227, e_228, h⟩ := lx_s h
    rcases it_s h with ⟨hp_229, h⟩ | ⟨hp_229, h⟩
    · rcases it_s h with ⟨hp_232, h⟩ | ⟨hp_232, h⟩
      · exact hk226 h
      · obtain ⟨g_238, h⟩ := gd_s h
        obtain ⟨x_240, e_241, h⟩ := lx_s h
        rcases it_s h with ⟨hp_242, h⟩ | ⟨hp_242, h⟩
        · obtain ⟨x_353, hc_352, h⟩ := bp_s h
          rcases it_s h with ⟨hp_361, h⟩ | ⟨hp_361, h⟩
          · exact kwj_X12_poll_187 hF ih hk226 hQ h
          · exact kwj_X12_poll_187 hF ih hk226 hQ h
        · exact kwj_X12_poll_187 hF ih hk226 hQ h
    · exact hk226 h
set_option maxHeartbeats 4000000 in
theorem kwj_X12_poll_13 {P : Prop} {m : MM} {y1 s0 : Int} {rz : Int} {rm : MM} (hF : Fix m) (hQ : Kr fW_X12_poll 0 0 m rm → P)
  (h : fj_X12_poll_13 y1 s0 m = some (rz, rm)) : P := by
  unfold fj_X12_poll_13 at h
  obtain ⟨x_14, m_15, hc_13, h⟩ := bd_s h
  have w_22 := (kw_X12_fails hF hc_13)
  have E_20 := Kr.ext w_22
  have w_23 := Kr.tr0 (Kr.rf (W := fW_X12_poll) (e := 0) hF) w_22 (by decide +kernel)
  rcases it_s h with ⟨hp_25, h⟩ | ⟨hp_25, h⟩
  · refine kwl_X12_poll_25 (Kr.fix w_23) ?_ (fun f => hQ (Kr.trS w_23 f)) BIG h
    intro x_194
    intro h
    refine kwl_X12_poll_148 (Kr.fix w_23) ?_ (fun f => hQ (Kr.trS w_23 f)) BIG h
    intro x_366
    intro h
    rcases it_s h with ⟨hp_384, h⟩ | ⟨hp_384, h⟩
    · cases h
      exact hQ w_23
    · obtain ⟨x_391, e_392, h⟩ := lx_s h
      obtain ⟨g_393, h⟩ := gd_s h
      obtain ⟨m_394, e_395, h⟩ := up_s h
      have E_398 := ext_up e_395 (And.left (fx_kF (c := 100) (Kr.fix w_23) (by decide +kernel))) (And.left g_393)
      have w_399 := Kr.upC (y := (-9)) w_23 e_395 (ext_up e_395 (And.left (fx_kF (c := 100) (Kr.fix w_23) (by decide +kernel))) (And.left g_393)) (And.left (fx_kF (c := 100) (Kr.fix w_23) (by decide +kernel))) (fx_a (Kr.fix w_23) (fx_kF (c := 100) (Kr.fix w_23) (by decide +kernel)) (And.left g_393) (by decide +kernel)) (Or.inl rfl) (by decide +kernel) (fx_kF (c := 100) (Kr.fix w_23) (by decide +kernel)) (And.left g_393) (by first | exact Or.inl (by decide) | exact Or.inr (by decide))
      obtain ⟨x_407, e_408, h⟩ := lx_s h
      obtain ⟨g_409, h⟩ := gd_s h
      obtain ⟨m_410, e_411, h⟩ := up_s h
      have E_414 := ext_up e_411 (And.left (fx_kF (c := 100) (Kr.fix w_399) (by decide +kernel))) (And.left g_409)
      have w_415 := Kr.upC (y := (-9)) w_399 e_411 (ext_up e_411 (And.left (fx_kF (c := 100) (Kr.fix w_399) (by decide +kernel))) (And.left g_409)) (And.left (fx_kF (c := 100) (Kr.fix w_399) (by decide +kernel))) (fx_a (Kr.fix w_399) (fx_kF (c := 100) (Kr.fix w_399) (by decide +kernel)) (And.left g_409) (by decide +kernel)) (Or.inl rfl) (by decide +kernel) (fx_kF (c := 100) (Kr.fix w_399) (by decide +kernel)) (And.left g_409) (by first | exact Or.inl (by decide) | exact Or.inr (by decide))
      obtain ⟨x_423, e_424, h⟩ := lx_s h
      obtain ⟨g_430, h⟩ := gd_s h
      obtain ⟨x_432, e_433, h⟩ := lx_s h
      obtain ⟨g_434, h⟩ := gd_s h
      obtain ⟨m_435, e_436, h⟩ := up_s h
      have E_439 := ext_up e_436 (And.left (fx_kF (c := 100) (Kr.fix w_415) (by decide +kernel))) (And.left g_434)
      have w_440 := Kr.upC (y := (-9)) w_415 e_436 (ext_up e_436 (And.left (fx_kF (c := 100) (Kr.fix w_415) (by decide +kernel))) (And.left g_434)) (And.left (fx_kF (c := 100) (Kr.fix w_415) (by decide +kernel))) (fx_a (Kr.fix w_415) (fx_kF (c := 100) (Kr.fix w_415) (by decide +kernel)) (And.left g_434) (by decide +kernel)) (Or.inl rfl) (by decide +kernel) (fx_kF (c := 100) (Kr.fix w_415) (by decide +kernel)) (And.left g_434) (by first | exact Or.inl (by decide) | exact Or.inr (by decide))
      obtain ⟨x_448, e_449, h⟩ := lx_s h
      obtain ⟨x_453, e_454, h⟩ := lx_s h
      obtain ⟨g_455, h⟩ := gd_s h
      obtain ⟨m_456, e_457, h⟩ := up_s h
      have E_460 := ext_up e_457 (And.left (fx_kF (c := 100) (Kr.fix w_440) (by decide +kernel))) (And.left g_455)
      have w_461 := Kr.upC (y := (-9)) w_440 e_457 (ext_up e_457 (And.left (fx_kF (c := 100) (Kr.fix w_440) (by decide +kernel))) (And.left g_455)) (And.left (fx_kF (c := 100) (Kr.fix w_440) (by decide +kernel))) (fx_a (Kr.fix w_440) (fx_kF (c := 100) (Kr.fix w_440) (by decide +kernel)) (And.left g_455) (by decide +kernel)) (Or.inl rfl) (by decide +kernel) (fx_kF (c := 100) (Kr.fix w_440) (by decide +kernel)) (And.left g_455) (by first | exact Or.inl (by decide) | exact Or.inr (by decide))
      obtain ⟨x_469, e_470, h⟩ := lx_s h
      obtain ⟨x_477, e_478, h⟩ := lx_s h
      obtain ⟨g_479, h⟩ := gd_s h
      obtain ⟨m_480, e_481, h⟩ := up_s h
      have E_484 := ext_up e_481 (And.left (fx_kF (c := 100) (Kr.fix w_461) (by decide +kernel))) (And.left g_479)
      have w_485 := Kr.upC (y := (-9)) w_461 e_481 (ext_up e_481 (And.left (fx_kF (c := 100) (Kr.fix w_461) (by decide +kernel))) (And.left g_479)) (And.left (fx_kF (c := 100) (Kr.fix w_461) (by decide +kernel))) (fx_a (Kr.fix w_461) (fx_kF (c := 100) (Kr.fix w_461) (by decide +kernel)) (And.left g_479) (by decide +kernel)) (Or.inl rfl) (by decide +kernel) (fx_kF (c := 100) (Kr.fix w_461) (by decide +kernel)) (And.left g_479) (by first | exact Or.inl (by decide) | exact Or.inr (by decide))
      obtain ⟨x_493, e_494, h⟩ := lx_s h
      obtain ⟨x_501, e_502, h⟩ := lx_s h
      obtain ⟨g_503, h⟩ := gd_s h
      obtain ⟨m_504, e_505, h⟩ := up_s h
      have E_508 := ext_up e_505 (And.left (fx_kF (c := 100) (Kr.fix w_485) (by decide +kernel))) (And.left g_503)
      have w_509 := Kr.upC (y := (-9)) w_485 e_505 (ext_up e_505 (And.left (fx_kF (c := 100) (Kr.fix w_485) (by decide +kernel))) (And.left g_503)) (And.left (fx_kF (c := 100) (Kr.fix w_485) (by decide +kernel))) (fx_a (Kr.fix w_485) (fx_kF (c := 100) (Kr.fix w_485) (by decide +kernel)) (And.left g_503) (by decide +kernel)) (Or.inl rfl) (by decide +kernel) (fx_kF (c := 100) (Kr.fix w_485) (by decide +kernel)) (And.left g_503) (by first | exact Or.inl (by decide) | exact Or.inr (by decide))
      obtain ⟨x_517, e_518, h⟩ := lx_s h
      obtain ⟨x_525, e_526, h⟩ := lx_s h
      obtain ⟨g_527, h⟩ := gd_s h
      obtain ⟨m_528, e_529, h⟩ := up_s h
      have E_532 := ext_up e_529 (And.left (fx_kF (c := 100) (Kr.fix w_509) (by decide +kernel))) (And.left g_527)
      have w_533 := Kr.upC (y := (-9)) w_509 e_529 (ext_up e_529 (And.left (fx_kF (c := 100) (Kr.fix w_509) (by decide +kernel))) (And.left g_527)) (And.left (fx_kF (c := 100) (Kr.fix w_509) (by decide +kernel))) (fx_a (Kr.fix w_509) (fx_kF (c := 100) (Kr.fix w_509) (by decide +kernel)) (And.left g_527) (by decide +kernel)) (Or.inl rfl) (by decide +kernel) (fx_kF (c := 100) (Kr.fix w_509) (by decide +kernel)) (And.left g_527) (by first | exact Or.inl (by decide) | exact Or.inr (by decide))
      obtain ⟨g_540, h⟩ := gd_s h
      obtain ⟨x_542, e_543, h⟩ := lx_s h
      obtain ⟨m_548, e_549, h⟩ := up_s h
      have E_552 := ext_up e_549 (And.left (fx_kF (c := 100) (Kr.fix w_533) (by decide +kernel))) (And.left g_540)
      have w_553 := Kr.upC (y := (-9)) w_533 e_549 (ext_up e_549 (And.left (fx_kF (c := 100) (Kr.fix w_533) (by decide +kernel))) (And.left g_540)) (And.left (fx_kF (c := 100) (Kr.fix w_533) (by decide +kernel))) (fx_a (Kr.fix w_533) (fx_kF (c := 100) (Kr.fix w_533) (by decide +kernel)) (And.left g_540) (by decide +kernel)) (Or.inl rfl) (by decide +kernel) (fx_kF (c := 100) (Kr.fix w_533) (by decide +kernel)) (And.left g_540) (by first | exact Or.inl (by decide) | exact Or.inr (by decide))
      obtain ⟨x_561, e_562, h⟩ := lx_s h
      obtain ⟨m_567, e_568, h⟩ := up_s h
      have E_571 := ext_up e_568 (And.left (fx_kF (c := 100) (Kr.fix w_553) (by decide +kernel))) (And.left g_540)
      have w_572 := Kr.upC (y := (-9)) w_553 e_568 (ext_up e_568 (And.left (fx_kF (c := 100) (Kr.fix w_553) (by decide +kernel))) (And.left g_540)) (And.left (fx_kF (c := 100) (Kr.fix w_553) (by decide +kernel))) (fx_a (Kr.fix w_553) (fx_kF (c := 100) (Kr.fix w_553) (by decide +kernel)) (And.left g_540) (by decide +kernel)) (Or.inl rfl) (by decide +kernel) (fx_kF (c := 100) (Kr.fix w_553) (by decide +kernel)) (And.left g_540) (by first | exact Or.inl (by decide) | exact Or.inr (by decide))
      obtain ⟨x_577, e_578, h⟩ := lx_s h
      obtain ⟨m_583, e_584, h⟩ := up_s h
      have E_587 := ext_up e_584 (And.left (fx_kF (c := 13) (Kr.fix w_572) (by decide +kernel))) (by decide)
      have w_588 := Kr.upC (y := 51) w_572 e_584 (ext_up e_584 (And.left (fx_kF (c := 13) (Kr.fix w_572) (by decide +kernel))) (by decide)) (And.left (fx_kF (c := 13) (Kr.fix w_572) (by decide +kernel))) (fx_f (j := 51) (Kr.fix w_572) (fx_kF (c := 13) (Kr.fix w_572) (by decide +kernel)) (by decide +kernel)) (Or.inr rfl) (by decide +kernel) (fx_kF (c := 13) (Kr.fix w_572) (by decide +kernel)) (by decide) (by first | exact Or.inl (by decide) | exact Or.inr (by decide))
      obtain ⟨x_595, e_596, h⟩ := lx_s h
      cases h
      exact hQ w_588
  · cases h
    exact hQ w_23
set_option maxHeartbeats 4000000 in
theorem kw_X12_poll {m0 : MM} {p1 : Int} {rz : Int} {rm : MM} (hF : Fix m0)
  (h : fm_X12_poll p1 m0 = some (rz, rm)) : Kr fW_X12_poll 0 0 m0 rm := by
  have hQ : Kr fW_X12_poll 0 0 m0 rm → Kr fW_X12_poll 0 0 m0 rm := id
  unfold fm_X12_poll at h
  obtain ⟨x_2, hc_1, h⟩ := bp_s h
  rcases it_s h with ⟨hp_10, h⟩ | ⟨hp_10, h⟩
  · exact kwj_X12_poll_13 hF hQ h
  · exact kwj_X12_poll_13 hF hQ h
set_option maxHeartbeats 4000000 in
theorem kwl_X12_goesOnAsNew_92 {P : Prop} {mb : MM} {y1 y3 y4 : Int} {k133 : MM → Option (Int × MM)} {rz : Int} {rm : MM} (hF0 : Fix mb)
  (hk133 : ∀ mq : MM, Kr fW_X12_goesOnAsNew 0 0 mb mq → k133 mq = some (rz, rm) → P) (hQ : Kr fW_X12_goesOnAsNew 0 0 mb rm → P) :
  ∀ (n : Nat) {m : MM} {y5 : Int} , Kr fW_X12_goesOnAsNew 0 0 mb m → fl_X12_goesOnAsNew_92 y1 y3 y4 k133 n y5 m = some (rz, rm) → P := by
  intro n
  induction n with
  | zero => intro m y5 w h; cases h
  | succ n ih0 =>
    intro m y5 w h
    have ih : ∀ mq : MM, Kr fW_X12_goesOnAsNew 0 0 mb mq → ∀ {z5 : Int}, fl_X12_goesOnAsNew_92 y1 y3 y4 k133 n z5 mq = some (rz, rm) → P := fun mq b => by intros; exact ih0 b ‹_›
    unfold fl_X12_goesOnAsNew_92 at h
    obtain ⟨g_122, h⟩ := gd_s h
    obtain ⟨x_124, e_125, h⟩ := lx_s h
    rcases it_s h with ⟨hp_126, h⟩ | ⟨hp_126, h⟩
    · obtain ⟨g_140, h⟩ := gd_s h
      obtain ⟨x_142, e_143, h⟩ := lx_s h
      obtain ⟨x_145, m_146, hc_144, h⟩ := bd_s h
      have w_153 := (kw_X12_puts (Kr.fix w) hc_144)
      have E_151 := Kr.ext w_153
      have w_154 := Kr.tr0 w w_153 (by decide +kernel)
      obtain ⟨x_161, e_162, h⟩ := lx_s h
      exact ih m_146 w_154 h
    · exact hk133 m w h
set_option maxHeartbeats 4000000 in
theorem kwl_X12_goesOnAsNew_77 {P : Prop} {mb : MM} {y1 y3 : Int} {k139 : MM → Option (Int × MM)} {rz : Int} {rm : MM} (hF0 : Fix mb)
  (hk139 : ∀ mq : MM, Kr fW_X12_goesOnAsNew 0 0 mb mq → k139 mq = some (rz, rm) → P) (hQ : Kr fW_X12_goesOnAsNew 0 0 mb rm → P) :
  ∀ (n : Nat) {m : MM} {y4 : Int} , Kr fW_X12_goesOnAsNew 0 0 mb m → fl_X12_goesOnAsNew_77 y1 y3 k139 n y4 m = some (rz, rm) → P := by
  intro n
  induction n with
  | zero => intro m y4 w h; cases h
  | succ n ih0 =>
    intro m y4 w h
    have ih : ∀ mq : MM, Kr fW_X12_goesOnAsNew 0 0 mb mq → ∀ {z4 : Int}, fl_X12_goesOnAsNew_77 y1 y3 k139 n z4 mq = some (rz, rm) → P := fun mq b => by intros; exact ih0 b ‹_›
    unfold fl_X12_goesOnAsNew_77 at h
    rcases it_s h with ⟨hp_100, h⟩ | ⟨hp_100, h⟩
    · obtain ⟨g_106, h⟩ := gd_s h
      obtain ⟨x_108, e_109, h⟩ := lx_s h
      refine kwl_X12_goesOnAsNew_92 (Kr.fix w) ?_ (fun f => hQ (Kr.trS w f)) BIG (Kr.rf (Kr.fix w)) h
      intro m_183 w_186
      intro h
      have E_184 := Kr.ext w_186
      have w_187 := Kr.trS w w_186
      obtain ⟨x_193, e_194, h⟩ := lx_s h
      exact ih m_183 w_187 h
    · exact hk139 m w h
set_option maxHeartbeats 4000000 in
theorem kwj_X12_goesOnAsNew_179 {P : Prop} {m : MM} {y1 y3 y5 y6 s0 s1 : Int} {rz : Int} {rm : MM} {c : Int → Int → MM → Option (Int × MM)} {k224 : MM → Option (Int × MM)} (hF : Fix m)
  (hc : ∀ mq : MM, Kr fW_X12_goesOnAsNew 0 0 m mq → ∀ {z4 z5 : Int}, c z4 z5 mq = some (rz, rm) → P)
  (hk224 : ∀ mq : MM, Kr fW_X12_goesOnAsNew 0 0 m mq → k224 mq = some (rz, rm) → P) (hQ : Kr fW_X12_goesOnAsNew 0 0 m rm → P)
  (h : fj_X12_goesOnAsNew_179 c k224 y1 y3 y5 y6 s0 s1 m = some (rz, rm)) : P := by
  unfold fj_X12_goesOnAsNew_179 at h
  obtain ⟨x_267, e_268, h⟩ := lx_s h
  rcases it_s h with ⟨hp_280, h⟩ | ⟨hp_280, h⟩
  · obtain ⟨x_296, e_297, h⟩ := lx_s h
    rcases it_s h with ⟨hp_298, h⟩ | ⟨hp_298, h⟩
    · obtain ⟨x_314, hc_313, h⟩ := bp_s h
      obtain ⟨x_323, hc_322, h⟩ := bp_s h
      obtain ⟨x_332, m_333, hc_331, h⟩ := bd_s h
      have w_340 := (kw_X12_puts hF hc_331)
      have E_338 := Kr.ext w_340
      have w_341 := Kr.tr0 (Kr.rf (W := fW_X12_goesOnAsNew) (e := 0) hF) w_340 (by decide +kernel)
      obtain ⟨x_348, e_349, h⟩ := lx_s h
      exact hc m_333 w_341 h
    · obtain ⟨x_304, e_305, h⟩ := lx_s h
      exact hc m (Kr.rf (W := fW_X12_goesOnAsNew) (e := 0) hF) h
  · obtain ⟨x_286, e_287, h⟩ := lx_s h
    exact hc m (Kr.rf (W := fW_X12_goesOnAsNew) (e := 0) hF) h
set_option maxHeartbeats 4000000 in
theorem kwl_X12_goesOnAsNew_145 {P : Prop} {mb : MM} {y1 y3 : Int} {k224 : MM → Option (Int × MM)} {rz : Int} {rm : MM} (hF0 : Fix mb)
  (hk224 : ∀ mq : MM, Kr fW_X12_goesOnAsNew 0 0 mb mq → k224 mq = some (rz, rm) → P) (hQ : Kr fW_X12_goesOnAsNew 0 0 mb rm → P) :
  ∀ (n : Nat) {m : MM} {y4 y5 : Int} , Kr fW_X12_goesOnAsNew 0 0 mb m → fl_X12_goesOnAsNew_145 y1 y3 k224 n y4 y5 m = some (rz, rm) → P := by
  intro n
  induction n with
  | zero => intro m y4 y5 w h; cases h
  | succ n ih0 =>
    intro m y4 y5 w h
    have ih : ∀ mq : MM, Kr fW_X12_goesOnAsNew 0 0 mb mq → ∀ {z4 z5 : Int}, fl_X12_goesOnAsNew_145 y1 y3 k224 n z4 z5 mq = some (rz, rm) → P := fun mq b => by intros; exact ih0 b ‹_›
    unfold fl_X12_goesOnAsNew_145 at h
    obtain ⟨g_238, h⟩ := gd_s h
    obtain ⟨x_240, e_241, h⟩ := lx_s h
    rcases it_s h with ⟨hp_242, h⟩ | ⟨hp_242, h⟩
    · obtain ⟨x_244, hc_243, h⟩ := bp_s h
      rcases it_s h with ⟨hp_262, h⟩ | ⟨hp_262, h⟩
      · exact kwj_X12_goesOnAsNew_179 (Kr.fix w) (fun mq f => ih mq (Kr.trS w f)) (fun mq f => hk224 mq (Kr.trS w f)) (fun f => hQ (Kr.trS w f)) h
      · exact kwj_X12_goesOnAsNew_179 (Kr.fix w) (fun mq f => ih mq (Kr.trS w f)) (fun mq f => hk224 mq (Kr.trS w f)) (fun f => hQ (Kr.trS w f)) h
    · exact hk224 m w h
set_option maxHeartbeats 4000000 in
theorem kw_X12_goesOnAsNew {m0 : MM} {p1 p2 : Int} {rz : Int} {rm : MM} (hF : Fix m0)
  (h : fm_X12_goesOnAsNew p1 p2 m0 = some (rz, rm)) : Kr fW_X12_goesOnAsNew 0 0 m0 rm := by
  have hQ : Kr fW_X12_goesOnAsNew 0 0 m0 rm → Kr fW_X12_goesOnAsNew 0 0 m0 rm := id
  unfold fm_X12_goesOnAsNew at h
  obtain ⟨x_4, e_5, h⟩ := lx_s h
  rcases it_s h with ⟨hp_8, h⟩ | ⟨hp_8, h⟩
  · obtain ⟨g_392, h⟩ := gd_s h
    obtain ⟨m_393, e_394, h⟩ := up_s h
    have E_397 := ext_up e_394 (And.left (fx_kF (c := 100) hF (by decide +kernel))) (And.left g_392)
    have w_398 := Kr.upC (y := (-9)) (Kr.rf (W := fW_X12_goesOnAsNew) (e := 0) hF) e_394 (ext_up e_394 (And.left (fx_kF (c := 100) hF (by decide +kernel))) (And.left g_392)) (And.left (fx_kF (c := 100) hF (by decide +kernel))) (fx_a hF (fx_kF (c := 100) hF (by decide +kernel)) (And.left g_392) (by decide +kernel)) (Or.inl rfl) (by decide +kernel) (fx_kF (c := 100) hF (by decide +kernel)) (And.left g_392) (by first | exact Or.inl (by decide) | exact Or.inr (by decide))
    obtain ⟨x_405, m_406, hc_404, h⟩ := bd_s h
    have w_413 := (kw_X12_closes (Kr.fix w_398) hc_404)
    have E_411 := Kr.ext w_413
    have w_414 := Kr.tr0 w_398 w_413 (by decide +kernel)
    cases h
    exact hQ w_414
  · obtain ⟨g_14, h⟩ := gd_s h
    obtain ⟨m_15, e_16, h⟩ := up_s h
    have E_19 := ext_up e_16 (And.left (fx_kF (c := 100) hF (by decide +kernel))) (And.left g_14)
    have w_20 := Kr.upC (y := (-9)) (Kr.rf (W := fW_X12_goesOnAsNew) (e := 0) hF) e_16 (ext_up e_16 (And.left (fx_kF (c := 100) hF (by decide +kernel))) (And.left g_14)) (And.left (fx_kF (c := 100) hF (by decide +kernel))) (fx_a hF (fx_kF (c := 100) hF (by decide +kernel)) (And.left g_14) (by decide +kernel)) (Or.inl rfl) (by decide +kernel) (fx_kF (c := 100) hF (by decide +kernel)) (And.left g_14) (by first | exact Or.inl (by decide) | exact Or.inr (by decide))
    obtain ⟨x_28, e_29, h⟩ := lx_s h
    obtain ⟨x_36, e_37, h⟩ := lx_s h
    obtain ⟨g_49, h⟩ := gd_s h
    obtain ⟨x_51, e_52, h⟩ := lx_s h
    obtain ⟨x_63, e_64, h⟩ := lx_s h
    obtain ⟨x_71, e_72, h⟩ := lx_s h
    obtain ⟨x_74, m_75, hc_73, h⟩ := bd_s h
    have w_82 := (kw_X12_makes (Kr.fix w_20) hc_73)
    have E_80 := Kr.ext w_82
    have w_83 := Kr.tr0 w_20 w_82 (by decide +kernel)
    refine kwl_X12_goesOnAsNew_77 (Kr.fix w_83) ?_ (fun f => hQ (Kr.trS w_83 f)) BIG (Kr.rf (Kr.fix w_83)) h
    intro m_211 w_214
    intro h
    have E_212 := Kr.ext w_214
    have w_215 := Kr.trS w_83 w_214
    refine kwl_X12_goesOnAsNew_145 (Kr.fix w_215) ?_ (fun f => hQ (Kr.trS w_215 f)) BIG (Kr.rf (Kr.fix w_215)) h
    intro m_366 w_369
    intro h
    have E_367 := Kr.ext w_369
    have w_370 := Kr.trS w_215 w_369
    obtain ⟨x_376, m_377, hc_375, h⟩ := bd_s h
    have w_384 := (kw_X12_closes (Kr.fix w_370) hc_375)
    have E_382 := Kr.ext w_384
    have w_385 := Kr.tr0 w_370 w_384 (by decide +kernel)
    cases h
    exact hQ w_385
set_option maxHeartbeats 4000000 in
theorem kwj_X12_carriesOut_207 {P : Prop} {m : MM} {y1 s0 s1 : Int} {rz : Int} {rm : MM} (hF : Fix m) (hQ : Kr fW_X12_carriesOut 0 0 m rm → P)
  (h : fj_X12_carriesOut_207 y1 s0 s1 m = some (rz, rm)) : P := by
  unfold fj_X12_carriesOut_207 at h
  obtain ⟨g_48, h⟩ := gd_s h
  obtain ⟨m_49, e_50, h⟩ := up_s h
  have E_53 := ext_up e_50 (And.left (fx_kF (c := 100) hF (by decide +kernel))) (And.left g_48)
  have w_54 := Kr.upC (y := (-9)) (Kr.rf (W := fW_X12_carriesOut) (e := 0) hF) e_50 (ext_up e_50 (And.left (fx_kF (c := 100) hF (by decide +kernel))) (And.left g_48)) (And.left (fx_kF (c := 100) hF (by decide +kernel))) (fx_a hF (fx_kF (c := 100) hF (by decide +kernel)) (And.left g_48) (by decide +kernel)) (Or.inl rfl) (by decide +kernel) (fx_kF (c := 100) hF (by decide +kernel)) (And.left g_48) (by first | exact Or.inl (by decide) | exact Or.inr (by decide))
  obtain ⟨x_61, m_62, hc_60, h⟩ := bd_s h
  have w_69 := (kw_X12_closes (Kr.fix w_54) hc_60)
  have E_67 := Kr.ext w_69
  have w_70 := Kr.tr0 w_54 w_69 (by decide +kernel)
  cases h
  exact hQ w_70
set_option maxHeartbeats 4000000 in
theorem kwj_X12_carriesOut_66 {P : Prop} {m : MM} {y1 y2 : Int} {rz : Int} {rm : MM} (hF : Fix m) (hQ : Kr fW_X12_carriesOut 0 0 m rm → P)
  (h : fj_X12_carriesOut_66 y1 y2 m = some (rz, rm)) : P := by
  unfold fj_X12_carriesOut_66 at h
  obtain ⟨x_164, m_165, hc_163, h⟩ := bd_s h
  have w_172 := (kw_X12_puts hF hc_163)
  have E_170 := Kr.ext w_172
  have w_173 := Kr.tr0 (Kr.rf (W := fW_X12_carriesOut) (e := 0) hF) w_172 (by decide +kernel)
  cases h
  exact hQ w_173
set_option maxHeartbeats 4000000 in
theorem kw_X12_carriesOut {m0 : MM} {p1 p2 p3 p4 p5 : Int} {rz : Int} {rm : MM} (hF : Fix m0)
  (h : fm_X12_carriesOut p1 p2 p3 p4 p5 m0 = some (rz, rm)) : Kr fW_X12_carriesOut 0 0 m0 rm := by
  have hQ : Kr fW_X12_carriesOut 0 0 m0 rm → Kr fW_X12_carriesOut 0 0 m0 rm := id
  unfold fm_X12_carriesOut at h
  rcases it_s h with ⟨hp_3, h⟩ | ⟨hp_3, h⟩
  · obtain ⟨x_236, m_237, hc_235, h⟩ := bd_s h
    have w_244 := (kw_X12_makesActivity hF hc_235)
    have E_242 := Kr.ext w_244
    have w_245 := Kr.tr0 (Kr.rf (W := fW_X12_carriesOut) (e := 0) hF) w_244 (by decide +kernel)
    cases h
    exact hQ w_245
  · rcases it_s h with ⟨hp_6, h⟩ | ⟨hp_6, h⟩
    · obtain ⟨x_219, e_220, h⟩ := lx_s h
      obtain ⟨x_224, m_225, hc_223, h⟩ := bd_s h
      have w_232 := (kw_X12_makesTimer hF hc_223)
      have E_230 := Kr.ext w_232
      have w_233 := Kr.tr0 (Kr.rf (W := fW_X12_carriesOut) (e := 0) hF) w_232 (by decide +kernel)
      cases h
      exact hQ w_233
    · rcases it_s h with ⟨hp_9, h⟩ | ⟨hp_9, h⟩
      · obtain ⟨x_154, e_155, h⟩ := lx_s h
        rcases it_s h with ⟨hp_158, h⟩ | ⟨hp_158, h⟩
        · exact kwj_X12_carriesOut_66 hF hQ h
        · obtain ⟨g_180, h⟩ := gd_s h
          obtain ⟨x_182, e_183, h⟩ := lx_s h
          rcases it_s h with ⟨hp_184, h⟩ | ⟨hp_184, h⟩
          · exact kwj_X12_carriesOut_66 hF hQ h
          · obtain ⟨g_190, h⟩ := gd_s h
            obtain ⟨x_192, e_193, h⟩ := lx_s h
            obtain ⟨x_205, m_206, hc_204, h⟩ := bd_s h
            have w_213 := (kw_X12_makes hF hc_204)
            have E_211 := Kr.ext w_213
            have w_214 := Kr.tr0 (Kr.rf (W := fW_X12_carriesOut) (e := 0) hF) w_213 (by decide +kernel)
            cases h
            exact hQ w_214
      · rcases it_s h with ⟨hp_12, h⟩ | ⟨hp_12, h⟩
        · obtain ⟨x_140, m_141, hc_139, h⟩ := bd_s h
          have w_148 := (kw_X12_drops hF hc_139)
          have E_146 := Kr.ext w_148
          have w_149 := Kr.tr0 (Kr.rf (W := fW_X12_carriesOut) (e := 0) hF) w_148 (by decide +kernel)
          cases h
          exact hQ w_149
        · rcases it_s h with ⟨hp_15, h⟩ | ⟨hp_15, h⟩
          · obtain ⟨x_107, e_108, h⟩ := lx_s h
            obtain ⟨g_115, h⟩ := gd_s h
            obtain ⟨m_116, e_117, h⟩ := up_s h
            have E_120 := ext_up e_117 (And.left (fx_kF (c := 100) hF (by decide +kernel))) (And.left g_115)
            have w_121 := Kr.upC (y := (-9)) (Kr.rf (W := fW_X12_carriesOut) (e := 0) hF) e_117 (ext_up e_117 (And.left (fx_kF (c := 100) hF (by decide +kernel))) (And.left g_115)) (And.left (fx_kF (c := 100) hF (by decide +kernel))) (fx_a hF (fx_kF (c := 100) hF (by decide +kernel)) (And.left g_115) (by decide +kernel)) (Or.inl rfl) (by decide +kernel) (fx_kF (c := 100) hF (by decide +kernel)) (And.left g_115) (by first | exact Or.inl (by decide) | exact Or.inr (by decide))
            obtain ⟨x_126, e_127, h⟩ := lx_s h
            obtain ⟨m_132, e_133, h⟩ := up_s h
            have E_136 := ext_up e_133 (And.left (fx_kF (c := 13) (Kr.fix w_121) (by decide +kernel))) (by decide)
            have w_137 := Kr.upC (y := 80) w_121 e_133 (ext_up e_133 (And.left (fx_kF (c := 13) (Kr.fix w_121) (by decide +kernel))) (by decide)) (And.left (fx_kF (c := 13) (Kr.fix w_121) (by decide +kernel))) (fx_f (j := 80) (Kr.fix w_121) (fx_kF (c := 13) (Kr.fix w_121) (by decide +kernel)) (by decide +kernel)) (Or.inr rfl) (by decide +kernel) (fx_kF (c := 13) (Kr.fix w_121) (by decide +kernel)) (by decide) (by first | exact Or.inl (by decide) | exact Or.inr (by decide))
            cases h
            exact hQ w_137
          · rcases it_s h with ⟨hp_18, h⟩ | ⟨hp_18, h⟩
            · obtain ⟨g_79, h⟩ := gd_s h
              obtain ⟨m_80, e_81, h⟩ := up_s h
              have E_84 := ext_up e_81 (And.left (fx_kF (c := 100) hF (by decide +kernel))) (And.left g_79)
              have w_85 := Kr.upC (y := (-9)) (Kr.rf (W := fW_X12_carriesOut) (e := 0) hF) e_81 (ext_up e_81 (And.left (fx_kF (c := 100) hF (by decide +kernel))) (And.left g_79)) (And.left (fx_kF (c := 100) hF (by decide +kernel))) (fx_a hF (fx_kF (c := 100) hF (by decide +kernel)) (And.left g_79) (by decide +kernel)) (Or.inl rfl) (by decide +kernel) (fx_kF (c := 100) hF (by decide +kernel)) (And.left g_79) (by first | exact Or.inl (by decide) | exact Or.inr (by decide))
              obtain ⟨x_90, m_91, hc_89, h⟩ := bd_s h
              have w_98 := (kw_X12_closes (Kr.fix w_85) hc_89)
              have E_96 := Kr.ext w_98
              have w_99 := Kr.tr0 w_85 w_98 (by decide +kernel)
              cases h
              exact hQ w_99
            · rcases it_s h with ⟨hp_21, h⟩ | ⟨hp_21, h⟩
              · obtain ⟨x_43, e_44, h⟩ := lx_s h
                rcases it_s h with ⟨hp_45, h⟩ | ⟨hp_45, h⟩
                · exact kwj_X12_carriesOut_207 hF hQ h
                · exact kwj_X12_carriesOut_207 hF hQ h
              · rcases it_s h with ⟨hp_24, h⟩ | ⟨hp_24, h⟩
                · obtain ⟨x_26, m_27, hc_25, h⟩ := bd_s h
                  have w_34 := (kw_X12_goesOnAsNew hF hc_25)
                  have E_32 := Kr.ext w_34
                  have w_35 := Kr.tr0 (Kr.rf (W := fW_X12_carriesOut) (e := 0) hF) w_34 (by decide +kernel)
                  cases h
                  exact hQ w_35
                · cases h
                  exact hQ (Kr.rf (W := fW_X12_carriesOut) (e := 0) hF)
set_option maxHeartbeats 4000000 in
theorem kwl_X12_complete_232 {P : Prop} {mb : MM} {y1 y3 y5 y7 y8 y9 : Int} {k282 : MM → Option (Int × MM)} {rz : Int} {rm : MM} (hF0 : Fix mb)
  (hk282 : ∀ mq : MM, Kr fW_X12_complete 0 0 mb mq → k282 mq = some (rz, rm) → P) (hQ : Kr fW_X12_complete 0 0 mb rm → P) :
  ∀ (n : Nat) {m : MM} {y10 : Int} , Kr fW_X12_complete 0 0 mb m → fl_X12_complete_232 y1 y3 y5 y7 y8 y9 k282 n y10 m = some (rz, rm) → P := by
  intro n
  induction n with
  | zero => intro m y10 w h; cases h
  | succ n ih0 =>
    intro m y10 w h
    have ih : ∀ mq : MM, Kr fW_X12_complete 0 0 mb mq → ∀ {z10 : Int}, fl_X12_complete_232 y1 y3 y5 y7 y8 y9 k282 n z10 mq = some (rz, rm) → P := fun mq b => by intros; exact ih0 b ‹_›
    unfold fl_X12_complete_232 at h
    obtain ⟨x_258, e_259, h⟩ := lx_s h
    rcases it_s h with ⟨hp_260, h⟩ | ⟨hp_260, h⟩
    · obtain ⟨g_266, h⟩ := gd_s h
      obtain ⟨x_268, e_269, h⟩ := lx_s h
      obtain ⟨x_280, e_281, h⟩ := lx_s h
      obtain ⟨x_293, m_294, hc_292, h⟩ := bd_s h
      have w_301 := (kw_X12_puts (Kr.fix w) hc_292)
      have E_299 := Kr.ext w_301
      have w_302 := Kr.tr0 w w_301 (by decide +kernel)
      obtain ⟨x_309, e_310, h⟩ := lx_s h
      exact ih m_294 w_302 h
    · exact hk282 m w h
set_option maxHeartbeats 4000000 in
theorem kwl_X12_complete_357 {P : Prop} {mb : MM} {y3 y9 : Int} {rz : Int} {rm : MM} (hF0 : Fix mb) (hQ : Kr fW_X12_complete 0 0 mb rm → P) :
  ∀ (n : Nat) {m : MM} {y10 : Int} , Kr fW_X12_complete 0 0 mb m → fl_X12_complete_357 y3 y9 n y10 m = some (rz, rm) → P := by
  intro n
  induction n with
  | zero => intro m y10 w h; cases h
  | succ n ih0 =>
    intro m y10 w h
    have ih : ∀ mq : MM, Kr fW_X12_complete 0 0 mb mq → ∀ {z10 : Int}, fl_X12_complete_357 y3 y9 n z10 mq = some (rz, rm) → P := fun mq b => by intros; exact ih0 b ‹_›
    unfold fl_X12_complete_357 at h
    obtain ⟨x_459, e_460, h⟩ := lx_s h
    rcases it_s h with ⟨hp_461, h⟩ | ⟨hp_461, h⟩
    · obtain ⟨g_472, h⟩ := gd_s h
      obtain ⟨x_474, e_475, h⟩ := lx_s h
      obtain ⟨x_486, e_487, h⟩ := lx_s h
      obtain ⟨x_499, m_500, hc_498, h⟩ := bd_s h
      have w_507 := (kw_X12_carriesOut (Kr.fix w) hc_498)
      have E_505 := Kr.ext w_507
      have w_508 := Kr.tr0 w w_507 (by decide +kernel)
      obtain ⟨x_515, e_516, h⟩ := lx_s h
      exact ih m_500 w_508 h
    · cases h
      exact hQ w
set_option maxHeartbeats 4000000 in
theorem kwj_X12_complete_193 {P : Prop} {m : MM} {y1 y3 y5 y7 y8 : Int} {rz : Int} {rm : MM} (hF : Fix m) (hQ : Kr fW_X12_complete 0 0 m rm → P)
  (h : fj_X12_complete_193 y1 y3 y5 y7 y8 m = some (rz, rm)) : P := by
  unfold fj_X12_complete_193 at h
  obtain ⟨x_222, e_223, h⟩ := lx_s h
  rcases it_s h with ⟨hp_224, h⟩ | ⟨hp_224, h⟩
  · obtain ⟨g_230, h⟩ := gd_s h
    obtain ⟨x_232, e_233, h⟩ := lx_s h
    refine kwl_X12_complete_232 hF ?_ hQ BIG (Kr.rf hF) h
    intro m_343 w_346
    intro h
    have E_344 := Kr.ext w_346
    have w_347 := w_346
    obtain ⟨g_355, h⟩ := gd_s h
    obtain ⟨x_357, e_358, h⟩ := lx_s h
    obtain ⟨x_362, m_363, hc_361, h⟩ := bd_s h
    have w_370 := (kw_X12_puts (Kr.fix w_347) hc_361)
    have E_368 := Kr.ext w_370
    have w_371 := Kr.tr0 w_347 w_370 (by decide +kernel)
    obtain ⟨x_382, e_383, h⟩ := lx_s h
    obtain ⟨g_384, h⟩ := gd_s h
    obtain ⟨m_385, e_386, h⟩ := up_s h
    have E_389 := ext_up e_386 (And.left (fx_kF (c := 100) (Kr.fix w_371) (by decide +kernel))) (And.left g_384)
    have w_390 := Kr.upC (y := (-9)) w_371 e_386 (ext_up e_386 (And.left (fx_kF (c := 100) (Kr.fix w_371) (by decide +kernel))) (And.left g_384)) (And.left (fx_kF (c := 100) (Kr.fix w_371) (by decide +kernel))) (fx_a (Kr.fix w_371) (fx_kF (c := 100) (Kr.fix w_371) (by decide +kernel)) (And.left g_384) (by decide +kernel)) (Or.inl rfl) (by decide +kernel) (fx_kF (c := 100) (Kr.fix w_371) (by decide +kernel)) (And.left g_384) (by first | exact Or.inl (by decide) | exact Or.inr (by decide))
    obtain ⟨x_401, e_402, h⟩ := lx_s h
    obtain ⟨m_403, e_404, h⟩ := up_s h
    have E_407 := ext_up e_404 (And.left (fx_kF (c := 100) (Kr.fix w_390) (by decide +kernel))) (And.left g_384)
    have w_408 := Kr.upC (y := (-9)) w_390 e_404 (ext_up e_404 (And.left (fx_kF (c := 100) (Kr.fix w_390) (by decide +kernel))) (And.left g_384)) (And.left (fx_kF (c := 100) (Kr.fix w_390) (by decide +kernel))) (fx_a (Kr.fix w_390) (fx_kF (c := 100) (Kr.fix w_390) (by decide +kernel)) (And.left g_384) (by decide +kernel)) (Or.inl rfl) (by decide +kernel) (fx_kF (c := 100) (Kr.fix w_390) (by decide +kernel)) (And.left g_384) (by first | exact Or.inl (by decide) | exact Or.inr (by decide))
    obtain ⟨x_419, e_420, h⟩ := lx_s h
    obtain ⟨m_421, e_422, h⟩ := up_s h
    have E_425 := ext_up e_422 (And.left (fx_kF (c := 100) (Kr.fix w_408) (by decide +kernel))) (And.left g_384)
    have w_426 := Kr.upC (y := (-9)) w_408 e_422 (ext_up e_422 (And.left (fx_kF (c := 100) (Kr.fix w_408) (by decide +kernel))) (And.left g_384)) (And.left (fx_kF (c := 100) (Kr.fix w_408) (by decide +kernel))) (fx_a (Kr.fix w_408) (fx_kF (c := 100) (Kr.fix w_408) (by decide +kernel)) (And.left g_384) (by decide +kernel)) (Or.inl rfl) (by decide +kernel) (fx_kF (c := 100) (Kr.fix w_408) (by decide +kernel)) (And.left g_384) (by first | exact Or.inl (by decide) | exact Or.inr (by decide))
    obtain ⟨m_431, e_432, h⟩ := up_s h
    have E_435 := ext_up e_432 (And.left (fx_kF (c := 100) (Kr.fix w_426) (by decide +kernel))) (And.left g_384)
    have w_436 := Kr.upC (y := (-9)) w_426 e_432 (ext_up e_432 (And.left (fx_kF (c := 100) (Kr.fix w_426) (by decide +kernel))) (And.left g_384)) (And.left (fx_kF (c := 100) (Kr.fix w_426) (by decide +kernel))) (fx_a (Kr.fix w_426) (fx_kF (c := 100) (Kr.fix w_426) (by decide +kernel)) (And.left g_384) (by decide +kernel)) (Or.inl rfl) (by decide +kernel) (fx_kF (c := 100) (Kr.fix w_426) (by decide +kernel)) (And.left g_384) (by first | exact Or.inl (by decide) | exact Or.inr (by decide))
    obtain ⟨m_441, e_442, h⟩ := up_s h
    have E_445 := ext_up e_442 (And.left (fx_kF (c := 100) (Kr.fix w_436) (by decide +kernel))) (And.left g_384)
    have w_446 := Kr.upC (y := (-9)) w_436 e_442 (ext_up e_442 (And.left (fx_kF (c := 100) (Kr.fix w_436) (by decide +kernel))) (And.left g_384)) (And.left (fx_kF (c := 100) (Kr.fix w_436) (by decide +kernel))) (fx_a (Kr.fix w_436) (fx_kF (c := 100) (Kr.fix w_436) (by decide +kernel)) (And.left g_384) (by decide +kernel)) (Or.inl rfl) (by decide +kernel) (fx_kF (c := 100) (Kr.fix w_436) (by decide +kernel)) (And.left g_384) (by first | exact Or.inl (by decide) | exact Or.inr (by decide))
    refine kwl_X12_complete_357 (Kr.fix w_446)  (fun f => hQ (Kr.trS w_446 f)) BIG (Kr.rf (Kr.fix w_446)) h
  · obtain ⟨g_526, h⟩ := gd_s h
    obtain ⟨m_527, e_528, h⟩ := up_s h
    have E_531 := ext_up e_528 (And.left (fx_kF (c := 100) hF (by decide +kernel))) (And.left g_526)
    have w_532 := Kr.upC (y := (-9)) (Kr.rf (W := fW_X12_complete) (e := 0) hF) e_528 (ext_up e_528 (And.left (fx_kF (c := 100) hF (by decide +kernel))) (And.left g_526)) (And.left (fx_kF (c := 100) hF (by decide +kernel))) (fx_a hF (fx_kF (c := 100) hF (by decide +kernel)) (And.left g_526) (by decide +kernel)) (Or.inl rfl) (by decide +kernel) (fx_kF (c := 100) hF (by decide +kernel)) (And.left g_526) (by first | exact Or.inl (by decide) | exact Or.inr (by decide))
    obtain ⟨x_540, e_541, h⟩ := lx_s h
    obtain ⟨m_542, e_543, h⟩ := up_s h
    have E_546 := ext_up e_543 (And.left (fx_kF (c := 100) (Kr.fix w_532) (by decide +kernel))) (And.left g_526)
    have w_547 := Kr.upC (y := (-9)) w_532 e_543 (ext_up e_543 (And.left (fx_kF (c := 100) (Kr.fix w_532) (by decide +kernel))) (And.left g_526)) (And.left (fx_kF (c := 100) (Kr.fix w_532) (by decide +kernel))) (fx_a (Kr.fix w_532) (fx_kF (c := 100) (Kr.fix w_532) (by decide +kernel)) (And.left g_526) (by decide +kernel)) (Or.inl rfl) (by decide +kernel) (fx_kF (c := 100) (Kr.fix w_532) (by decide +kernel)) (And.left g_526) (by first | exact Or.inl (by decide) | exact Or.inr (by decide))
    cases h
    exact hQ w_547
set_option maxHeartbeats 4000000 in
theorem kwj_X12_complete_144 {P : Prop} {m : MM} {y1 y3 y5 y7 s0 : Int} {rz : Int} {rm : MM} (hF : Fix m) (hQ : Kr fW_X12_complete 0 0 m rm → P)
  (h : fj_X12_complete_144 y1 y3 y5 y7 s0 m = some (rz, rm)) : P := by
  unfold fj_X12_complete_144 at h
  obtain ⟨g_188, h⟩ := gd_s h
  obtain ⟨x_190, e_191, h⟩ := lx_s h
  obtain ⟨g_197, h⟩ := gd_s h
  obtain ⟨x_199, e_200, h⟩ := lx_s h
  obtain ⟨x_202, m_203, hc_201, h⟩ := bd_s h
  have w_210 := (kw_X12_tellsRun hF hc_201)
  have E_208 := Kr.ext w_210
  have w_211 := Kr.tr0 (Kr.rf (W := fW_X12_complete) (e := 0) hF) w_210 (by decide +kernel)
  obtain ⟨x_216, e_217, h⟩ := lx_s h
  rcases it_s h with ⟨hp_218, h⟩ | ⟨hp_218, h⟩
  · obtain ⟨x_552, m_553, hc_551, h⟩ := bd_s h
    have w_560 := (kw_X12_nextCommand (Kr.fix w_211) hc_551)
    have E_558 := Kr.ext w_560
    have w_561 := Kr.tr0 w_211 w_560 (by decide +kernel)
    obtain ⟨x_566, e_567, h⟩ := lx_s h
    rcases it_s h with ⟨hp_568, h⟩ | ⟨hp_568, h⟩
    · obtain ⟨x_570, m_571, hc_569, h⟩ := bd_s h
      have w_578 := (kw_X12_nextCommand (Kr.fix w_561) hc_569)
      have E_576 := Kr.ext w_578
      have w_579 := Kr.tr0 w_561 w_578 (by decide +kernel)
      obtain ⟨x_582, m_583, hc_581, h⟩ := bd_s h
      have w_590 := (kw_X12_differs (Kr.fix w_579) hc_581)
      have E_588 := Kr.ext w_590
      have w_591 := Kr.tr0 w_579 w_590 (by decide +kernel)
      exact kwj_X12_complete_193 (Kr.fix w_591) (fun f => hQ (Kr.trS w_591 f)) h
    · exact kwj_X12_complete_193 (Kr.fix w_561) (fun f => hQ (Kr.trS w_561 f)) h
  · exact kwj_X12_complete_193 (Kr.fix w_211) (fun f => hQ (Kr.trS w_211 f)) h
set_option maxHeartbeats 4000000 in
theorem kwj_X12_complete_121 {P : Prop} {m : MM} {y1 y3 y5 y6 s0 : Int} {rz : Int} {rm : MM} (hF : Fix m) (hQ : Kr fW_X12_complete 0 0 m rm → P)
  (h : fj_X12_complete_121 y1 y3 y5 y6 s0 m = some (rz, rm)) : P := by
  unfold fj_X12_complete_121 at h
  rcases it_s h with ⟨hp_165, h⟩ | ⟨hp_165, h⟩
  · obtain ⟨g_171, h⟩ := gd_s h
    obtain ⟨x_173, e_174, h⟩ := lx_s h
    exact kwj_X12_complete_144 hF hQ h
  · obtain ⟨g_598, h⟩ := gd_s h
    obtain ⟨x_600, e_601, h⟩ := lx_s h
    exact kwj_X12_complete_144 hF hQ h
set_option maxHeartbeats 4000000 in
theorem kwj_X12_complete_98 {P : Prop} {m : MM} {y1 y3 y5 y6 s0 s1 s2 : Int} {rz : Int} {rm : MM} (hF : Fix m) (hQ : Kr fW_X12_complete 0 0 m rm → P)
  (h : fj_X12_complete_98 y1 y3 y5 y6 s0 s1 s2 m = some (rz, rm)) : P := by
  unfold fj_X12_complete_98 at h
  obtain ⟨g_139, h⟩ := gd_s h
  obtain ⟨m_140, e_141, h⟩ := up_s h
  have E_144 := ext_up e_141 (And.left (fx_kF (c := 100) hF (by decide +kernel))) (And.left g_139)
  have w_145 := Kr.upC (y := (-9)) (Kr.rf (W := fW_X12_complete) (e := 0) hF) e_141 (ext_up e_141 (And.left (fx_kF (c := 100) hF (by decide +kernel))) (And.left g_139)) (And.left (fx_kF (c := 100) hF (by decide +kernel))) (fx_a hF (fx_kF (c := 100) hF (by decide +kernel)) (And.left g_139) (by decide +kernel)) (Or.inl rfl) (by decide +kernel) (fx_kF (c := 100) hF (by decide +kernel)) (And.left g_139) (by first | exact Or.inl (by decide) | exact Or.inr (by decide))
  rcases it_s h with ⟨hp_147, h⟩ | ⟨hp_147, h⟩
  · obtain ⟨g_153, h⟩ := gd_s h
    obtain ⟨x_155, e_156, h⟩ := lx_s h
    exact kwj_X12_complete_121 (Kr.fix w_145) (fun f => hQ (Kr.trS w_145 f)) h
  · obtain ⟨g_607, h⟩ := gd_s h
    obtain ⟨x_609, e_610, h⟩ := lx_s h
    exact kwj_X12_complete_121 (Kr.fix w_145) (fun f => hQ (Kr.trS w_145 f)) h
set_option maxHeartbeats 4000000 in
theorem kwj_X12_complete_20 {P : Prop} {m : MM} {y1 s0 : Int} {rz : Int} {rm : MM} (hF : Fix m) (hQ : Kr fW_X12_complete 0 0 m rm → P)
  (h : fj_X12_complete_20 y1 s0 m = some (rz, rm)) : P := by
  unfold fj_X12_complete_20 at h
  obtain ⟨x_25, m_26, hc_24, h⟩ := bd_s h
  have w_33 := (kw_X12_fails hF hc_24)
  have E_31 := Kr.ext w_33
  have w_34 := Kr.tr0 (Kr.rf (W := fW_X12_complete) (e := 0) hF) w_33 (by decide +kernel)
  rcases it_s h with ⟨hp_36, h⟩ | ⟨hp_36, h⟩
  · obtain ⟨x_38, hc_37, h⟩ := bp_s h
    obtain ⟨g_56, h⟩ := gd_s h
    obtain ⟨m_57, e_58, h⟩ := up_s h
    have E_61 := ext_up e_58 (And.left (fx_kF (c := 102) (Kr.fix w_34) (by decide +kernel))) (And.left g_56)
    have w_62 := Kr.upC (y := (-9)) w_34 e_58 (ext_up e_58 (And.left (fx_kF (c := 102) (Kr.fix w_34) (by decide +kernel))) (And.left g_56)) (And.left (fx_kF (c := 102) (Kr.fix w_34) (by decide +kernel))) (fx_a (Kr.fix w_34) (fx_kF (c := 102) (Kr.fix w_34) (by decide +kernel)) (And.left g_56) (by decide +kernel)) (Or.inl rfl) (by decide +kernel) (fx_kF (c := 102) (Kr.fix w_34) (by decide +kernel)) (And.left g_56) (by first | exact Or.inl (by decide) | exact Or.inr (by decide))
    rcases it_s h with ⟨hp_64, h⟩ | ⟨hp_64, h⟩
    · obtain ⟨x_71, e_72, h⟩ := lx_s h
      obtain ⟨x_84, e_85, h⟩ := lx_s h
      obtain ⟨x_98, e_99, h⟩ := lx_s h
      obtain ⟨x_109, hc_108, h⟩ := bp_s h
      obtain ⟨g_130, h⟩ := gd_s h
      obtain ⟨x_132, e_133, h⟩ := lx_s h
      rcases it_s h with ⟨hp_134, h⟩ | ⟨hp_134, h⟩
      · exact kwj_X12_complete_98 (Kr.fix w_62) (fun f => hQ (Kr.trS w_62 f)) h
      · exact kwj_X12_complete_98 (Kr.fix w_62) (fun f => hQ (Kr.trS w_62 f)) h
    · cases h
      exact hQ w_62
  · cases h
    exact hQ w_34
set_option maxHeartbeats 4000000 in
theorem kw_X12_complete {m0 : MM} {p1 : Int} {rz : Int} {rm : MM} (hF : Fix m0)
  (h : fm_X12_complete p1 m0 = some (rz, rm)) : Kr fW_X12_complete 0 0 m0 rm := by
  have hQ : Kr fW_X12_complete 0 0 m0 rm → Kr fW_X12_complete 0 0 m0 rm := id
  unfold fm_X12_complete at h
  obtain ⟨x_6, e_7, h⟩ := lx_s h
  obtain ⟨x_13, hc_12, h⟩ := bp_s h
  rcases it_s h with ⟨hp_21, h⟩ | ⟨hp_21, h⟩
  · exact kwj_X12_complete_20 hF hQ h
  · exact kwj_X12_complete_20 hF hQ h
end KW09
