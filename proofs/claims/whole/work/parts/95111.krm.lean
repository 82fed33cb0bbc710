/-! THE ROOM: how many objects there are: what each method makes (written by wip/whole/gen/gen951.py), 11. -/
section KW11
set_option maxHeartbeats 4000000 in
theorem kwl_X12_setBack_86 {P : Prop} {mb : MM} {y1 y4 : Int} {k130 : MM → Option (Int × MM)} {rz : Int} {rm : MM} (hF0 : Fix mb)
  (hk130 : ∀ mq : MM, Kr fW_X12_setBack 0 0 mb mq → k130 mq = some (rz, rm) → P) (hQ : Kr fW_X12_setBack 0 0 mb rm → P) :
  ∀ (n : Nat) {m : MM} {y5 : Int} , Kr fW_X12_setBack 0 0 mb m → fl_X12_setBack_86 y1 y4 k130 n y5 m = some (rz, rm) → P := by
  intro n
  induction n with
  | zero => intro m y5 w h; cases h
  | succ n ih0 =>
    intro m y5 w h
    have ih : ∀ mq : MM, Kr fW_X12_setBack 0 0 mb mq → ∀ {z5 : Int}, fl_X12_setBack_86 y1 y4 k130 n z5 mq = some (rz, rm) → P := fun mq b => by intros; exact ih0 b ‹_›
    unfold fl_X12_setBack_86 at h
    obtain ⟨x_95, e_96, h⟩ := lx_s h
    rcases it_s h with ⟨hp_97, h⟩ | ⟨hp_97, h⟩
    · obtain ⟨g_106, h⟩ := gd_s h
      obtain ⟨x_108, e_109, h⟩ := lx_s h
      rcases it_s h with ⟨hp_110, h⟩ | ⟨hp_110, h⟩
      · obtain ⟨m_137, e_138, h⟩ := up_s h
        have E_141 := ext_up e_138 (And.left (fx_kF (c := 100) (Kr.fix w) (by decide +kernel))) (And.left g_106)
        have w_142 := Kr.upC (y := (-9)) w e_138 (ext_up e_138 (And.left (fx_kF (c := 100) (Kr.fix w) (by decide +kernel))) (And.left g_106)) (And.left (fx_kF (c := 100) (Kr.fix w) (by decide +kernel))) (fx_a (Kr.fix w) (fx_kF (c := 100) (Kr.fix w) (by decide +kernel)) (And.left g_106) (by decide +kernel)) (Or.inl rfl) (by decide +kernel) (fx_kF (c := 100) (Kr.fix w) (by decide +kernel)) (And.left g_106) (by first | exact Or.inl (by decide) | exact Or.inr (by decide))
        obtain ⟨x_149, e_150, h⟩ := lx_s h
        exact ih m_137 w_142 h
      · obtain ⟨m_117, e_118, h⟩ := up_s h
        have E_121 := ext_up e_118 (And.left (fx_kF (c := 100) (Kr.fix w) (by decide +kernel))) (And.left g_106)
        have w_122 := Kr.upC (y := (-9)) w e_118 (ext_up e_118 (And.left (fx_kF (c := 100) (Kr.fix w) (by decide +kernel))) (And.left g_106)) (And.left (fx_kF (c := 100) (Kr.fix w) (by decide +kernel))) (fx_a (Kr.fix w) (fx_kF (c := 100) (Kr.fix w) (by decide +kernel)) (And.left g_106) (by decide +kernel)) (Or.inl rfl) (by decide +kernel) (fx_kF (c := 100) (Kr.fix w) (by decide +kernel)) (And.left g_106) (by first | exact Or.inl (by decide) | exact Or.inr (by decide))
        obtain ⟨x_129, e_130, h⟩ := lx_s h
        exact ih m_117 w_122 h
    · exact hk130 m w h
set_option maxHeartbeats 4000000 in
theorem kwl_X12_setBack_215 {P : Prop} {mb : MM} {y1 y5 : Int} {rz : Int} {rm : MM} (hF0 : Fix mb) (hQ : Kr fW_X12_setBack 0 0 mb rm → P) :
  ∀ (n : Nat) {m : MM} {y6 : Int} , Kr fW_X12_setBack 0 0 mb m → fl_X12_setBack_215 y1 y5 n y6 m = some (rz, rm) → P := by
  intro n
  induction n with
  | zero => intro m y6 w h; cases h
  | succ n ih0 =>
    intro m y6 w h
    have ih : ∀ mq : MM, Kr fW_X12_setBack 0 0 mb mq → ∀ {z6 : Int}, fl_X12_setBack_215 y1 y5 n z6 mq = some (rz, rm) → P := fun mq b => by intros; exact ih0 b ‹_›
    unfold fl_X12_setBack_215 at h
    obtain ⟨g_313, h⟩ := gd_s h
    obtain ⟨x_315, e_316, h⟩ := lx_s h
    rcases it_s h with ⟨hp_317, h⟩ | ⟨hp_317, h⟩
    · obtain ⟨x_319, hc_318, h⟩ := bp_s h
      rcases it_s h with ⟨hp_329, h⟩ | ⟨hp_329, h⟩
      · obtain ⟨x_344, hc_343, h⟩ := bp_s h
        obtain ⟨x_353, hc_352, h⟩ := bp_s h
        obtain ⟨x_362, m_363, hc_361, h⟩ := bd_s h
        have w_370 := (kw_X12_puts (Kr.fix w) hc_361)
        have E_368 := Kr.ext w_370
        have w_371 := Kr.tr0 w w_370 (by decide +kernel)
        obtain ⟨x_378, e_379, h⟩ := lx_s h
        exact ih m_363 w_371 h
      · obtain ⟨x_335, e_336, h⟩ := lx_s h
        exact ih m w h
    · cases h
      exact hQ w
set_option maxHeartbeats 4000000 in
theorem kwj_X12_setBack_55 {P : Prop} {m : MM} {y1 y2 s0 : Int} {rz : Int} {rm : MM} (hF : Fix m) (hQ : Kr fW_X12_setBack 0 0 m rm → P)
  (h : fj_X12_setBack_55 y1 y2 s0 m = some (rz, rm)) : P := by
  unfold fj_X12_setBack_55 at h
  obtain ⟨x_33, m_34, hc_32, h⟩ := bd_s h
  have w_41 := (kw_X12_fails hF hc_32)
  have E_39 := Kr.ext w_41
  have w_42 := Kr.tr0 (Kr.rf (W := fW_X12_setBack) (e := 0) hF) w_41 (by decide +kernel)
  rcases it_s h with ⟨hp_44, h⟩ | ⟨hp_44, h⟩
  · obtain ⟨x_46, hc_45, h⟩ := bp_s h
    obtain ⟨g_64, h⟩ := gd_s h
    obtain ⟨m_65, e_66, h⟩ := up_s h
    have E_69 := ext_up e_66 (And.left (fx_kF (c := 100) (Kr.fix w_42) (by decide +kernel))) (And.left g_64)
    have w_70 := Kr.upC (y := (-9)) w_42 e_66 (ext_up e_66 (And.left (fx_kF (c := 100) (Kr.fix w_42) (by decide +kernel))) (And.left g_64)) (And.left (fx_kF (c := 100) (Kr.fix w_42) (by decide +kernel))) (fx_a (Kr.fix w_42) (fx_kF (c := 100) (Kr.fix w_42) (by decide +kernel)) (And.left g_64) (by decide +kernel)) (Or.inl rfl) (by decide +kernel) (fx_kF (c := 100) (Kr.fix w_42) (by decide +kernel)) (And.left g_64) (by first | exact Or.inl (by decide) | exact Or.inr (by decide))
    obtain ⟨x_73, m_74, hc_72, h⟩ := bd_s h
    have w_81 := (kw_X12_stops (Kr.fix w_70) hc_72)
    have E_79 := Kr.ext w_81
    have w_82 := Kr.tr0 w_70 w_81 (by decide +kernel)
    refine kwl_X12_setBack_86 (Kr.fix w_82) ?_ (fun f => hQ (Kr.trS w_82 f)) BIG (Kr.rf (Kr.fix w_82)) h
    intro m_167 w_170
    intro h
    have E_168 := Kr.ext w_170
    have w_171 := Kr.trS w_82 w_170
    obtain ⟨x_178, e_179, h⟩ := lx_s h
    obtain ⟨x_186, e_187, h⟩ := lx_s h
    obtain ⟨x_194, e_195, h⟩ := lx_s h
    obtain ⟨x_204, e_205, h⟩ := lx_s h
    obtain ⟨x_212, e_213, h⟩ := lx_s h
    obtain ⟨x_215, m_216, hc_214, h⟩ := bd_s h
    have w_223 := (kw_X12_makes (Kr.fix w_171) hc_214)
    have E_221 := Kr.ext w_223
    have w_224 := Kr.tr0 w_171 w_223 (by decide +kernel)
    obtain ⟨g_235, h⟩ := gd_s h
    obtain ⟨m_236, e_237, h⟩ := up_s h
    have E_240 := ext_up e_237 (And.left (fx_kF (c := 100) (Kr.fix w_224) (by decide +kernel))) (And.left g_235)
    have w_241 := Kr.upC (y := (-9)) w_224 e_237 (ext_up e_237 (And.left (fx_kF (c := 100) (Kr.fix w_224) (by decide +kernel))) (And.left g_235)) (And.left (fx_kF (c := 100) (Kr.fix w_224) (by decide +kernel))) (fx_a (Kr.fix w_224) (fx_kF (c := 100) (Kr.fix w_224) (by decide +kernel)) (And.left g_235) (by decide +kernel)) (Or.inl rfl) (by decide +kernel) (fx_kF (c := 100) (Kr.fix w_224) (by decide +kernel)) (And.left g_235) (by first | exact Or.inl (by decide) | exact Or.inr (by decide))
    obtain ⟨m_250, e_251, h⟩ := up_s h
    have E_254 := ext_up e_251 (And.left (fx_kF (c := 100) (Kr.fix w_241) (by decide +kernel))) (And.left g_235)
    have w_255 := Kr.upC (y := (-9)) w_241 e_251 (ext_up e_251 (And.left (fx_kF (c := 100) (Kr.fix w_241) (by decide +kernel))) (And.left g_235)) (And.left (fx_kF (c := 100) (Kr.fix w_241) (by decide +kernel))) (fx_a (Kr.fix w_241) (fx_kF (c := 100) (Kr.fix w_241) (by decide +kernel)) (And.left g_235) (by decide +kernel)) (Or.inl rfl) (by decide +kernel) (fx_kF (c := 100) (Kr.fix w_241) (by decide +kernel)) (And.left g_235) (by first | exact Or.inl (by decide) | exact Or.inr (by decide))
    obtain ⟨m_264, e_265, h⟩ := up_s h
    have E_268 := ext_up e_265 (And.left (fx_kF (c := 100) (Kr.fix w_255) (by decide +kernel))) (And.left g_235)
    have w_269 := Kr.upC (y := (-9)) w_255 e_265 (ext_up e_265 (And.left (fx_kF (c := 100) (Kr.fix w_255) (by decide +kernel))) (And.left g_235)) (And.left (fx_kF (c := 100) (Kr.fix w_255) (by decide +kernel))) (fx_a (Kr.fix w_255) (fx_kF (c := 100) (Kr.fix w_255) (by decide +kernel)) (And.left g_235) (by decide +kernel)) (Or.inl rfl) (by decide +kernel) (fx_kF (c := 100) (Kr.fix w_255) (by decide +kernel)) (And.left g_235) (by first | exact Or.inl (by decide) | exact Or.inr (by decide))
    obtain ⟨x_272, m_273, hc_271, h⟩ := bd_s h
    have w_280 := (kw_X12_recounts (Kr.fix w_269) hc_271)
    have E_278 := Kr.ext w_280
    have w_281 := Kr.tr0 w_269 w_280 (by decide +kernel)
    obtain ⟨x_284, m_285, hc_283, h⟩ := bd_s h
    have w_292 := (kw_X12_beginsAnew (Kr.fix w_281) hc_283)
    have E_290 := Kr.ext w_292
    have w_293 := Kr.tr0 w_281 w_292 (by decide +kernel)
    obtain ⟨x_299, e_300, h⟩ := lx_s h
    refine kwl_X12_setBack_215 (Kr.fix w_293)  (fun f => hQ (Kr.trS w_293 f)) BIG (Kr.rf (Kr.fix w_293)) h
  · cases h
    exact hQ w_42
set_option maxHeartbeats 4000000 in
theorem kwj_X12_setBack_23 {P : Prop} {m : MM} {y1 y2 s0 : Int} {rz : Int} {rm : MM} (hF : Fix m) (hQ : Kr fW_X12_setBack 0 0 m rm → P)
  (h : fj_X12_setBack_23 y1 y2 s0 m = some (rz, rm)) : P := by
  unfold fj_X12_setBack_23 at h
  rcases it_s h with ⟨hp_19, h⟩ | ⟨hp_19, h⟩
  · exact kwj_X12_setBack_55 hF hQ h
  · obtain ⟨x_21, hc_20, h⟩ := bp_s h
    rcases it_s h with ⟨hp_29, h⟩ | ⟨hp_29, h⟩
    · exact kwj_X12_setBack_55 hF hQ h
    · obtain ⟨x_389, e_390, h⟩ := lx_s h
      rcases it_s h with ⟨hp_393, h⟩ | ⟨hp_393, h⟩
      · exact kwj_X12_setBack_55 hF hQ h
      · exact kwj_X12_setBack_55 hF hQ h
set_option maxHeartbeats 4000000 in
theorem kw_X12_setBack {m0 : MM} {p1 p2 : Int} {rz : Int} {rm : MM} (hF : Fix m0)
  (h : fm_X12_setBack p1 p2 m0 = some (rz, rm)) : Kr fW_X12_setBack 0 0 m0 rm := by
  have hQ : Kr fW_X12_setBack 0 0 m0 rm → Kr fW_X12_setBack 0 0 m0 rm := id
  unfold fm_X12_setBack at h
  obtain ⟨x_2, hc_1, h⟩ := bp_s h
  rcases it_s h with ⟨hp_10, h⟩ | ⟨hp_10, h⟩
  · exact kwj_X12_setBack_23 hF hQ h
  · obtain ⟨x_401, hc_400, h⟩ := bp_s h
    rcases it_s h with ⟨hp_411, h⟩ | ⟨hp_411, h⟩
    · exact kwj_X12_setBack_23 hF hQ h
    · exact kwj_X12_setBack_23 hF hQ h
set_option maxHeartbeats 4000000 in
theorem kwj_X12_copy_28 {P : Prop} {m : MM} {y1 y2 s0 : Int} {rz : Int} {rm : MM} (hF : Fix m) (hQ : Kr fW_X12_copy 0 0 m rm → P)
  (h : fj_X12_copy_28 y1 y2 s0 m = some (rz, rm)) : P := by
  unfold fj_X12_copy_28 at h
  obtain ⟨x_28, m_29, hc_27, h⟩ := bd_s h
  have w_36 := (kw_X12_fails hF hc_27)
  have E_34 := Kr.ext w_36
  have w_37 := Kr.tr0 (Kr.rf (W := fW_X12_copy) (e := 0) hF) w_36 (by decide +kernel)
  rcases it_s h with ⟨hp_39, h⟩ | ⟨hp_39, h⟩
  · obtain ⟨g_48, h⟩ := gd_s h
    obtain ⟨x_50, e_51, h⟩ := lx_s h
    obtain ⟨x_60, e_61, h⟩ := lx_s h
    obtain ⟨x_63, hc_62, h⟩ := bp_s h
    obtain ⟨m_71, e_72, h⟩ := up_s h
    have E_75 := ext_up e_72 (And.left (fx_kF (c := 100) (Kr.fix w_37) (by decide +kernel))) (And.left g_48)
    have w_76 := Kr.upC (y := (-9)) w_37 e_72 (ext_up e_72 (And.left (fx_kF (c := 100) (Kr.fix w_37) (by decide +kernel))) (And.left g_48)) (And.left (fx_kF (c := 100) (Kr.fix w_37) (by decide +kernel))) (fx_a (Kr.fix w_37) (fx_kF (c := 100) (Kr.fix w_37) (by decide +kernel)) (And.left g_48) (by decide +kernel)) (Or.inl rfl) (by decide +kernel) (fx_kF (c := 100) (Kr.fix w_37) (by decide +kernel)) (And.left g_48) (by first | exact Or.inl (by decide) | exact Or.inr (by decide))
    obtain ⟨x_84, e_85, h⟩ := lx_s h
    cases h
    exact hQ w_76
  · cases h
    exact hQ w_37
set_option maxHeartbeats 4000000 in
theorem kw_X12_copy {m0 : MM} {p1 p2 : Int} {rz : Int} {rm : MM} (hF : Fix m0)
  (h : fm_X12_copy p1 p2 m0 = some (rz, rm)) : Kr fW_X12_copy 0 0 m0 rm := by
  have hQ : Kr fW_X12_copy 0 0 m0 rm → Kr fW_X12_copy 0 0 m0 rm := id
  unfold fm_X12_copy at h
  obtain ⟨x_2, hc_1, h⟩ := bp_s h
  rcases it_s h with ⟨hp_10, h⟩ | ⟨hp_10, h⟩
  · exact kwj_X12_copy_28 hF hQ h
  · obtain ⟨x_16, hc_15, h⟩ := bp_s h
    rcases it_s h with ⟨hp_24, h⟩ | ⟨hp_24, h⟩
    · exact kwj_X12_copy_28 hF hQ h
    · exact kwj_X12_copy_28 hF hQ h
set_option maxHeartbeats 4000000 in
theorem kwl_X12_cutsRun_21 {P : Prop} {mb : MM} {y1 y2 : Int} {k97 : MM → Option (Int × MM)} {rz : Int} {rm : MM} (hF0 : Fix mb)
  (hk97 : ∀ mq : MM, Kr fW_X12_cutsRun 0 0 mb mq → k97 mq = some (rz, rm) → P) (hQ : Kr fW_X12_cutsRun 0 0 mb rm → P) :
  ∀ (n : Nat) {m : MM} {y3 : Int} , Kr fW_X12_cutsRun 0 0 mb m → fl_X12_cutsRun_21 y1 y2 k97 n y3 m = some (rz, rm) → P := by
  intro n
  induction n with
  | zero => intro m y3 w h; cases h
  | succ n ih0 =>
    intro m y3 w h
    have ih : ∀ mq : MM, Kr fW_X12_cutsRun 0 0 mb mq → ∀ {z3 : Int}, fl_X12_cutsRun_21 y1 y2 k97 n z3 mq = some (rz, rm) → P := fun mq b => by intros; exact ih0 b ‹_›
    unfold fl_X12_cutsRun_21 at h
    obtain ⟨g_45, h⟩ := gd_s h
    obtain ⟨x_47, e_48, h⟩ := lx_s h
    rcases it_s h with ⟨hp_49, h⟩ | ⟨hp_49, h⟩
    · obtain ⟨x_51, hc_50, h⟩ := bp_s h
      rcases it_s h with ⟨hp_61, h⟩ | ⟨hp_61, h⟩
      · obtain ⟨x_79, e_80, h⟩ := lx_s h
        obtain ⟨g_81, h⟩ := gd_s h
        obtain ⟨m_82, e_83, h⟩ := up_s h
        have E_86 := ext_up e_83 (And.left (fx_kF (c := 100) (Kr.fix w) (by decide +kernel))) (And.left g_81)
        have w_87 := Kr.upC (y := (-9)) w e_83 (ext_up e_83 (And.left (fx_kF (c := 100) (Kr.fix w) (by decide +kernel))) (And.left g_81)) (And.left (fx_kF (c := 100) (Kr.fix w) (by decide +kernel))) (fx_a (Kr.fix w) (fx_kF (c := 100) (Kr.fix w) (by decide +kernel)) (And.left g_81) (by decide +kernel)) (Or.inl rfl) (by decide +kernel) (fx_kF (c := 100) (Kr.fix w) (by decide +kernel)) (And.left g_81) (by first | exact Or.inl (by decide) | exact Or.inr (by decide))
        obtain ⟨x_95, e_96, h⟩ := lx_s h
        obtain ⟨x_98, hc_97, h⟩ := bp_s h
        obtain ⟨g_106, h⟩ := gd_s h
        obtain ⟨m_107, e_108, h⟩ := up_s h
        have E_111 := ext_up e_108 (And.left (fx_kF (c := 100) (Kr.fix w_87) (by decide +kernel))) (And.left g_106)
        have w_112 := Kr.upC (y := (-9)) w_87 e_108 (ext_up e_108 (And.left (fx_kF (c := 100) (Kr.fix w_87) (by decide +kernel))) (And.left g_106)) (And.left (fx_kF (c := 100) (Kr.fix w_87) (by decide +kernel))) (fx_a (Kr.fix w_87) (fx_kF (c := 100) (Kr.fix w_87) (by decide +kernel)) (And.left g_106) (by decide +kernel)) (Or.inl rfl) (by decide +kernel) (fx_kF (c := 100) (Kr.fix w_87) (by decide +kernel)) (And.left g_106) (by first | exact Or.inl (by decide) | exact Or.inr (by decide))
        obtain ⟨x_120, e_121, h⟩ := lx_s h
        obtain ⟨x_123, hc_122, h⟩ := bp_s h
        obtain ⟨g_131, h⟩ := gd_s h
        obtain ⟨m_132, e_133, h⟩ := up_s h
        have E_136 := ext_up e_133 (And.left (fx_kF (c := 100) (Kr.fix w_112) (by decide +kernel))) (And.left g_131)
        have w_137 := Kr.upC (y := (-9)) w_112 e_133 (ext_up e_133 (And.left (fx_kF (c := 100) (Kr.fix w_112) (by decide +kernel))) (And.left g_131)) (And.left (fx_kF (c := 100) (Kr.fix w_112) (by decide +kernel))) (fx_a (Kr.fix w_112) (fx_kF (c := 100) (Kr.fix w_112) (by decide +kernel)) (And.left g_131) (by decide +kernel)) (Or.inl rfl) (by decide +kernel) (fx_kF (c := 100) (Kr.fix w_112) (by decide +kernel)) (And.left g_131) (by first | exact Or.inl (by decide) | exact Or.inr (by decide))
        obtain ⟨x_142, e_143, h⟩ := lx_s h
        obtain ⟨m_148, e_149, h⟩ := up_s h
        have E_152 := ext_up e_149 (And.left (fx_kF (c := 13) (Kr.fix w_137) (by decide +kernel))) (by decide)
        have w_153 := Kr.upC (y := 84) w_137 e_149 (ext_up e_149 (And.left (fx_kF (c := 13) (Kr.fix w_137) (by decide +kernel))) (by decide)) (And.left (fx_kF (c := 13) (Kr.fix w_137) (by decide +kernel))) (fx_f (j := 84) (Kr.fix w_137) (fx_kF (c := 13) (Kr.fix w_137) (by decide +kernel)) (by decide +kernel)) (Or.inr rfl) (by decide +kernel) (fx_kF (c := 13) (Kr.fix w_137) (by decide +kernel)) (by decide) (by first | exact Or.inl (by decide) | exact Or.inr (by decide))
        obtain ⟨x_160, e_161, h⟩ := lx_s h
        exact ih m_148 w_153 h
      · obtain ⟨x_67, e_68, h⟩ := lx_s h
        exact ih m w h
    · exact hk97 m w h
set_option maxHeartbeats 4000000 in
theorem kwl_X12_cutsRun_160 {P : Prop} {mb : MM} {y1 y2 : Int} {rz : Int} {rm : MM} (hF0 : Fix mb) (hQ : Kr fW_X12_cutsRun 0 0 mb rm → P) :
  ∀ (n : Nat) {m : MM} {y3 : Int} , Kr fW_X12_cutsRun 0 0 mb m → fl_X12_cutsRun_160 y1 y2 n y3 m = some (rz, rm) → P := by
  intro n
  induction n with
  | zero => intro m y3 w h; cases h
  | succ n ih0 =>
    intro m y3 w h
    have ih : ∀ mq : MM, Kr fW_X12_cutsRun 0 0 mb mq → ∀ {z3 : Int}, fl_X12_cutsRun_160 y1 y2 n z3 mq = some (rz, rm) → P := fun mq b => by intros; exact ih0 b ‹_›
    unfold fl_X12_cutsRun_160 at h
    obtain ⟨x_292, e_293, h⟩ := lx_s h
    rcases it_s h with ⟨hp_294, h⟩ | ⟨hp_294, h⟩
    · obtain ⟨g_303, h⟩ := gd_s h
      obtain ⟨x_305, e_306, h⟩ := lx_s h
      rcases it_s h with ⟨hp_307, h⟩ | ⟨hp_307, h⟩
      · obtain ⟨x_338, e_339, h⟩ := lx_s h
        obtain ⟨g_345, h⟩ := gd_s h
        obtain ⟨x_347, e_348, h⟩ := lx_s h
        rcases it_s h with ⟨hp_349, h⟩ | ⟨hp_349, h⟩
        · obtain ⟨m_356, e_357, h⟩ := up_s h
          have E_360 := ext_up e_357 (And.left (fx_kF (c := 100) (Kr.fix w) (by decide +kernel))) (And.left g_303)
          have w_361 := Kr.upC (y := (-9)) w e_357 (ext_up e_357 (And.left (fx_kF (c := 100) (Kr.fix w) (by decide +kernel))) (And.left g_303)) (And.left (fx_kF (c := 100) (Kr.fix w) (by decide +kernel))) (fx_a (Kr.fix w) (fx_kF (c := 100) (Kr.fix w) (by decide +kernel)) (And.left g_303) (by decide +kernel)) (Or.inl rfl) (by decide +kernel) (fx_kF (c := 100) (Kr.fix w) (by decide +kernel)) (And.left g_303) (by first | exact Or.inl (by decide) | exact Or.inr (by decide))
          obtain ⟨x_368, e_369, h⟩ := lx_s h
          exact ih m_356 w_361 h
        · obtain ⟨m_376, e_377, h⟩ := up_s h
          have E_380 := ext_up e_377 (And.left (fx_kF (c := 100) (Kr.fix w) (by decide +kernel))) (And.left g_303)
          have w_381 := Kr.upC (y := (-9)) w e_377 (ext_up e_377 (And.left (fx_kF (c := 100) (Kr.fix w) (by decide +kernel))) (And.left g_303)) (And.left (fx_kF (c := 100) (Kr.fix w) (by decide +kernel))) (fx_a (Kr.fix w) (fx_kF (c := 100) (Kr.fix w) (by decide +kernel)) (And.left g_303) (by decide +kernel)) (Or.inl rfl) (by decide +kernel) (fx_kF (c := 100) (Kr.fix w) (by decide +kernel)) (And.left g_303) (by first | exact Or.inl (by decide) | exact Or.inr (by decide))
          obtain ⟨x_388, e_389, h⟩ := lx_s h
          exact ih m_376 w_381 h
      · obtain ⟨m_314, e_315, h⟩ := up_s h
        have E_318 := ext_up e_315 (And.left (fx_kF (c := 100) (Kr.fix w) (by decide +kernel))) (And.left g_303)
        have w_319 := Kr.upC (y := (-9)) w e_315 (ext_up e_315 (And.left (fx_kF (c := 100) (Kr.fix w) (by decide +kernel))) (And.left g_303)) (And.left (fx_kF (c := 100) (Kr.fix w) (by decide +kernel))) (fx_a (Kr.fix w) (fx_kF (c := 100) (Kr.fix w) (by decide +kernel)) (And.left g_303) (by decide +kernel)) (Or.inl rfl) (by decide +kernel) (fx_kF (c := 100) (Kr.fix w) (by decide +kernel)) (And.left g_303) (by first | exact Or.inl (by decide) | exact Or.inr (by decide))
        obtain ⟨x_326, e_327, h⟩ := lx_s h
        exact ih m_314 w_319 h
    · cases h
      exact hQ w
set_option maxHeartbeats 4000000 in
theorem kwj_X12_cutsRun_151 {P : Prop} {m : MM} {y1 y2 s0 s1 s2 : Int} {rz : Int} {rm : MM} (hF : Fix m) (hQ : Kr fW_X12_cutsRun 0 0 m rm → P)
  (h : fj_X12_cutsRun_151 y1 y2 s0 s1 s2 m = some (rz, rm)) : P := by
  unfold fj_X12_cutsRun_151 at h
  obtain ⟨g_261, h⟩ := gd_s h
  obtain ⟨m_262, e_263, h⟩ := up_s h
  have E_266 := ext_up e_263 (And.left (fx_kF (c := 100) hF (by decide +kernel))) (And.left g_261)
  have w_267 := Kr.upC (y := (-9)) (Kr.rf (W := fW_X12_cutsRun) (e := 0) hF) e_263 (ext_up e_263 (And.left (fx_kF (c := 100) hF (by decide +kernel))) (And.left g_261)) (And.left (fx_kF (c := 100) hF (by decide +kernel))) (fx_a hF (fx_kF (c := 100) hF (by decide +kernel)) (And.left g_261) (by decide +kernel)) (Or.inl rfl) (by decide +kernel) (fx_kF (c := 100) hF (by decide +kernel)) (And.left g_261) (by first | exact Or.inl (by decide) | exact Or.inr (by decide))
  obtain ⟨x_270, m_271, hc_269, h⟩ := bd_s h
  have w_278 := (kw_X12_stops (Kr.fix w_267) hc_269)
  have E_276 := Kr.ext w_278
  have w_279 := Kr.tr0 w_267 w_278 (by decide +kernel)
  refine kwl_X12_cutsRun_160 (Kr.fix w_279)  (fun f => hQ (Kr.trS w_279 f)) BIG (Kr.rf (Kr.fix w_279)) h
set_option maxHeartbeats 4000000 in
theorem kw_X12_cutsRun {m0 : MM} {p1 : Int} {rz : Int} {rm : MM} (hF : Fix m0)
  (h : fm_X12_cutsRun p1 m0 = some (rz, rm)) : Kr fW_X12_cutsRun 0 0 m0 rm := by
  have hQ : Kr fW_X12_cutsRun 0 0 m0 rm → Kr fW_X12_cutsRun 0 0 m0 rm := id
  unfold fm_X12_cutsRun at h
  obtain ⟨g_6, h⟩ := gd_s h
  obtain ⟨x_8, e_9, h⟩ := lx_s h
  obtain ⟨x_16, e_17, h⟩ := lx_s h
  obtain ⟨x_20, e_21, h⟩ := lx_s h
  refine kwl_X12_cutsRun_21 hF ?_ hQ BIG (Kr.rf hF) h
  intro m_178 w_181
  intro h
  have E_179 := Kr.ext w_181
  have w_182 := w_181
  obtain ⟨x_192, e_193, h⟩ := lx_s h
  obtain ⟨m_194, e_195, h⟩ := up_s h
  have E_198 := ext_up e_195 (And.left (fx_kF (c := 100) (Kr.fix w_182) (by decide +kernel))) (And.left g_6)
  have w_199 := Kr.upC (y := (-9)) w_182 e_195 (ext_up e_195 (And.left (fx_kF (c := 100) (Kr.fix w_182) (by decide +kernel))) (And.left g_6)) (And.left (fx_kF (c := 100) (Kr.fix w_182) (by decide +kernel))) (fx_a (Kr.fix w_182) (fx_kF (c := 100) (Kr.fix w_182) (by decide +kernel)) (And.left g_6) (by decide +kernel)) (Or.inl rfl) (by decide +kernel) (fx_kF (c := 100) (Kr.fix w_182) (by decide +kernel)) (And.left g_6) (by first | exact Or.inl (by decide) | exact Or.inr (by decide))
  obtain ⟨x_210, e_211, h⟩ := lx_s h
  obtain ⟨x_218, e_219, h⟩ := lx_s h
  obtain ⟨x_221, hc_220, h⟩ := bp_s h
  obtain ⟨m_229, e_230, h⟩ := up_s h
  have E_233 := ext_up e_230 (And.left (fx_kF (c := 100) (Kr.fix w_199) (by decide +kernel))) (And.left g_6)
  have w_234 := Kr.upC (y := (-9)) w_199 e_230 (ext_up e_230 (And.left (fx_kF (c := 100) (Kr.fix w_199) (by decide +kernel))) (And.left g_6)) (And.left (fx_kF (c := 100) (Kr.fix w_199) (by decide +kernel))) (fx_a (Kr.fix w_199) (fx_kF (c := 100) (Kr.fix w_199) (by decide +kernel)) (And.left g_6) (by decide +kernel)) (Or.inl rfl) (by decide +kernel) (fx_kF (c := 100) (Kr.fix w_199) (by decide +kernel)) (And.left g_6) (by first | exact Or.inl (by decide) | exact Or.inr (by decide))
  obtain ⟨x_237, m_238, hc_236, h⟩ := bd_s h
  have w_245 := (kw_X12_recounts (Kr.fix w_234) hc_236)
  have E_243 := Kr.ext w_245
  have w_246 := Kr.tr0 w_234 w_245 (by decide +kernel)
  obtain ⟨x_254, e_255, h⟩ := lx_s h
  rcases it_s h with ⟨hp_256, h⟩ | ⟨hp_256, h⟩
  · exact kwj_X12_cutsRun_151 (Kr.fix w_246) (fun f => hQ (Kr.trS w_246 f)) h
  · exact kwj_X12_cutsRun_151 (Kr.fix w_246) (fun f => hQ (Kr.trS w_246 f)) h
set_option maxHeartbeats 4000000 in
theorem kwl_X12_takeOver_30 {P : Prop} {mb : MM} {k65 : Int → MM → Option (Int × MM)} {rz : Int} {rm : MM} (hF0 : Fix mb)
  (hk65 : ∀ mq : MM, Kr fW_X12_takeOver 0 0 mb mq → ∀ {z1 : Int}, k65 z1 mq = some (rz, rm) → P) (hQ : Kr fW_X12_takeOver 0 0 mb rm → P) :
  ∀ (n : Nat) {m : MM} {y1 y2 : Int} , Kr fW_X12_takeOver 0 0 mb m → fl_X12_takeOver_30 k65 n y1 y2 m = some (rz, rm) → P := by
  intro n
  induction n with
  | zero => intro m y1 y2 w h; cases h
  | succ n ih0 =>
    intro m y1 y2 w h
    have ih : ∀ mq : MM, Kr fW_X12_takeOver 0 0 mb mq → ∀ {z1 z2 : Int}, fl_X12_takeOver_30 k65 n z1 z2 mq = some (rz, rm) → P := fun mq b => by intros; exact ih0 b ‹_›
    unfold fl_X12_takeOver_30 at h
    obtain ⟨x_47, e_48, h⟩ := lx_s h
    rcases it_s h with ⟨hp_49, h⟩ | ⟨hp_49, h⟩
    · obtain ⟨g_55, h⟩ := gd_s h
      obtain ⟨x_57, e_58, h⟩ := lx_s h
      rcases it_s h with ⟨hp_59, h⟩ | ⟨hp_59, h⟩
      · obtain ⟨x_83, m_84, hc_82, h⟩ := bd_s h
        have w_91 := (kw_X12_cutsRun (Kr.fix w) hc_82)
        have E_89 := Kr.ext w_91
        have w_92 := Kr.tr0 w w_91 (by decide +kernel)
        obtain ⟨x_96, e_97, h⟩ := lx_s h
        obtain ⟨x_109, e_110, h⟩ := lx_s h
        exact ih m_84 w_92 h
      · obtain ⟨x_64, e_65, h⟩ := lx_s h
        obtain ⟨x_77, e_78, h⟩ := lx_s h
        exact ih m w h
    · exact hk65 m w h
set_option maxHeartbeats 4000000 in
theorem kwl_X12_takeOver_67 {P : Prop} {mb : MM} {y1 : Int} {k113 : MM → Option (Int × MM)} {rz : Int} {rm : MM} (hF0 : Fix mb)
  (hk113 : ∀ mq : MM, Kr fW_X12_takeOver 0 0 mb mq → k113 mq = some (rz, rm) → P) (hQ : Kr fW_X12_takeOver 0 0 mb rm → P) :
  ∀ (n : Nat) {m : MM} {y2 : Int} , Kr fW_X12_takeOver 0 0 mb m → fl_X12_takeOver_67 y1 k113 n y2 m = some (rz, rm) → P := by
  intro n
  induction n with
  | zero => intro m y2 w h; cases h
  | succ n ih0 =>
    intro m y2 w h
    have ih : ∀ mq : MM, Kr fW_X12_takeOver 0 0 mb mq → ∀ {z2 : Int}, fl_X12_takeOver_67 y1 k113 n z2 mq = some (rz, rm) → P := fun mq b => by intros; exact ih0 b ‹_›
    unfold fl_X12_takeOver_67 at h
    obtain ⟨x_139, e_140, h⟩ := lx_s h
    rcases it_s h with ⟨hp_141, h⟩ | ⟨hp_141, h⟩
    · obtain ⟨g_147, h⟩ := gd_s h
      obtain ⟨x_149, e_150, h⟩ := lx_s h
      rcases it_s h with ⟨hp_151, h⟩ | ⟨hp_151, h⟩
      · obtain ⟨x_168, e_169, h⟩ := lx_s h
        rcases it_s h with ⟨hp_170, h⟩ | ⟨hp_170, h⟩
        · obtain ⟨m_186, e_187, h⟩ := up_s h
          have E_190 := ext_up e_187 (And.left (fx_kF (c := 100) (Kr.fix w) (by decide +kernel))) (And.left g_147)
          have w_191 := Kr.upC (y := (-9)) w e_187 (ext_up e_187 (And.left (fx_kF (c := 100) (Kr.fix w) (by decide +kernel))) (And.left g_147)) (And.left (fx_kF (c := 100) (Kr.fix w) (by decide +kernel))) (fx_a (Kr.fix w) (fx_kF (c := 100) (Kr.fix w) (by decide +kernel)) (And.left g_147) (by decide +kernel)) (Or.inl rfl) (by decide +kernel) (fx_kF (c := 100) (Kr.fix w) (by decide +kernel)) (And.left g_147) (by first | exact Or.inl (by decide) | exact Or.inr (by decide))
          obtain ⟨x_198, m_199, hc_197, h⟩ := bd_s h
          have w_206 := (kw_X12_closes (Kr.fix w_191) hc_197)
          have E_204 := Kr.ext w_206
          have w_207 := Kr.tr0 w_191 w_206 (by decide +kernel)
          obtain ⟨x_214, e_215, h⟩ := lx_s h
          exact ih m_199 w_207 h
        · obtain ⟨x_176, e_177, h⟩ := lx_s h
          exact ih m w h
      · obtain ⟨x_157, e_158, h⟩ := lx_s h
        exact ih m w h
    · exact hk113 m w h
set_option maxHeartbeats 4000000 in
theorem kwl_X12_takeOver_115 {P : Prop} {mb : MM} {y1 : Int} {rz : Int} {rm : MM} (hF0 : Fix mb) (hQ : Kr fW_X12_takeOver 0 0 mb rm → P) :
  ∀ (n : Nat) {m : MM} {y2 : Int} , Kr fW_X12_takeOver 0 0 mb m → fl_X12_takeOver_115 y1 n y2 m = some (rz, rm) → P := by
  intro n
  induction n with
  | zero => intro m y2 w h; cases h
  | succ n ih0 =>
    intro m y2 w h
    have ih : ∀ mq : MM, Kr fW_X12_takeOver 0 0 mb mq → ∀ {z2 : Int}, fl_X12_takeOver_115 y1 n z2 mq = some (rz, rm) → P := fun mq b => by intros; exact ih0 b ‹_›
    unfold fl_X12_takeOver_115 at h
    obtain ⟨x_243, e_244, h⟩ := lx_s h
    rcases it_s h with ⟨hp_245, h⟩ | ⟨hp_245, h⟩
    · obtain ⟨g_251, h⟩ := gd_s h
      obtain ⟨x_253, e_254, h⟩ := lx_s h
      rcases it_s h with ⟨hp_255, h⟩ | ⟨hp_255, h⟩
      · obtain ⟨x_267, m_268, hc_266, h⟩ := bd_s h
        have w_275 := (kw_X12_beginsAnew (Kr.fix w) hc_266)
        have E_273 := Kr.ext w_275
        have w_276 := Kr.tr0 w w_275 (by decide +kernel)
        obtain ⟨x_283, e_284, h⟩ := lx_s h
        exact ih m_268 w_276 h
      · obtain ⟨x_261, e_262, h⟩ := lx_s h
        exact ih m w h
    · cases h
      exact hQ w
set_option maxHeartbeats 4000000 in
theorem kwj_X12_takeOver_13 {P : Prop} {m : MM} {s0 : Int} {rz : Int} {rm : MM} (hF : Fix m) (hQ : Kr fW_X12_takeOver 0 0 m rm → P)
  (h : fj_X12_takeOver_13 s0 m = some (rz, rm)) : P := by
  unfold fj_X12_takeOver_13 at h
  obtain ⟨x_10, m_11, hc_9, h⟩ := bd_s h
  have w_18 := (kw_X12_fails hF hc_9)
  have E_16 := Kr.ext w_18
  have w_19 := Kr.tr0 (Kr.rf (W := fW_X12_takeOver) (e := 0) hF) w_18 (by decide +kernel)
  rcases it_s h with ⟨hp_21, h⟩ | ⟨hp_21, h⟩
  · obtain ⟨m_24, e_25, h⟩ := up_s h
    have E_28 := ext_up e_25 (And.left (fx_kF (c := 13) (Kr.fix w_19) (by decide +kernel))) (by decide)
    have w_29 := Kr.upC (y := 83) w_19 e_25 (ext_up e_25 (And.left (fx_kF (c := 13) (Kr.fix w_19) (by decide +kernel))) (by decide)) (And.left (fx_kF (c := 13) (Kr.fix w_19) (by decide +kernel))) (fx_f (j := 83) (Kr.fix w_19) (fx_kF (c := 13) (Kr.fix w_19) (by decide +kernel)) (by decide +kernel)) (Or.inr rfl) (by decide +kernel) (fx_kF (c := 13) (Kr.fix w_19) (by decide +kernel)) (by decide) (by first | exact Or.inl (by decide) | exact Or.inr (by decide))
    refine kwl_X12_takeOver_30 (Kr.fix w_29) ?_ (fun f => hQ (Kr.trS w_29 f)) BIG (Kr.rf (Kr.fix w_29)) h
    intro m_124 w_127
    intro x_114
    intro h
    have E_125 := Kr.ext w_127
    have w_128 := Kr.trS w_29 w_127
    refine kwl_X12_takeOver_67 (Kr.fix w_128) ?_ (fun f => hQ (Kr.trS w_128 f)) BIG (Kr.rf (Kr.fix w_128)) h
    intro m_228 w_231
    intro h
    have E_229 := Kr.ext w_231
    have w_232 := Kr.trS w_128 w_231
    refine kwl_X12_takeOver_115 (Kr.fix w_232)  (fun f => hQ (Kr.trS w_232 f)) BIG (Kr.rf (Kr.fix w_232)) h
  · cases h
    exact hQ w_19
set_option maxHeartbeats 4000000 in
theorem kw_X12_takeOver {m0 : MM} {rz : Int} {rm : MM} (hF : Fix m0)
  (h : fm_X12_takeOver m0 = some (rz, rm)) : Kr fW_X12_takeOver 0 0 m0 rm := by
  have hQ : Kr fW_X12_takeOver 0 0 m0 rm → Kr fW_X12_takeOver 0 0 m0 rm := id
  unfold fm_X12_takeOver at h
  obtain ⟨x_4, e_5, h⟩ := lx_s h
  rcases it_s h with ⟨hp_6, h⟩ | ⟨hp_6, h⟩
  · exact kwj_X12_takeOver_13 hF hQ h
  · exact kwj_X12_takeOver_13 hF hQ h
set_option maxHeartbeats 4000000 in
theorem kwl_X12_join_30 {P : Prop} {mb : MM} {rz : Int} {rm : MM} (hF0 : Fix mb) (hQ : Kr fW_X12_join 0 0 mb rm → P) :
  ∀ (n : Nat) {m : MM} {y1 y2 : Int} , Kr fW_X12_join 0 0 mb m → fl_X12_join_30 n y1 y2 m = some (rz, rm) → P := by
  intro n
  induction n with
  | zero => intro m y1 y2 w h; cases h
  | succ n ih0 =>
    intro m y1 y2 w h
    have ih : ∀ mq : MM, Kr fW_X12_join 0 0 mb mq → ∀ {z1 z2 : Int}, fl_X12_join_30 n z1 z2 mq = some (rz, rm) → P := fun mq b => by intros; exact ih0 b ‹_›
    unfold fl_X12_join_30 at h
    obtain ⟨x_47, e_48, h⟩ := lx_s h
    rcases it_s h with ⟨hp_49, h⟩ | ⟨hp_49, h⟩
    · obtain ⟨g_67, h⟩ := gd_s h
      obtain ⟨x_69, e_70, h⟩ := lx_s h
      obtain ⟨g_73, h⟩ := gd_s h
      obtain ⟨x_75, e_76, h⟩ := lx_s h
      rcases it_s h with ⟨hp_77, h⟩ | ⟨hp_77, h⟩
      · obtain ⟨x_102, e_103, h⟩ := lx_s h
        obtain ⟨x_110, e_111, h⟩ := lx_s h
        obtain ⟨x_113, m_114, hc_112, h⟩ := bd_s h
        have w_121 := (kw_X12_puts (Kr.fix w) hc_112)
        have E_119 := Kr.ext w_121
        have w_122 := Kr.tr0 w w_121 (by decide +kernel)
        obtain ⟨x_129, e_130, h⟩ := lx_s h
        obtain ⟨x_139, e_140, h⟩ := lx_s h
        exact ih m_114 w_122 h
      · obtain ⟨x_83, e_84, h⟩ := lx_s h
        exact ih m w h
    · obtain ⟨m_52, e_53, h⟩ := up_s h
      have E_56 := ext_up e_53 (And.left (fx_kF (c := 13) (Kr.fix w) (by decide +kernel))) (by decide)
      have w_57 := Kr.upC (y := 84) w e_53 (ext_up e_53 (And.left (fx_kF (c := 13) (Kr.fix w) (by decide +kernel))) (by decide)) (And.left (fx_kF (c := 13) (Kr.fix w) (by decide +kernel))) (fx_f (j := 84) (Kr.fix w) (fx_kF (c := 13) (Kr.fix w) (by decide +kernel)) (by decide +kernel)) (Or.inr rfl) (by decide +kernel) (fx_kF (c := 13) (Kr.fix w) (by decide +kernel)) (by decide) (by first | exact Or.inl (by decide) | exact Or.inr (by decide))
      cases h
      exact hQ w_57
set_option maxHeartbeats 4000000 in
theorem kwj_X12_join_13 {P : Prop} {m : MM} {s0 : Int} {rz : Int} {rm : MM} (hF : Fix m) (hQ : Kr fW_X12_join 0 0 m rm → P)
  (h : fj_X12_join_13 s0 m = some (rz, rm)) : P := by
  unfold fj_X12_join_13 at h
  obtain ⟨x_10, m_11, hc_9, h⟩ := bd_s h
  have w_18 := (kw_X12_fails hF hc_9)
  have E_16 := Kr.ext w_18
  have w_19 := Kr.tr0 (Kr.rf (W := fW_X12_join) (e := 0) hF) w_18 (by decide +kernel)
  rcases it_s h with ⟨hp_21, h⟩ | ⟨hp_21, h⟩
  · obtain ⟨m_24, e_25, h⟩ := up_s h
    have E_28 := ext_up e_25 (And.left (fx_kF (c := 13) (Kr.fix w_19) (by decide +kernel))) (by decide)
    have w_29 := Kr.upC (y := 83) w_19 e_25 (ext_up e_25 (And.left (fx_kF (c := 13) (Kr.fix w_19) (by decide +kernel))) (by decide)) (And.left (fx_kF (c := 13) (Kr.fix w_19) (by decide +kernel))) (fx_f (j := 83) (Kr.fix w_19) (fx_kF (c := 13) (Kr.fix w_19) (by decide +kernel)) (by decide +kernel)) (Or.inr rfl) (by decide +kernel) (fx_kF (c := 13) (Kr.fix w_19) (by decide +kernel)) (by decide) (by first | exact Or.inl (by decide) | exact Or.inr (by decide))
    refine kwl_X12_join_30 (Kr.fix w_29)  (fun f => hQ (Kr.trS w_29 f)) BIG (Kr.rf (Kr.fix w_29)) h
  · cases h
    exact hQ w_19
set_option maxHeartbeats 4000000 in
theorem kw_X12_join {m0 : MM} {rz : Int} {rm : MM} (hF : Fix m0)
  (h : fm_X12_join m0 = some (rz, rm)) : Kr fW_X12_join 0 0 m0 rm := by
  have hQ : Kr fW_X12_join 0 0 m0 rm → Kr fW_X12_join 0 0 m0 rm := id
  unfold fm_X12_join at h
  obtain ⟨x_4, e_5, h⟩ := lx_s h
  rcases it_s h with ⟨hp_6, h⟩ | ⟨hp_6, h⟩
  · exact kwj_X12_join_13 hF hQ h
  · exact kwj_X12_join_13 hF hQ h
set_option maxHeartbeats 4000000 in
theorem kwj_X12_schedule_89 {P : Prop} {m : MM} {y1 y2 y3 y4 s0 : Int} {rz : Int} {rm : MM} (hF : Fix m) (hQ : Kr fW_X12_schedule 0 0 m rm → P)
  (h : fj_X12_schedule_89 y1 y2 y3 y4 s0 m = some (rz, rm)) : P := by
  unfold fj_X12_schedule_89 at h
  obtain ⟨x_61, m_62, hc_60, h⟩ := bd_s h
  have w_69 := (kw_X12_fails hF hc_60)
  have E_67 := Kr.ext w_69
  have w_70 := Kr.tr0 (Kr.rf (W := fW_X12_schedule) (e := 0) hF) w_69 (by decide +kernel)
  rcases it_s h with ⟨hp_72, h⟩ | ⟨hp_72, h⟩
  · obtain ⟨x_79, e_80, h⟩ := lx_s h
    obtain ⟨g_81, h⟩ := gd_s h
    obtain ⟨m_82, e_83, h⟩ := up_s h
    have E_86 := ext_up e_83 (And.left (fx_kF (c := 100) (Kr.fix w_70) (by decide +kernel))) (And.left g_81)
    have w_87 := Kr.upC (y := (-9)) w_70 e_83 (ext_up e_83 (And.left (fx_kF (c := 100) (Kr.fix w_70) (by decide +kernel))) (And.left g_81)) (And.left (fx_kF (c := 100) (Kr.fix w_70) (by decide +kernel))) (fx_a (Kr.fix w_70) (fx_kF (c := 100) (Kr.fix w_70) (by decide +kernel)) (And.left g_81) (by decide +kernel)) (Or.inl rfl) (by decide +kernel) (fx_kF (c := 100) (Kr.fix w_70) (by decide +kernel)) (And.left g_81) (by first | exact Or.inl (by decide) | exact Or.inr (by decide))
    obtain ⟨x_95, e_96, h⟩ := lx_s h
    obtain ⟨g_97, h⟩ := gd_s h
    obtain ⟨m_98, e_99, h⟩ := up_s h
    have E_102 := ext_up e_99 (And.left (fx_kF (c := 100) (Kr.fix w_87) (by decide +kernel))) (And.left g_97)
    have w_103 := Kr.upC (y := (-9)) w_87 e_99 (ext_up e_99 (And.left (fx_kF (c := 100) (Kr.fix w_87) (by decide +kernel))) (And.left g_97)) (And.left (fx_kF (c := 100) (Kr.fix w_87) (by decide +kernel))) (fx_a (Kr.fix w_87) (fx_kF (c := 100) (Kr.fix w_87) (by decide +kernel)) (And.left g_97) (by decide +kernel)) (Or.inl rfl) (by decide +kernel) (fx_kF (c := 100) (Kr.fix w_87) (by decide +kernel)) (And.left g_97) (by first | exact Or.inl (by decide) | exact Or.inr (by decide))
    obtain ⟨x_111, e_112, h⟩ := lx_s h
    obtain ⟨g_113, h⟩ := gd_s h
    obtain ⟨m_114, e_115, h⟩ := up_s h
    have E_118 := ext_up e_115 (And.left (fx_kF (c := 100) (Kr.fix w_103) (by decide +kernel))) (And.left g_113)
    have w_119 := Kr.upC (y := (-9)) w_103 e_115 (ext_up e_115 (And.left (fx_kF (c := 100) (Kr.fix w_103) (by decide +kernel))) (And.left g_113)) (And.left (fx_kF (c := 100) (Kr.fix w_103) (by decide +kernel))) (fx_a (Kr.fix w_103) (fx_kF (c := 100) (Kr.fix w_103) (by decide +kernel)) (And.left g_113) (by decide +kernel)) (Or.inl rfl) (by decide +kernel) (fx_kF (c := 100) (Kr.fix w_103) (by decide +kernel)) (And.left g_113) (by first | exact Or.inl (by decide) | exact Or.inr (by decide))
    obtain ⟨x_127, e_128, h⟩ := lx_s h
    obtain ⟨g_129, h⟩ := gd_s h
    obtain ⟨m_130, e_131, h⟩ := up_s h
    have E_134 := ext_up e_131 (And.left (fx_kF (c := 100) (Kr.fix w_119) (by decide +kernel))) (And.left g_129)
    have w_135 := Kr.upC (y := (-9)) w_119 e_131 (ext_up e_131 (And.left (fx_kF (c := 100) (Kr.fix w_119) (by decide +kernel))) (And.left g_129)) (And.left (fx_kF (c := 100) (Kr.fix w_119) (by decide +kernel))) (fx_a (Kr.fix w_119) (fx_kF (c := 100) (Kr.fix w_119) (by decide +kernel)) (And.left g_129) (by decide +kernel)) (Or.inl rfl) (by decide +kernel) (fx_kF (c := 100) (Kr.fix w_119) (by decide +kernel)) (And.left g_129) (by first | exact Or.inl (by decide) | exact Or.inr (by decide))
    obtain ⟨x_143, e_144, h⟩ := lx_s h
    obtain ⟨x_148, e_149, h⟩ := lx_s h
    obtain ⟨x_153, e_154, h⟩ := lx_s h
    obtain ⟨g_157, h⟩ := gd_s h
    obtain ⟨m_158, e_159, h⟩ := up_s h
    have E_162 := ext_up e_159 (And.left (fx_kF (c := 100) (Kr.fix w_135) (by decide +kernel))) (And.left g_157)
    have w_163 := Kr.upC (y := (-9)) w_135 e_159 (ext_up e_159 (And.left (fx_kF (c := 100) (Kr.fix w_135) (by decide +kernel))) (And.left g_157)) (And.left (fx_kF (c := 100) (Kr.fix w_135) (by decide +kernel))) (fx_a (Kr.fix w_135) (fx_kF (c := 100) (Kr.fix w_135) (by decide +kernel)) (And.left g_157) (by decide +kernel)) (Or.inl rfl) (by decide +kernel) (fx_kF (c := 100) (Kr.fix w_135) (by decide +kernel)) (And.left g_157) (by first | exact Or.inl (by decide) | exact Or.inr (by decide))
    obtain ⟨x_168, e_169, h⟩ := lx_s h
    obtain ⟨m_174, e_175, h⟩ := up_s h
    have E_178 := ext_up e_175 (And.left (fx_kF (c := 13) (Kr.fix w_163) (by decide +kernel))) (by decide)
    have w_179 := Kr.upC (y := 69) w_163 e_175 (ext_up e_175 (And.left (fx_kF (c := 13) (Kr.fix w_163) (by decide +kernel))) (by decide)) (And.left (fx_kF (c := 13) (Kr.fix w_163) (by decide +kernel))) (fx_f (j := 69) (Kr.fix w_163) (fx_kF (c := 13) (Kr.fix w_163) (by decide +kernel)) (by decide +kernel)) (Or.inr rfl) (by decide +kernel) (fx_kF (c := 13) (Kr.fix w_163) (by decide +kernel)) (by decide) (by first | exact Or.inl (by decide) | exact Or.inr (by decide))
    obtain ⟨x_184, e_185, h⟩ := lx_s h
    cases h
    exact hQ w_179
  · cases h
    exact hQ w_70
set_option maxHeartbeats 4000000 in
theorem kwj_X12_schedule_46 {P : Prop} {m : MM} {y1 y2 y3 y4 y5 s0 : Int} {rz : Int} {rm : MM} (hF : Fix m) (hQ : Kr fW_X12_schedule 0 0 m rm → P)
  (h : fj_X12_schedule_46 y1 y2 y3 y4 y5 s0 m = some (rz, rm)) : P := by
  unfold fj_X12_schedule_46 at h
  rcases it_s h with ⟨hp_46, h⟩ | ⟨hp_46, h⟩
  · exact kwj_X12_schedule_89 hF hQ h
  · rcases it_s h with ⟨hp_47, h⟩ | ⟨hp_47, h⟩
    · exact kwj_X12_schedule_89 hF hQ h
    · obtain ⟨g_53, h⟩ := gd_s h
      obtain ⟨x_55, e_56, h⟩ := lx_s h
      rcases it_s h with ⟨hp_57, h⟩ | ⟨hp_57, h⟩
      · exact kwj_X12_schedule_89 hF hQ h
      · obtain ⟨x_195, e_196, h⟩ := lx_s h
        rcases it_s h with ⟨hp_199, h⟩ | ⟨hp_199, h⟩
        · exact kwj_X12_schedule_89 hF hQ h
        · exact kwj_X12_schedule_89 hF hQ h
set_option maxHeartbeats 4000000 in
theorem kwj_X12_schedule_19 {P : Prop} {m : MM} {y1 y2 y3 y4 s0 : Int} {rz : Int} {rm : MM} (hF : Fix m) (hQ : Kr fW_X12_schedule 0 0 m rm → P)
  (h : fj_X12_schedule_19 y1 y2 y3 y4 s0 m = some (rz, rm)) : P := by
  unfold fj_X12_schedule_19 at h
  obtain ⟨x_26, hc_25, h⟩ := bp_s h
  rcases it_s h with ⟨hp_34, h⟩ | ⟨hp_34, h⟩
  · exact kwj_X12_schedule_46 hF hQ h
  · obtain ⟨x_213, hc_212, h⟩ := bp_s h
    rcases it_s h with ⟨hp_221, h⟩ | ⟨hp_221, h⟩
    · exact kwj_X12_schedule_46 hF hQ h
    · exact kwj_X12_schedule_46 hF hQ h
set_option maxHeartbeats 4000000 in
theorem kw_X12_schedule {m0 : MM} {p1 p2 p3 p4 : Int} {rz : Int} {rm : MM} (hF : Fix m0)
  (h : fm_X12_schedule p1 p2 p3 p4 m0 = some (rz, rm)) : Kr fW_X12_schedule 0 0 m0 rm := by
  have hQ : Kr fW_X12_schedule 0 0 m0 rm → Kr fW_X12_schedule 0 0 m0 rm := id
  unfold fm_X12_schedule at h
  obtain ⟨x_2, hc_1, h⟩ := bp_s h
  rcases it_s h with ⟨hp_10, h⟩ | ⟨hp_10, h⟩
  · exact kwj_X12_schedule_19 hF hQ h
  · obtain ⟨x_227, hc_226, h⟩ := bp_s h
    rcases it_s h with ⟨hp_235, h⟩ | ⟨hp_235, h⟩
    · exact kwj_X12_schedule_19 hF hQ h
    · exact kwj_X12_schedule_19 hF hQ h
set_option maxHeartbeats 4000000 in
theorem kwj_X12_togglePause_14 {P : Prop} {m : MM} {y1 s0 : Int} {rz : Int} {rm : MM} (hF : Fix m) (hQ : Kr fW_X12_togglePause 0 0 m rm → P)
  (h : fj_X12_togglePause_14 y1 s0 m = some (rz, rm)) : P := by
  unfold fj_X12_togglePause_14 at h
  obtain ⟨x_14, m_15, hc_13, h⟩ := bd_s h
  have w_22 := (kw_X12_fails hF hc_13)
  have E_20 := Kr.ext w_22
  have w_23 := Kr.tr0 (Kr.rf (W := fW_X12_togglePause) (e := 0) hF) w_22 (by decide +kernel)
  rcases it_s h with ⟨hp_25, h⟩ | ⟨hp_25, h⟩
  · obtain ⟨g_34, h⟩ := gd_s h
    obtain ⟨x_36, e_37, h⟩ := lx_s h
    rcases it_s h with ⟨hp_38, h⟩ | ⟨hp_38, h⟩
    · obtain ⟨m_59, e_60, h⟩ := up_s h
      have E_63 := ext_up e_60 (And.left (fx_kF (c := 102) (Kr.fix w_23) (by decide +kernel))) (And.left g_34)
      have w_64 := Kr.upC (y := (-9)) w_23 e_60 (ext_up e_60 (And.left (fx_kF (c := 102) (Kr.fix w_23) (by decide +kernel))) (And.left g_34)) (And.left (fx_kF (c := 102) (Kr.fix w_23) (by decide +kernel))) (fx_a (Kr.fix w_23) (fx_kF (c := 102) (Kr.fix w_23) (by decide +kernel)) (And.left g_34) (by decide +kernel)) (Or.inl rfl) (by decide +kernel) (fx_kF (c := 102) (Kr.fix w_23) (by decide +kernel)) (And.left g_34) (by first | exact Or.inl (by decide) | exact Or.inr (by decide))
      obtain ⟨x_72, e_73, h⟩ := lx_s h
      obtain ⟨g_74, h⟩ := gd_s h
      cases h
      exact hQ w_64
    · obtain ⟨m_41, e_42, h⟩ := up_s h
      have E_45 := ext_up e_42 (And.left (fx_kF (c := 102) (Kr.fix w_23) (by decide +kernel))) (And.left g_34)
      have w_46 := Kr.upC (y := (-9)) w_23 e_42 (ext_up e_42 (And.left (fx_kF (c := 102) (Kr.fix w_23) (by decide +kernel))) (And.left g_34)) (And.left (fx_kF (c := 102) (Kr.fix w_23) (by decide +kernel))) (fx_a (Kr.fix w_23) (fx_kF (c := 102) (Kr.fix w_23) (by decide +kernel)) (And.left g_34) (by decide +kernel)) (Or.inl rfl) (by decide +kernel) (fx_kF (c := 102) (Kr.fix w_23) (by decide +kernel)) (And.left g_34) (by first | exact Or.inl (by decide) | exact Or.inr (by decide))
      obtain ⟨x_54, e_55, h⟩ := lx_s h
      obtain ⟨g_56, h⟩ := gd_s h
      cases h
      exact hQ w_46
  · cases h
    exact hQ w_23
set_option maxHeartbeats 4000000 in
theorem kw_X12_togglePause {m0 : MM} {p1 : Int} {rz : Int} {rm : MM} (hF : Fix m0)
  (h : fm_X12_togglePause p1 m0 = some (rz, rm)) : Kr fW_X12_togglePause 0 0 m0 rm := by
  have hQ : Kr fW_X12_togglePause 0 0 m0 rm → Kr fW_X12_togglePause 0 0 m0 rm := id
  unfold fm_X12_togglePause at h
  obtain ⟨x_2, hc_1, h⟩ := bp_s h
  rcases it_s h with ⟨hp_10, h⟩ | ⟨hp_10, h⟩
  · exact kwj_X12_togglePause_14 hF hQ h
  · exact kwj_X12_togglePause_14 hF hQ h
set_option maxHeartbeats 4000000 in
theorem kwl_X12_backfill_77 {P : Prop} {mb : MM} {y1 y3 : Int} {rz : Int} {rm : MM} (hF0 : Fix mb) (hQ : Kr fW_X12_backfill 0 0 mb rm → P) :
  ∀ (n : Nat) {m : MM} {y4 y5 : Int} , Kr fW_X12_backfill 0 0 mb m → fl_X12_backfill_77 y1 y3 n y4 y5 m = some (rz, rm) → P := by
  intro n
  induction n with
  | zero => intro m y4 y5 w h; cases h
  | succ n ih0 =>
    intro m y4 y5 w h
    have ih : ∀ mq : MM, Kr fW_X12_backfill 0 0 mb mq → ∀ {z4 z5 : Int}, fl_X12_backfill_77 y1 y3 n z4 z5 mq = some (rz, rm) → P := fun mq b => by intros; exact ih0 b ‹_›
    unfold fl_X12_backfill_77 at h
    rcases it_s h with ⟨hp_108, h⟩ | ⟨hp_108, h⟩
    · cases h
      exact hQ w
    · obtain ⟨g_114, h⟩ := gd_s h
      obtain ⟨x_116, e_117, h⟩ := lx_s h
      obtain ⟨x_121, hc_120, h⟩ := bp_s h
      obtain ⟨x_130, m_131, hc_129, h⟩ := bd_s h
      have w_138 := (kw_X12_beginsFor (Kr.fix w) hc_129)
      have E_136 := Kr.ext w_138
      have w_139 := Kr.tr0 w w_138 (by decide +kernel)
      rcases it_s h with ⟨hp_143, h⟩ | ⟨hp_143, h⟩
      · obtain ⟨x_174, e_175, h⟩ := lx_s h
        obtain ⟨x_189, e_190, h⟩ := lx_s h
        exact ih m_131 w_139 h
      · obtain ⟨x_148, e_149, h⟩ := lx_s h
        obtain ⟨x_163, e_164, h⟩ := lx_s h
        exact ih m_131 w_139 h
set_option maxHeartbeats 4000000 in
theorem kwj_X12_backfill_62 {P : Prop} {m : MM} {y1 y2 s0 : Int} {rz : Int} {rm : MM} (hF : Fix m) (hQ : Kr fW_X12_backfill 0 0 m rm → P)
  (h : fj_X12_backfill_62 y1 y2 s0 m = some (rz, rm)) : P := by
  unfold fj_X12_backfill_62 at h
  obtain ⟨x_93, hc_92, h⟩ := bp_s h
  refine kwl_X12_backfill_77 hF  hQ BIG (Kr.rf hF) h
set_option maxHeartbeats 4000000 in
theorem kwj_X12_backfill_27 {P : Prop} {m : MM} {y1 y2 s0 : Int} {rz : Int} {rm : MM} (hF : Fix m) (hQ : Kr fW_X12_backfill 0 0 m rm → P)
  (h : fj_X12_backfill_27 y1 y2 s0 m = some (rz, rm)) : P := by
  unfold fj_X12_backfill_27 at h
  obtain ⟨x_28, m_29, hc_27, h⟩ := bd_s h
  have w_36 := (kw_X12_fails hF hc_27)
  have E_34 := Kr.ext w_36
  have w_37 := Kr.tr0 (Kr.rf (W := fW_X12_backfill) (e := 0) hF) w_36 (by decide +kernel)
  rcases it_s h with ⟨hp_39, h⟩ | ⟨hp_39, h⟩
  · obtain ⟨g_45, h⟩ := gd_s h
    obtain ⟨x_47, e_48, h⟩ := lx_s h
    rcases it_s h with ⟨hp_51, h⟩ | ⟨hp_51, h⟩
    · exact kwj_X12_backfill_62 (Kr.fix w_37) (fun f => hQ (Kr.trS w_37 f)) h
    · obtain ⟨x_64, e_65, h⟩ := lx_s h
      obtain ⟨g_68, h⟩ := gd_s h
      exact kwj_X12_backfill_62 (Kr.fix w_37) (fun f => hQ (Kr.trS w_37 f)) h
  · cases h
    exact hQ w_37
set_option maxHeartbeats 4000000 in
theorem kw_X12_backfill {m0 : MM} {p1 p2 : Int} {rz : Int} {rm : MM} (hF : Fix m0)
  (h : fm_X12_backfill p1 p2 m0 = some (rz, rm)) : Kr fW_X12_backfill 0 0 m0 rm := by
  have hQ : Kr fW_X12_backfill 0 0 m0 rm → Kr fW_X12_backfill 0 0 m0 rm := id
  unfold fm_X12_backfill at h
  obtain ⟨x_2, hc_1, h⟩ := bp_s h
  rcases it_s h with ⟨hp_10, h⟩ | ⟨hp_10, h⟩
  · exact kwj_X12_backfill_27 hF hQ h
  · obtain ⟨x_16, hc_15, h⟩ := bp_s h
    rcases it_s h with ⟨hp_24, h⟩ | ⟨hp_24, h⟩
    · exact kwj_X12_backfill_27 hF hQ h
    · exact kwj_X12_backfill_27 hF hQ h
set_option maxHeartbeats 4000000 in
theorem kwj_X12_shift_17 {P : Prop} {m : MM} {y1 s0 : Int} {rz : Int} {rm : MM} (hF : Fix m) (hQ : Kr fW_X12_shift 0 0 m rm → P)
  (h : fj_X12_shift_17 y1 s0 m = some (rz, rm)) : P := by
  unfold fj_X12_shift_17 at h
  obtain ⟨x_18, m_19, hc_17, h⟩ := bd_s h
  have w_26 := (kw_X12_fails hF hc_17)
  have E_24 := Kr.ext w_26
  have w_27 := Kr.tr0 (Kr.rf (W := fW_X12_shift) (e := 0) hF) w_26 (by decide +kernel)
  rcases it_s h with ⟨hp_29, h⟩ | ⟨hp_29, h⟩
  · obtain ⟨x_33, e_34, h⟩ := lx_s h
    obtain ⟨m_37, e_38, h⟩ := up_s h
    have E_41 := ext_up e_38 (And.left (fx_kF (c := 13) (Kr.fix w_27) (by decide +kernel))) (by decide)
    have w_42 := Kr.upC (y := 68) w_27 e_38 (ext_up e_38 (And.left (fx_kF (c := 13) (Kr.fix w_27) (by decide +kernel))) (by decide)) (And.left (fx_kF (c := 13) (Kr.fix w_27) (by decide +kernel))) (fx_f (j := 68) (Kr.fix w_27) (fx_kF (c := 13) (Kr.fix w_27) (by decide +kernel)) (by decide +kernel)) (Or.inr rfl) (by decide +kernel) (fx_kF (c := 13) (Kr.fix w_27) (by decide +kernel)) (by decide) (by first | exact Or.inl (by decide) | exact Or.inr (by decide))
    obtain ⟨x_47, e_48, h⟩ := lx_s h
    obtain ⟨x_52, e_53, h⟩ := lx_s h
    cases h
    exact hQ w_42
  · cases h
    exact hQ w_27
set_option maxHeartbeats 4000000 in
theorem kw_X12_shift {m0 : MM} {p1 : Int} {rz : Int} {rm : MM} (hF : Fix m0)
  (h : fm_X12_shift p1 m0 = some (rz, rm)) : Kr fW_X12_shift 0 0 m0 rm := by
  have hQ : Kr fW_X12_shift 0 0 m0 rm → Kr fW_X12_shift 0 0 m0 rm := id
  unfold fm_X12_shift at h
  obtain ⟨x_6, hc_5, h⟩ := bp_s h
  rcases it_s h with ⟨hp_14, h⟩ | ⟨hp_14, h⟩
  · exact kwj_X12_shift_17 hF hQ h
  · exact kwj_X12_shift_17 hF hQ h
set_option maxHeartbeats 4000000 in
theorem kwl_X12_bringIn_26 {P : Prop} {mb : MM} {y1 : Int} {rz : Int} {rm : MM} (hF0 : Fix mb) (hQ : Kr fW_X12_bringIn 0 0 mb rm → P) :
  ∀ (n : Nat) {m : MM} {y2 : Int} , Kr fW_X12_bringIn 0 0 mb m → fl_X12_bringIn_26 y1 n y2 m = some (rz, rm) → P := by
  intro n
  induction n with
  | zero => intro m y2 w h; cases h
  | succ n ih0 =>
    intro m y2 w h
    have ih : ∀ mq : MM, Kr fW_X12_bringIn 0 0 mb mq → ∀ {z2 : Int}, fl_X12_bringIn_26 y1 n z2 mq = some (rz, rm) → P := fun mq b => by intros; exact ih0 b ‹_›
    unfold fl_X12_bringIn_26 at h
    rcases it_s h with ⟨hp_37, h⟩ | ⟨hp_37, h⟩
    · obtain ⟨x_53, e_54, h⟩ := lx_s h
      obtain ⟨x_58, e_59, h⟩ := lx_s h
      rcases it_s h with ⟨hp_60, h⟩ | ⟨hp_60, h⟩
      · obtain ⟨g_80, h⟩ := gd_s h
        obtain ⟨x_82, e_83, h⟩ := lx_s h
        obtain ⟨g_101, h⟩ := gd_s h
        obtain ⟨m_102, e_103, h⟩ := up_s h
        have E_106 := ext_up e_103 (And.left (fx_kF (c := 100) (Kr.fix w) (by decide +kernel))) (And.left g_101)
        have w_107 := Kr.upC (y := (-9)) w e_103 (ext_up e_103 (And.left (fx_kF (c := 100) (Kr.fix w) (by decide +kernel))) (And.left g_101)) (And.left (fx_kF (c := 100) (Kr.fix w) (by decide +kernel))) (fx_a (Kr.fix w) (fx_kF (c := 100) (Kr.fix w) (by decide +kernel)) (And.left g_101) (by decide +kernel)) (Or.inl rfl) (by decide +kernel) (fx_kF (c := 100) (Kr.fix w) (by decide +kernel)) (And.left g_101) (by first | exact Or.inl (by decide) | exact Or.inr (by decide))
        obtain ⟨x_112, e_113, h⟩ := lx_s h
        obtain ⟨m_118, e_119, h⟩ := up_s h
        have E_122 := ext_up e_119 (And.left (fx_kF (c := 13) (Kr.fix w_107) (by decide +kernel))) (by decide)
        have w_123 := Kr.upC (y := 79) w_107 e_119 (ext_up e_119 (And.left (fx_kF (c := 13) (Kr.fix w_107) (by decide +kernel))) (by decide)) (And.left (fx_kF (c := 13) (Kr.fix w_107) (by decide +kernel))) (fx_f (j := 79) (Kr.fix w_107) (fx_kF (c := 13) (Kr.fix w_107) (by decide +kernel)) (by decide +kernel)) (Or.inr rfl) (by decide +kernel) (fx_kF (c := 13) (Kr.fix w_107) (by decide +kernel)) (by decide) (by first | exact Or.inl (by decide) | exact Or.inr (by decide))
        obtain ⟨x_130, e_131, h⟩ := lx_s h
        exact ih m_118 w_123 h
      · cases h
        exact hQ w
    · obtain ⟨x_41, e_42, h⟩ := lx_s h
      obtain ⟨x_46, e_47, h⟩ := lx_s h
      cases h
      exact hQ w
set_option maxHeartbeats 4000000 in
theorem kwj_X12_bringIn_16 {P : Prop} {m : MM} {y1 s0 : Int} {rz : Int} {rm : MM} (hF : Fix m) (hQ : Kr fW_X12_bringIn 0 0 m rm → P)
  (h : fj_X12_bringIn_16 y1 s0 m = some (rz, rm)) : P := by
  unfold fj_X12_bringIn_16 at h
  obtain ⟨x_18, m_19, hc_17, h⟩ := bd_s h
  have w_26 := (kw_X12_fails hF hc_17)
  have E_24 := Kr.ext w_26
  have w_27 := Kr.tr0 (Kr.rf (W := fW_X12_bringIn) (e := 0) hF) w_26 (by decide +kernel)
  rcases it_s h with ⟨hp_29, h⟩ | ⟨hp_29, h⟩
  · refine kwl_X12_bringIn_26 (Kr.fix w_27)  (fun f => hQ (Kr.trS w_27 f)) BIG (Kr.rf (Kr.fix w_27)) h
  · cases h
    exact hQ w_27
set_option maxHeartbeats 4000000 in
theorem kw_X12_bringIn {m0 : MM} {p1 : Int} {rz : Int} {rm : MM} (hF : Fix m0)
  (h : fm_X12_bringIn p1 m0 = some (rz, rm)) : Kr fW_X12_bringIn 0 0 m0 rm := by
  have hQ : Kr fW_X12_bringIn 0 0 m0 rm → Kr fW_X12_bringIn 0 0 m0 rm := id
  unfold fm_X12_bringIn at h
  obtain ⟨x_6, hc_5, h⟩ := bp_s h
  rcases it_s h with ⟨hp_14, h⟩ | ⟨hp_14, h⟩
  · exact kwj_X12_bringIn_16 hF hQ h
  · exact kwj_X12_bringIn_16 hF hQ h
set_option maxHeartbeats 4000000 in
theorem kwl_X12_search_25 {P : Prop} {m : MM} {y1 : Int} {rz : Int} {rm : MM} (hF : Fix m) (hQ : Kr fW_X12_search 0 0 m rm → P) :
  ∀ (n : Nat) {y2 y3 : Int} , fl_X12_search_25 y1 m n y2 y3 = some (rz, rm) → P := by
  intro n
  induction n with
  | zero => intro y2 y3 h; cases h
  | succ n ih0 =>
    intro y2 y3 h
    have ih : ∀ {z2 z3 : Int}, fl_X12_search_25 y1 m n z2 z3 = some (rz, rm) → P := by intros; exact ih0 ‹_›
    unfold fl_X12_search_25 at h
    obtain ⟨x_44, e_45, h⟩ := lx_s h
    rcases it_s h with ⟨hp_46, h⟩ | ⟨hp_46, h⟩
    · obtain ⟨g_52, h⟩ := gd_s h
      obtain ⟨x_54, e_55, h⟩ := lx_s h
      rcases it_s h with ⟨hp_56, h⟩ | ⟨hp_56, h⟩
      · obtain ⟨x_87, e_88, h⟩ := lx_s h
        obtain ⟨x_101, e_102, h⟩ := lx_s h
        exact ih h
      · obtain ⟨x_61, e_62, h⟩ := lx_s h
        obtain ⟨x_75, e_76, h⟩ := lx_s h
        exact ih h
    · cases h
      exact hQ (Kr.rf (W := fW_X12_search) (e := 0) hF)
set_option maxHeartbeats 4000000 in
theorem kwj_X12_search_13 {P : Prop} {m : MM} {y1 s0 : Int} {rz : Int} {rm : MM} (hF : Fix m) (hQ : Kr fW_X12_search 0 0 m rm → P)
  (h : fj_X12_search_13 y1 s0 m = some (rz, rm)) : P := by
  unfold fj_X12_search_13 at h
  obtain ⟨x_14, m_15, hc_13, h⟩ := bd_s h
  have w_22 := (kw_X12_fails hF hc_13)
  have E_20 := Kr.ext w_22
  have w_23 := Kr.tr0 (Kr.rf (W := fW_X12_search) (e := 0) hF) w_22 (by decide +kernel)
  rcases it_s h with ⟨hp_25, h⟩ | ⟨hp_25, h⟩
  · refine kwl_X12_search_25 (Kr.fix w_23)  (fun f => hQ (Kr.trS w_23 f)) BIG h
  · cases h
    exact hQ w_23
set_option maxHeartbeats 4000000 in
theorem kw_X12_search {m0 : MM} {p1 : Int} {rz : Int} {rm : MM} (hF : Fix m0)
  (h : fm_X12_search p1 m0 = some (rz, rm)) : Kr fW_X12_search 0 0 m0 rm := by
  have hQ : Kr fW_X12_search 0 0 m0 rm → Kr fW_X12_search 0 0 m0 rm := id
  unfold fm_X12_search at h
  obtain ⟨x_2, hc_1, h⟩ := bp_s h
  rcases it_s h with ⟨hp_10, h⟩ | ⟨hp_10, h⟩
  · exact kwj_X12_search_13 hF hQ h
  · exact kwj_X12_search_13 hF hQ h
set_option maxHeartbeats 4000000 in
theorem kw_L_line {m0 : MM} {p1 p2 p3 p4 : Int} {rz : Int} {rm : MM} (hF : Fix m0)
  (h : fm_L_line p1 p2 p3 p4 m0 = some (rz, rm)) : Kr fW_L_line 0 1 m0 rm := by
  have hQ : ∀ {n : Int}, Kr fW_L_line 0 n m0 rm → n ≤ 1 → Kr fW_L_line 0 1 m0 rm := fun w h => Kr.le w h
  unfold fm_L_line at h
  obtain ⟨rr5, m_5, hc_3, h⟩ := bx_s h
  rcases h with ⟨q_12, rfl, h⟩ | ⟨x_4, rfl, h⟩
  · rcases it_s h with ⟨hp_14, h⟩ | ⟨hp_14, h⟩
    · have w_17 := (kw_X11_line hF hc_3)
      have E_10 := Kr.ext w_17
      have w_18 := Kr.tr0 (Kr.rf (W := fW_L_line) (e := 0) hF) w_17 (by decide +kernel)
      cases h
      exact hQ w_18 (by first | exact Int.le_refl _ | exact (by decide : (0 : Int) ≤ 1))
    rcases it_s h with ⟨hp_21, h⟩ | ⟨hp_21, h⟩
    · have w_24 := (kw_X11_line hF hc_3)
      have E_10 := Kr.ext w_24
      have w_25 := Kr.tr0 (Kr.rf (W := fW_L_line) (e := 0) hF) w_24 (by decide +kernel)
      cases h
      exact hQ w_25 (by first | exact Int.le_refl _ | exact (by decide : (0 : Int) ≤ 1))
    rcases it_s h with ⟨hp_28, h⟩ | ⟨hp_28, h⟩
    · have w_31 := (kw_X11_line hF hc_3)
      have E_10 := Kr.ext w_31
      have w_32 := Kr.tr0 (Kr.rf (W := fW_L_line) (e := 0) hF) w_31 (by decide +kernel)
      cases h
      exact hQ w_32 (by first | exact Int.le_refl _ | exact (by decide : (0 : Int) ≤ 1))
    cases h
  have w_35 := (kw_X11_line hF hc_3)
  have E_10 := Kr.ext w_35
  have w_36 := Kr.tr0 (Kr.rf (W := fW_L_line) (e := 0) hF) w_35 (by decide +kernel)
  obtain ⟨m_40, e_41, h⟩ := up_s h
  have E_44 := ext_up e_41 (And.left (fx_kF (c := 101) (Kr.fix w_36) (by decide +kernel))) (by decide)
  have w_45 := Kr.upC (y := (-9)) w_36 e_41 (ext_up e_41 (And.left (fx_kF (c := 101) (Kr.fix w_36) (by decide +kernel))) (by decide)) (And.left (fx_kF (c := 101) (Kr.fix w_36) (by decide +kernel))) (fx_a (Kr.fix w_36) (fx_kF (c := 101) (Kr.fix w_36) (by decide +kernel)) (by decide) (by decide +kernel)) (Or.inl rfl) (by decide +kernel) (fx_kF (c := 101) (Kr.fix w_36) (by decide +kernel)) (by decide) (by first | exact Or.inl (by decide) | exact Or.inr (by decide))
  cases h
  exact hQ w_45 (by first | exact Int.le_refl _ | exact (by decide : (0 : Int) ≤ 1))
set_option maxHeartbeats 4000000 in
theorem kw_L_deploy {m0 : MM} {p1 : Int} {rz : Int} {rm : MM} (hF : Fix m0)
  (h : fm_L_deploy p1 m0 = some (rz, rm)) : Kr fW_L_deploy 0 1 m0 rm := by
  have hQ : ∀ {n : Int}, Kr fW_L_deploy 0 n m0 rm → n ≤ 1 → Kr fW_L_deploy 0 1 m0 rm := fun w h => Kr.le w h
  unfold fm_L_deploy at h
  obtain ⟨rr5, m_5, hc_3, h⟩ := bx_s h
  rcases h with ⟨q_12, rfl, h⟩ | ⟨x_4, rfl, h⟩
  · rcases it_s h with ⟨hp_14, h⟩ | ⟨hp_14, h⟩
    · have w_17 := (kw_X11_deploy hF hc_3)
      have E_10 := Kr.ext w_17
      have w_18 := Kr.tr0 (Kr.rf (W := fW_L_deploy) (e := 0) hF) w_17 (by decide +kernel)
      cases h
      exact hQ w_18 (by first | exact Int.le_refl _ | exact (by decide : (0 : Int) ≤ 1))
    rcases it_s h with ⟨hp_21, h⟩ | ⟨hp_21, h⟩
    · have w_24 := (kw_X11_deploy hF hc_3)
      have E_10 := Kr.ext w_24
      have w_25 := Kr.tr0 (Kr.rf (W := fW_L_deploy) (e := 0) hF) w_24 (by decide +kernel)
      cases h
      exact hQ w_25 (by first | exact Int.le_refl _ | exact (by decide : (0 : Int) ≤ 1))
    cases h
  have w_28 := (kw_X11_deploy hF hc_3)
  have E_10 := Kr.ext w_28
  have w_29 := Kr.tr0 (Kr.rf (W := fW_L_deploy) (e := 0) hF) w_28 (by decide +kernel)
  obtain ⟨m_33, e_34, h⟩ := up_s h
  have E_37 := ext_up e_34 (And.left (fx_kF (c := 101) (Kr.fix w_29) (by decide +kernel))) (by decide)
  have w_38 := Kr.upC (y := (-9)) w_29 e_34 (ext_up e_34 (And.left (fx_kF (c := 101) (Kr.fix w_29) (by decide +kernel))) (by decide)) (And.left (fx_kF (c := 101) (Kr.fix w_29) (by decide +kernel))) (fx_a (Kr.fix w_29) (fx_kF (c := 101) (Kr.fix w_29) (by decide +kernel)) (by decide) (by decide +kernel)) (Or.inl rfl) (by decide +kernel) (fx_kF (c := 101) (Kr.fix w_29) (by decide +kernel)) (by decide) (by first | exact Or.inl (by decide) | exact Or.inr (by decide))
  cases h
  exact hQ w_38 (by first | exact Int.le_refl _ | exact (by decide : (0 : Int) ≤ 1))
set_option maxHeartbeats 4000000 in
theorem kw_L_setKind {m0 : MM} {p1 p2 p3 p4 p5 p6 : Int} {rz : Int} {rm : MM} (hF : Fix m0)
  (h : fm_L_setKind p1 p2 p3 p4 p5 p6 m0 = some (rz, rm)) : Kr fW_L_setKind 0 1 m0 rm := by
  have hQ : ∀ {n : Int}, Kr fW_L_setKind 0 n m0 rm → n ≤ 1 → Kr fW_L_setKind 0 1 m0 rm := fun w h => Kr.le w h
  unfold fm_L_setKind at h
  obtain ⟨rr5, m_3, hc_1, h⟩ := bx_s h
  rcases h with ⟨q_10, rfl, h⟩ | ⟨x_2, rfl, h⟩
  · rcases it_s h with ⟨hp_12, h⟩ | ⟨hp_12, h⟩
    · have w_15 := (kw_X11_setKind hF hc_1)
      have E_8 := Kr.ext w_15
      have w_16 := Kr.tr0 (Kr.rf (W := fW_L_setKind) (e := 0) hF) w_15 (by decide +kernel)
      cases h
      exact hQ w_16 (by first | exact Int.le_refl _ | exact (by decide : (0 : Int) ≤ 1))
    rcases it_s h with ⟨hp_19, h⟩ | ⟨hp_19, h⟩
    · have w_22 := (kw_X11_setKind hF hc_1)
      have E_8 := Kr.ext w_22
      have w_23 := Kr.tr0 (Kr.rf (W := fW_L_setKind) (e := 0) hF) w_22 (by decide +kernel)
      cases h
      exact hQ w_23 (by first | exact Int.le_refl _ | exact (by decide : (0 : Int) ≤ 1))
    cases h
  have w_26 := (kw_X11_setKind hF hc_1)
  have E_8 := Kr.ext w_26
  have w_27 := Kr.tr0 (Kr.rf (W := fW_L_setKind) (e := 0) hF) w_26 (by decide +kernel)
  cases h
  exact hQ w_27 (by first | exact Int.le_refl _ | exact (by decide : (0 : Int) ≤ 1))
set_option maxHeartbeats 4000000 in
theorem kw_L_setPolicy {m0 : MM} {p1 p2 : Int} {rz : Int} {rm : MM} (hF : Fix m0)
  (h : fm_L_setPolicy p1 p2 m0 = some (rz, rm)) : Kr fW_L_setPolicy 0 1 m0 rm := by
  have hQ : ∀ {n : Int}, Kr fW_L_setPolicy 0 n m0 rm → n ≤ 1 → Kr fW_L_setPolicy 0 1 m0 rm := fun w h => Kr.le w h
  unfold fm_L_setPolicy at h
  obtain ⟨rr5, m_5, hc_3, h⟩ := bx_s h
  rcases h with ⟨q_12, rfl, h⟩ | ⟨x_4, rfl, h⟩
  · rcases it_s h with ⟨hp_14, h⟩ | ⟨hp_14, h⟩
    · have w_17 := (kw_X11_setPolicy hF hc_3)
      have E_10 := Kr.ext w_17
      have w_18 := Kr.tr0 (Kr.rf (W := fW_L_setPolicy) (e := 0) hF) w_17 (by decide +kernel)
      cases h
      exact hQ w_18 (by first | exact Int.le_refl _ | exact (by decide : (0 : Int) ≤ 1))
    rcases it_s h with ⟨hp_21, h⟩ | ⟨hp_21, h⟩
    · have w_24 := (kw_X11_setPolicy hF hc_3)
      have E_10 := Kr.ext w_24
      have w_25 := Kr.tr0 (Kr.rf (W := fW_L_setPolicy) (e := 0) hF) w_24 (by decide +kernel)
      cases h
      exact hQ w_25 (by first | exact Int.le_refl _ | exact (by decide : (0 : Int) ≤ 1))
    cases h
  have w_28 := (kw_X11_setPolicy hF hc_3)
  have E_10 := Kr.ext w_28
  have w_29 := Kr.tr0 (Kr.rf (W := fW_L_setPolicy) (e := 0) hF) w_28 (by decide +kernel)
  obtain ⟨m_33, e_34, h⟩ := up_s h
  have E_37 := ext_up e_34 (And.left (fx_kF (c := 101) (Kr.fix w_29) (by decide +kernel))) (by decide)
  have w_38 := Kr.upC (y := (-9)) w_29 e_34 (ext_up e_34 (And.left (fx_kF (c := 101) (Kr.fix w_29) (by decide +kernel))) (by decide)) (And.left (fx_kF (c := 101) (Kr.fix w_29) (by decide +kernel))) (fx_a (Kr.fix w_29) (fx_kF (c := 101) (Kr.fix w_29) (by decide +kernel)) (by decide) (by decide +kernel)) (Or.inl rfl) (by decide +kernel) (fx_kF (c := 101) (Kr.fix w_29) (by decide +kernel)) (by decide) (by first | exact Or.inl (by decide) | exact Or.inr (by decide))
  cases h
  exact hQ w_38 (by first | exact Int.le_refl _ | exact (by decide : (0 : Int) ≤ 1))
set_option maxHeartbeats 4000000 in
theorem kw_L_begin {m0 : MM} {p1 p2 p3 : Int} {rz : Int} {rm : MM} (hF : Fix m0)
  (h : fm_L_begin p1 p2 p3 m0 = some (rz, rm)) : Kr fW_L_begin 0 1 m0 rm := by
  have hQ : ∀ {n : Int}, Kr fW_L_begin 0 n m0 rm → n ≤ 1 → Kr fW_L_begin 0 1 m0 rm := fun w h => Kr.le w h
  unfold fm_L_begin at h
  obtain ⟨rr5, m_5, hc_3, h⟩ := bx_s h
  rcases h with ⟨q_12, rfl, h⟩ | ⟨x_4, rfl, h⟩
  · rcases it_s h with ⟨hp_14, h⟩ | ⟨hp_14, h⟩
    · have w_17 := (kw_X11_begin hF hc_3)
      have E_10 := Kr.ext w_17
      have w_18 := Kr.tr0 (Kr.rf (W := fW_L_begin) (e := 0) hF) w_17 (by decide +kernel)
      cases h
      exact hQ w_18 (by first | exact Int.le_refl _ | exact (by decide : (0 : Int) ≤ 1))
    rcases it_s h with ⟨hp_21, h⟩ | ⟨hp_21, h⟩
    · have w_24 := (kw_X11_begin hF hc_3)
      have E_10 := Kr.ext w_24
      have w_25 := Kr.tr0 (Kr.rf (W := fW_L_begin) (e := 0) hF) w_24 (by decide +kernel)
      cases h
      exact hQ w_25 (by first | exact Int.le_refl _ | exact (by decide : (0 : Int) ≤ 1))
    rcases it_s h with ⟨hp_28, h⟩ | ⟨hp_28, h⟩
    · have w_31 := (kw_X11_begin hF hc_3)
      have E_10 := Kr.ext w_31
      have w_32 := Kr.tr0 (Kr.rf (W := fW_L_begin) (e := 0) hF) w_31 (by decide +kernel)
      cases h
      exact hQ w_32 (by first | exact Int.le_refl _ | exact (by decide : (0 : Int) ≤ 1))
    cases h
  have w_35 := (kw_X11_begin hF hc_3)
  have E_10 := Kr.ext w_35
  have w_36 := Kr.tr0 (Kr.rf (W := fW_L_begin) (e := 0) hF) w_35 (by decide +kernel)
  obtain ⟨m_40, e_41, h⟩ := up_s h
  have E_44 := ext_up e_41 (And.left (fx_kF (c := 101) (Kr.fix w_36) (by decide +kernel))) (by decide)
  have w_45 := Kr.upC (y := (-9)) w_36 e_41 (ext_up e_41 (And.left (fx_kF (c := 101) (Kr.fix w_36) (by decide +kernel))) (by decide)) (And.left (fx_kF (c := 101) (Kr.fix w_36) (by decide +kernel))) (fx_a (Kr.fix w_36) (fx_kF (c := 101) (Kr.fix w_36) (by decide +kernel)) (by decide) (by decide +kernel)) (Or.inl rfl) (by decide +kernel) (fx_kF (c := 101) (Kr.fix w_36) (by decide +kernel)) (by decide) (by first | exact Or.inl (by decide) | exact Or.inr (by decide))
  cases h
  exact hQ w_45 (by first | exact Int.le_refl _ | exact (by decide : (0 : Int) ≤ 1))
set_option maxHeartbeats 4000000 in
theorem kw_L_signal {m0 : MM} {p1 p2 p3 : Int} {rz : Int} {rm : MM} (hF : Fix m0)
  (h : fm_L_signal p1 p2 p3 m0 = some (rz, rm)) : Kr fW_L_signal 0 1 m0 rm := by
  have hQ : ∀ {n : Int}, Kr fW_L_signal 0 n m0 rm → n ≤ 1 → Kr fW_L_signal 0 1 m0 rm := fun w h => Kr.le w h
  unfold fm_L_signal at h
  obtain ⟨rr5, m_5, hc_3, h⟩ := bx_s h
  rcases h with ⟨q_12, rfl, h⟩ | ⟨x_4, rfl, h⟩
  · rcases it_s h with ⟨hp_14, h⟩ | ⟨hp_14, h⟩
    · have w_17 := (kw_X11_signal hF hc_3)
      have E_10 := Kr.ext w_17
      have w_18 := Kr.tr0 (Kr.rf (W := fW_L_signal) (e := 0) hF) w_17 (by decide +kernel)
      cases h
      exact hQ w_18 (by first | exact Int.le_refl _ | exact (by decide : (0 : Int) ≤ 1))
    rcases it_s h with ⟨hp_21, h⟩ | ⟨hp_21, h⟩
    · have w_24 := (kw_X11_signal hF hc_3)
      have E_10 := Kr.ext w_24
      have w_25 := Kr.tr0 (Kr.rf (W := fW_L_signal) (e := 0) hF) w_24 (by decide +kernel)
      cases h
      exact hQ w_25 (by first | exact Int.le_refl _ | exact (by decide : (0 : Int) ≤ 1))
    rcases it_s h with ⟨hp_28, h⟩ | ⟨hp_28, h⟩
    · have w_31 := (kw_X11_signal hF hc_3)
      have E_10 := Kr.ext w_31
      have w_32 := Kr.tr0 (Kr.rf (W := fW_L_signal) (e := 0) hF) w_31 (by decide +kernel)
      cases h
      exact hQ w_32 (by first | exact Int.le_refl _ | exact (by decide : (0 : Int) ≤ 1))
    cases h
  have w_35 := (kw_X11_signal hF hc_3)
  have E_10 := Kr.ext w_35
  have w_36 := Kr.tr0 (Kr.rf (W := fW_L_signal) (e := 0) hF) w_35 (by decide +kernel)
  obtain ⟨m_40, e_41, h⟩ := up_s h
  have E_44 := ext_up e_41 (And.left (fx_kF (c := 101) (Kr.fix w_36) (by decide +kernel))) (by decide)
  have w_45 := Kr.upC (y := (-9)) w_36 e_41 (ext_up e_41 (And.left (fx_kF (c := 101) (Kr.fix w_36) (by decide +kernel))) (by decide)) (And.left (fx_kF (c := 101) (Kr.fix w_36) (by decide +kernel))) (fx_a (Kr.fix w_36) (fx_kF (c := 101) (Kr.fix w_36) (by decide +kernel)) (by decide) (by decide +kernel)) (Or.inl rfl) (by decide +kernel) (fx_kF (c := 101) (Kr.fix w_36) (by decide +kernel)) (by decide) (by first | exact Or.inl (by decide) | exact Or.inr (by decide))
  cases h
  exact hQ w_45 (by first | exact Int.le_refl _ | exact (by decide : (0 : Int) ≤ 1))
set_option maxHeartbeats 4000000 in
theorem kw_L_update {m0 : MM} {p1 p2 p3 : Int} {rz : Int} {rm : MM} (hF : Fix m0)
  (h : fm_L_update p1 p2 p3 m0 = some (rz, rm)) : Kr fW_L_update 0 1 m0 rm := by
  have hQ : ∀ {n : Int}, Kr fW_L_update 0 n m0 rm → n ≤ 1 → Kr fW_L_update 0 1 m0 rm := fun w h => Kr.le w h
  unfold fm_L_update at h
  obtain ⟨rr5, m_5, hc_3, h⟩ := bx_s h
  rcases h with ⟨q_12, rfl, h⟩ | ⟨x_4, rfl, h⟩
  · rcases it_s h with ⟨hp_14, h⟩ | ⟨hp_14, h⟩
    · have w_17 := (kw_X11_update hF hc_3)
      have E_10 := Kr.ext w_17
      have w_18 := Kr.tr0 (Kr.rf (W := fW_L_update) (e := 0) hF) w_17 (by decide +kernel)
      cases h
      exact hQ w_18 (by first | exact Int.le_refl _ | exact (by decide : (0 : Int) ≤ 1))
    rcases it_s h with ⟨hp_21, h⟩ | ⟨hp_21, h⟩
    · have w_24 := (kw_X11_update hF hc_3)
      have E_10 := Kr.ext w_24
      have w_25 := Kr.tr0 (Kr.rf (W := fW_L_update) (e := 0) hF) w_24 (by decide +kernel)
      cases h
      exact hQ w_25 (by first | exact Int.le_refl _ | exact (by decide : (0 : Int) ≤ 1))
    rcases it_s h with ⟨hp_28, h⟩ | ⟨hp_28, h⟩
    · have w_31 := (kw_X11_update hF hc_3)
      have E_10 := Kr.ext w_31
      have w_32 := Kr.tr0 (Kr.rf (W := fW_L_update) (e := 0) hF) w_31 (by decide +kernel)
      cases h
      exact hQ w_32 (by first | exact Int.le_refl _ | exact (by decide : (0 : Int) ≤ 1))
    cases h
  have w_35 := (kw_X11_update hF hc_3)
  have E_10 := Kr.ext w_35
  have w_36 := Kr.tr0 (Kr.rf (W := fW_L_update) (e := 0) hF) w_35 (by decide +kernel)
  rcases it_s h with ⟨hp_38, h⟩ | ⟨hp_38, h⟩
  · obtain ⟨m_41, e_42, h⟩ := up_s h
    have E_45 := ext_up e_42 (And.left (fx_kF (c := 101) (Kr.fix w_36) (by decide +kernel))) (by decide)
    have w_46 := Kr.upC (y := (-9)) w_36 e_42 (ext_up e_42 (And.left (fx_kF (c := 101) (Kr.fix w_36) (by decide +kernel))) (by decide)) (And.left (fx_kF (c := 101) (Kr.fix w_36) (by decide +kernel))) (fx_a (Kr.fix w_36) (fx_kF (c := 101) (Kr.fix w_36) (by decide +kernel)) (by decide) (by decide +kernel)) (Or.inl rfl) (by decide +kernel) (fx_kF (c := 101) (Kr.fix w_36) (by decide +kernel)) (by decide) (by first | exact Or.inl (by decide) | exact Or.inr (by decide))
    cases h
    exact hQ w_46 (by first | exact Int.le_refl _ | exact (by decide : (0 : Int) ≤ 1))
  · obtain ⟨m_52, e_53, h⟩ := up_s h
    have E_56 := ext_up e_53 (And.left (fx_kF (c := 101) (Kr.fix w_36) (by decide +kernel))) (by decide)
    have w_57 := Kr.upC (y := (-9)) w_36 e_53 (ext_up e_53 (And.left (fx_kF (c := 101) (Kr.fix w_36) (by decide +kernel))) (by decide)) (And.left (fx_kF (c := 101) (Kr.fix w_36) (by decide +kernel))) (fx_a (Kr.fix w_36) (fx_kF (c := 101) (Kr.fix w_36) (by decide +kernel)) (by decide) (by decide +kernel)) (Or.inl rfl) (by decide +kernel) (fx_kF (c := 101) (Kr.fix w_36) (by decide +kernel)) (by decide) (by first | exact Or.inl (by decide) | exact Or.inr (by decide))
    cases h
    exact hQ w_57 (by first | exact Int.le_refl _ | exact (by decide : (0 : Int) ≤ 1))
set_option maxHeartbeats 4000000 in
theorem kw_L_cancel {m0 : MM} {p1 : Int} {rz : Int} {rm : MM} (hF : Fix m0)
  (h : fm_L_cancel p1 m0 = some (rz, rm)) : Kr fW_L_cancel 0 1 m0 rm := by
  have hQ : ∀ {n : Int}, Kr fW_L_cancel 0 n m0 rm → n ≤ 1 → Kr fW_L_cancel 0 1 m0 rm := fun w h => Kr.le w h
  unfold fm_L_cancel at h
  obtain ⟨rr5, m_5, hc_3, h⟩ := bx_s h
  rcases h with ⟨q_12, rfl, h⟩ | ⟨x_4, rfl, h⟩
  · rcases it_s h with ⟨hp_14, h⟩ | ⟨hp_14, h⟩
    · have w_17 := (kw_X11_cancel hF hc_3)
      have E_10 := Kr.ext w_17
      have w_18 := Kr.tr0 (Kr.rf (W := fW_L_cancel) (e := 0) hF) w_17 (by decide +kernel)
      cases h
      exact hQ w_18 (by first | exact Int.le_refl _ | exact (by decide : (0 : Int) ≤ 1))
    rcases it_s h with ⟨hp_21, h⟩ | ⟨hp_21, h⟩
    · have w_24 := (kw_X11_cancel hF hc_3)
      have E_10 := Kr.ext w_24
      have w_25 := Kr.tr0 (Kr.rf (W := fW_L_cancel) (e := 0) hF) w_24 (by decide +kernel)
      cases h
      exact hQ w_25 (by first | exact Int.le_refl _ | exact (by decide : (0 : Int) ≤ 1))
    cases h
  have w_28 := (kw_X11_cancel hF hc_3)
  have E_10 := Kr.ext w_28
  have w_29 := Kr.tr0 (Kr.rf (W := fW_L_cancel) (e := 0) hF) w_28 (by decide +kernel)
  rcases it_s h with ⟨hp_31, h⟩ | ⟨hp_31, h⟩
  · obtain ⟨m_34, e_35, h⟩ := up_s h
    have E_38 := ext_up e_35 (And.left (fx_kF (c := 101) (Kr.fix w_29) (by decide +kernel))) (by decide)
    have w_39 := Kr.upC (y := (-9)) w_29 e_35 (ext_up e_35 (And.left (fx_kF (c := 101) (Kr.fix w_29) (by decide +kernel))) (by decide)) (And.left (fx_kF (c := 101) (Kr.fix w_29) (by decide +kernel))) (fx_a (Kr.fix w_29) (fx_kF (c := 101) (Kr.fix w_29) (by decide +kernel)) (by decide) (by decide +kernel)) (Or.inl rfl) (by decide +kernel) (fx_kF (c := 101) (Kr.fix w_29) (by decide +kernel)) (by decide) (by first | exact Or.inl (by decide) | exact Or.inr (by decide))
    cases h
    exact hQ w_39 (by first | exact Int.le_refl _ | exact (by decide : (0 : Int) ≤ 1))
  · obtain ⟨m_45, e_46, h⟩ := up_s h
    have E_49 := ext_up e_46 (And.left (fx_kF (c := 101) (Kr.fix w_29) (by decide +kernel))) (by decide)
    have w_50 := Kr.upC (y := (-9)) w_29 e_46 (ext_up e_46 (And.left (fx_kF (c := 101) (Kr.fix w_29) (by decide +kernel))) (by decide)) (And.left (fx_kF (c := 101) (Kr.fix w_29) (by decide +kernel))) (fx_a (Kr.fix w_29) (fx_kF (c := 101) (Kr.fix w_29) (by decide +kernel)) (by decide) (by decide +kernel)) (Or.inl rfl) (by decide +kernel) (fx_kF (c := 101) (Kr.fix w_29) (by decide +kernel)) (by decide) (by first | exact Or.inl (by decide) | exact Or.inr (by decide))
    cases h
    exact hQ w_50 (by first | exact Int.le_refl _ | exact (by decide : (0 : Int) ≤ 1))
end KW11
