/-! THE ROOM: how many objects there are: what each method makes (written by wip/whole/gen/gen951.py), 07. -/
section KW07
set_option maxHeartbeats 4000000 in
theorem kwj_X12_commands_63 {P : Prop} {m : MM} {y4 : Int} {rz : Int} {rm : MM} (hF : Fix m) (hQ : Kr fW_X12_commands 0 0 m rm → P)
  (h : fj_X12_commands_63 y4 m = some (rz, rm)) : P := by
  unfold fj_X12_commands_63 at h
  obtain ⟨m_222, e_223, h⟩ := up_s h
  have E_226 := ext_up e_223 (And.left (fx_kF (c := 13) hF (by decide +kernel))) (by decide)
  have w_227 := Kr.upC (y := 116) (Kr.rf (W := fW_X12_commands) (e := 0) hF) e_223 (ext_up e_223 (And.left (fx_kF (c := 13) hF (by decide +kernel))) (by decide)) (And.left (fx_kF (c := 13) hF (by decide +kernel))) (fx_f (j := 116) hF (fx_kF (c := 13) hF (by decide +kernel)) (by decide +kernel)) (Or.inr rfl) (by decide +kernel) (fx_kF (c := 13) hF (by decide +kernel)) (by decide) (by first | exact Or.inl (by decide) | exact Or.inr (by decide))
  cases h
  exact hQ w_227
set_option maxHeartbeats 4000000 in
theorem kwj_X12_commands_57 {P : Prop} {m : MM} {y4 : Int} {rz : Int} {rm : MM} (hF : Fix m) (hQ : Kr fW_X12_commands 0 0 m rm → P)
  (h : fj_X12_commands_57 y4 m = some (rz, rm)) : P := by
  unfold fj_X12_commands_57 at h
  obtain ⟨x_207, m_208, hc_206, h⟩ := bd_s h
  have w_215 := (kw_X12_differs hF hc_206)
  have E_213 := Kr.ext w_215
  have w_216 := Kr.tr0 (Kr.rf (W := fW_X12_commands) (e := 0) hF) w_215 (by decide +kernel)
  exact kwj_X12_commands_63 (Kr.fix w_216) (fun f => hQ (Kr.trS w_216 f)) h
set_option maxHeartbeats 4000000 in
theorem kw_X12_commands {m0 : MM} {p1 p2 p3 : Int} {rz : Int} {rm : MM} (hF : Fix m0)
  (h : fm_X12_commands p1 p2 p3 m0 = some (rz, rm)) : Kr fW_X12_commands 0 0 m0 rm := by
  have hQ : Kr fW_X12_commands 0 0 m0 rm → Kr fW_X12_commands 0 0 m0 rm := id
  unfold fm_X12_commands at h
  obtain ⟨x_2, m_3, hc_1, h⟩ := bd_s h
  have w_10 := (kw_X12_nextCommand hF hc_1)
  have E_8 := Kr.ext w_10
  have w_11 := Kr.tr0 (Kr.rf (W := fW_X12_commands) (e := 0) hF) w_10 (by decide +kernel)
  obtain ⟨x_23, e_24, h⟩ := lx_s h
  rcases it_s h with ⟨hp_25, h⟩ | ⟨hp_25, h⟩
  · obtain ⟨x_194, e_195, h⟩ := lx_s h
    obtain ⟨x_197, hc_196, h⟩ := bp_s h
    rcases it_s h with ⟨hp_205, h⟩ | ⟨hp_205, h⟩
    · obtain ⟨x_233, hc_232, h⟩ := bp_s h
      rcases it_s h with ⟨hp_241, h⟩ | ⟨hp_241, h⟩
      · obtain ⟨x_246, hc_245, h⟩ := bp_s h
        rcases it_s h with ⟨hp_254, h⟩ | ⟨hp_254, h⟩
        · exact kwj_X12_commands_63 (Kr.fix w_11) (fun f => hQ (Kr.trS w_11 f)) h
        · exact kwj_X12_commands_57 (Kr.fix w_11) (fun f => hQ (Kr.trS w_11 f)) h
      · exact kwj_X12_commands_57 (Kr.fix w_11) (fun f => hQ (Kr.trS w_11 f)) h
    · exact kwj_X12_commands_57 (Kr.fix w_11) (fun f => hQ (Kr.trS w_11 f)) h
  · obtain ⟨x_29, e_30, h⟩ := lx_s h
    obtain ⟨x_34, e_35, h⟩ := lx_s h
    rcases it_s h with ⟨hp_36, h⟩ | ⟨hp_36, h⟩
    · obtain ⟨x_38, m_39, hc_37, h⟩ := bd_s h
      have w_46 := (kw_X12_nextLater (Kr.fix w_11) hc_37)
      have E_44 := Kr.ext w_46
      have w_47 := Kr.tr0 w_11 w_46 (by decide +kernel)
      obtain ⟨x_55, e_56, h⟩ := lx_s h
      obtain ⟨g_59, h⟩ := gd_s h
      obtain ⟨x_61, e_62, h⟩ := lx_s h
      rcases it_s h with ⟨hp_63, h⟩ | ⟨hp_63, h⟩
      · obtain ⟨x_146, e_147, h⟩ := lx_s h
        obtain ⟨m_152, e_153, h⟩ := up_s h
        have E_156 := ext_up e_153 (And.left (fx_kF (c := 13) (Kr.fix w_47) (by decide +kernel))) (by decide)
        have w_157 := Kr.upC (y := 125) w_47 e_153 (ext_up e_153 (And.left (fx_kF (c := 13) (Kr.fix w_47) (by decide +kernel))) (by decide)) (And.left (fx_kF (c := 13) (Kr.fix w_47) (by decide +kernel))) (fx_f (j := 125) (Kr.fix w_47) (fx_kF (c := 13) (Kr.fix w_47) (by decide +kernel)) (by decide +kernel)) (Or.inr rfl) (by decide +kernel) (fx_kF (c := 13) (Kr.fix w_47) (by decide +kernel)) (by decide) (by first | exact Or.inl (by decide) | exact Or.inr (by decide))
        obtain ⟨x_162, e_163, h⟩ := lx_s h
        cases h
        exact hQ w_157
      · obtain ⟨x_70, e_71, h⟩ := lx_s h
        obtain ⟨g_78, h⟩ := gd_s h
        obtain ⟨m_79, e_80, h⟩ := up_s h
        have E_83 := ext_up e_80 (And.left (fx_kF (c := 100) (Kr.fix w_47) (by decide +kernel))) (And.left g_78)
        have w_84 := Kr.upC (y := (-9)) w_47 e_80 (ext_up e_80 (And.left (fx_kF (c := 100) (Kr.fix w_47) (by decide +kernel))) (And.left g_78)) (And.left (fx_kF (c := 100) (Kr.fix w_47) (by decide +kernel))) (fx_a (Kr.fix w_47) (fx_kF (c := 100) (Kr.fix w_47) (by decide +kernel)) (And.left g_78) (by decide +kernel)) (Or.inl rfl) (by decide +kernel) (fx_kF (c := 100) (Kr.fix w_47) (by decide +kernel)) (And.left g_78) (by first | exact Or.inl (by decide) | exact Or.inr (by decide))
        obtain ⟨x_92, e_93, h⟩ := lx_s h
        obtain ⟨g_94, h⟩ := gd_s h
        obtain ⟨m_95, e_96, h⟩ := up_s h
        have E_99 := ext_up e_96 (And.left (fx_kF (c := 100) (Kr.fix w_84) (by decide +kernel))) (And.left g_94)
        have w_100 := Kr.upC (y := (-9)) w_84 e_96 (ext_up e_96 (And.left (fx_kF (c := 100) (Kr.fix w_84) (by decide +kernel))) (And.left g_94)) (And.left (fx_kF (c := 100) (Kr.fix w_84) (by decide +kernel))) (fx_a (Kr.fix w_84) (fx_kF (c := 100) (Kr.fix w_84) (by decide +kernel)) (And.left g_94) (by decide +kernel)) (Or.inl rfl) (by decide +kernel) (fx_kF (c := 100) (Kr.fix w_84) (by decide +kernel)) (And.left g_94) (by first | exact Or.inl (by decide) | exact Or.inr (by decide))
        obtain ⟨x_105, e_106, h⟩ := lx_s h
        obtain ⟨m_111, e_112, h⟩ := up_s h
        have E_115 := ext_up e_112 (And.left (fx_kF (c := 13) (Kr.fix w_100) (by decide +kernel))) (by decide)
        have w_116 := Kr.upC (y := 120) w_100 e_112 (ext_up e_112 (And.left (fx_kF (c := 13) (Kr.fix w_100) (by decide +kernel))) (by decide)) (And.left (fx_kF (c := 13) (Kr.fix w_100) (by decide +kernel))) (fx_f (j := 120) (Kr.fix w_100) (fx_kF (c := 13) (Kr.fix w_100) (by decide +kernel)) (by decide +kernel)) (Or.inr rfl) (by decide +kernel) (fx_kF (c := 13) (Kr.fix w_100) (by decide +kernel)) (by decide) (by first | exact Or.inl (by decide) | exact Or.inr (by decide))
        obtain ⟨x_124, e_125, h⟩ := lx_s h
        obtain ⟨g_128, h⟩ := gd_s h
        obtain ⟨x_130, e_131, h⟩ := lx_s h
        obtain ⟨x_135, e_136, h⟩ := lx_s h
        cases h
        exact hQ w_116
    · obtain ⟨x_169, hc_168, h⟩ := bp_s h
      obtain ⟨x_178, m_179, hc_177, h⟩ := bd_s h
      have w_186 := (kw_X12_differs (Kr.fix w_11) hc_177)
      have E_184 := Kr.ext w_186
      have w_187 := Kr.tr0 w_11 w_186 (by decide +kernel)
      cases h
      exact hQ w_187
set_option maxHeartbeats 4000000 in
theorem kw_X12_begins {m0 : MM} {p1 p2 : Int} {rz : Int} {rm : MM} (hF : Fix m0)
  (h : fm_X12_begins p1 p2 m0 = some (rz, rm)) : Kr fW_X12_begins 0 0 m0 rm := by
  have hQ : Kr fW_X12_begins 0 0 m0 rm → Kr fW_X12_begins 0 0 m0 rm := id
  unfold fm_X12_begins at h
  obtain ⟨x_4, e_5, h⟩ := lx_s h
  rcases it_s h with ⟨hp_8, h⟩ | ⟨hp_8, h⟩
  · obtain ⟨x_183, m_184, hc_182, h⟩ := bd_s h
    have w_191 := (kw_X12_spins hF hc_182)
    have E_189 := Kr.ext w_191
    have w_192 := Kr.tr0 (Kr.rf (W := fW_X12_begins) (e := 0) hF) w_191 (by decide +kernel)
    cases h
    exact hQ w_192
  · obtain ⟨x_18, e_19, h⟩ := lx_s h
    obtain ⟨g_20, h⟩ := gd_s h
    obtain ⟨m_21, e_22, h⟩ := up_s h
    have E_25 := ext_up e_22 (And.left (fx_kF (c := 100) hF (by decide +kernel))) (And.left g_20)
    have w_26 := Kr.upC (y := (-9)) (Kr.rf (W := fW_X12_begins) (e := 0) hF) e_22 (ext_up e_22 (And.left (fx_kF (c := 100) hF (by decide +kernel))) (And.left g_20)) (And.left (fx_kF (c := 100) hF (by decide +kernel))) (fx_a hF (fx_kF (c := 100) hF (by decide +kernel)) (And.left g_20) (by decide +kernel)) (Or.inl rfl) (by decide +kernel) (fx_kF (c := 100) hF (by decide +kernel)) (And.left g_20) (by first | exact Or.inl (by decide) | exact Or.inr (by decide))
    obtain ⟨x_34, e_35, h⟩ := lx_s h
    obtain ⟨g_36, h⟩ := gd_s h
    obtain ⟨m_37, e_38, h⟩ := up_s h
    have E_41 := ext_up e_38 (And.left (fx_kF (c := 100) (Kr.fix w_26) (by decide +kernel))) (And.left g_36)
    have w_42 := Kr.upC (y := (-9)) w_26 e_38 (ext_up e_38 (And.left (fx_kF (c := 100) (Kr.fix w_26) (by decide +kernel))) (And.left g_36)) (And.left (fx_kF (c := 100) (Kr.fix w_26) (by decide +kernel))) (fx_a (Kr.fix w_26) (fx_kF (c := 100) (Kr.fix w_26) (by decide +kernel)) (And.left g_36) (by decide +kernel)) (Or.inl rfl) (by decide +kernel) (fx_kF (c := 100) (Kr.fix w_26) (by decide +kernel)) (And.left g_36) (by first | exact Or.inl (by decide) | exact Or.inr (by decide))
    obtain ⟨x_47, e_48, h⟩ := lx_s h
    obtain ⟨m_53, e_54, h⟩ := up_s h
    have E_57 := ext_up e_54 (And.left (fx_kF (c := 13) (Kr.fix w_42) (by decide +kernel))) (by decide)
    have w_58 := Kr.upC (y := 92) w_42 e_54 (ext_up e_54 (And.left (fx_kF (c := 13) (Kr.fix w_42) (by decide +kernel))) (by decide)) (And.left (fx_kF (c := 13) (Kr.fix w_42) (by decide +kernel))) (fx_f (j := 92) (Kr.fix w_42) (fx_kF (c := 13) (Kr.fix w_42) (by decide +kernel)) (by decide +kernel)) (Or.inr rfl) (by decide +kernel) (fx_kF (c := 13) (Kr.fix w_42) (by decide +kernel)) (by decide) (by first | exact Or.inl (by decide) | exact Or.inr (by decide))
    obtain ⟨x_66, e_67, h⟩ := lx_s h
    obtain ⟨g_68, h⟩ := gd_s h
    obtain ⟨m_69, e_70, h⟩ := up_s h
    have E_73 := ext_up e_70 (And.left (fx_kF (c := 100) (Kr.fix w_58) (by decide +kernel))) (And.left g_68)
    have w_74 := Kr.upC (y := (-9)) w_58 e_70 (ext_up e_70 (And.left (fx_kF (c := 100) (Kr.fix w_58) (by decide +kernel))) (And.left g_68)) (And.left (fx_kF (c := 100) (Kr.fix w_58) (by decide +kernel))) (fx_a (Kr.fix w_58) (fx_kF (c := 100) (Kr.fix w_58) (by decide +kernel)) (And.left g_68) (by decide +kernel)) (Or.inl rfl) (by decide +kernel) (fx_kF (c := 100) (Kr.fix w_58) (by decide +kernel)) (And.left g_68) (by first | exact Or.inl (by decide) | exact Or.inr (by decide))
    obtain ⟨x_82, e_83, h⟩ := lx_s h
    obtain ⟨g_86, h⟩ := gd_s h
    obtain ⟨m_87, e_88, h⟩ := up_s h
    have E_91 := ext_up e_88 (And.left (fx_kF (c := 100) (Kr.fix w_74) (by decide +kernel))) (And.left g_86)
    have w_92 := Kr.upC (y := (-9)) w_74 e_88 (ext_up e_88 (And.left (fx_kF (c := 100) (Kr.fix w_74) (by decide +kernel))) (And.left g_86)) (And.left (fx_kF (c := 100) (Kr.fix w_74) (by decide +kernel))) (fx_a (Kr.fix w_74) (fx_kF (c := 100) (Kr.fix w_74) (by decide +kernel)) (And.left g_86) (by decide +kernel)) (Or.inl rfl) (by decide +kernel) (fx_kF (c := 100) (Kr.fix w_74) (by decide +kernel)) (And.left g_86) (by first | exact Or.inl (by decide) | exact Or.inr (by decide))
    obtain ⟨x_100, e_101, h⟩ := lx_s h
    obtain ⟨g_104, h⟩ := gd_s h
    obtain ⟨m_105, e_106, h⟩ := up_s h
    have E_109 := ext_up e_106 (And.left (fx_kF (c := 100) (Kr.fix w_92) (by decide +kernel))) (And.left g_104)
    have w_110 := Kr.upC (y := (-9)) w_92 e_106 (ext_up e_106 (And.left (fx_kF (c := 100) (Kr.fix w_92) (by decide +kernel))) (And.left g_104)) (And.left (fx_kF (c := 100) (Kr.fix w_92) (by decide +kernel))) (fx_a (Kr.fix w_92) (fx_kF (c := 100) (Kr.fix w_92) (by decide +kernel)) (And.left g_104) (by decide +kernel)) (Or.inl rfl) (by decide +kernel) (fx_kF (c := 100) (Kr.fix w_92) (by decide +kernel)) (And.left g_104) (by first | exact Or.inl (by decide) | exact Or.inr (by decide))
    obtain ⟨x_118, e_119, h⟩ := lx_s h
    obtain ⟨g_122, h⟩ := gd_s h
    obtain ⟨m_123, e_124, h⟩ := up_s h
    have E_127 := ext_up e_124 (And.left (fx_kF (c := 100) (Kr.fix w_110) (by decide +kernel))) (And.left g_122)
    have w_128 := Kr.upC (y := (-9)) w_110 e_124 (ext_up e_124 (And.left (fx_kF (c := 100) (Kr.fix w_110) (by decide +kernel))) (And.left g_122)) (And.left (fx_kF (c := 100) (Kr.fix w_110) (by decide +kernel))) (fx_a (Kr.fix w_110) (fx_kF (c := 100) (Kr.fix w_110) (by decide +kernel)) (And.left g_122) (by decide +kernel)) (Or.inl rfl) (by decide +kernel) (fx_kF (c := 100) (Kr.fix w_110) (by decide +kernel)) (And.left g_122) (by first | exact Or.inl (by decide) | exact Or.inr (by decide))
    obtain ⟨x_136, e_137, h⟩ := lx_s h
    obtain ⟨g_140, h⟩ := gd_s h
    obtain ⟨m_141, e_142, h⟩ := up_s h
    have E_145 := ext_up e_142 (And.left (fx_kF (c := 100) (Kr.fix w_128) (by decide +kernel))) (And.left g_140)
    have w_146 := Kr.upC (y := (-9)) w_128 e_142 (ext_up e_142 (And.left (fx_kF (c := 100) (Kr.fix w_128) (by decide +kernel))) (And.left g_140)) (And.left (fx_kF (c := 100) (Kr.fix w_128) (by decide +kernel))) (fx_a (Kr.fix w_128) (fx_kF (c := 100) (Kr.fix w_128) (by decide +kernel)) (And.left g_140) (by decide +kernel)) (Or.inl rfl) (by decide +kernel) (fx_kF (c := 100) (Kr.fix w_128) (by decide +kernel)) (And.left g_140) (by first | exact Or.inl (by decide) | exact Or.inr (by decide))
    obtain ⟨x_154, e_155, h⟩ := lx_s h
    obtain ⟨g_158, h⟩ := gd_s h
    obtain ⟨m_159, e_160, h⟩ := up_s h
    have E_163 := ext_up e_160 (And.left (fx_kF (c := 102) (Kr.fix w_146) (by decide +kernel))) (And.left g_158)
    have w_164 := Kr.upC (y := (-9)) w_146 e_160 (ext_up e_160 (And.left (fx_kF (c := 102) (Kr.fix w_146) (by decide +kernel))) (And.left g_158)) (And.left (fx_kF (c := 102) (Kr.fix w_146) (by decide +kernel))) (fx_a (Kr.fix w_146) (fx_kF (c := 102) (Kr.fix w_146) (by decide +kernel)) (And.left g_158) (by decide +kernel)) (Or.inl rfl) (by decide +kernel) (fx_kF (c := 102) (Kr.fix w_146) (by decide +kernel)) (And.left g_158) (by first | exact Or.inl (by decide) | exact Or.inr (by decide))
    obtain ⟨x_169, e_170, h⟩ := lx_s h
    obtain ⟨m_175, e_176, h⟩ := up_s h
    have E_179 := ext_up e_176 (And.left (fx_kF (c := 13) (Kr.fix w_164) (by decide +kernel))) (by decide)
    have w_180 := Kr.upC (y := 91) w_164 e_176 (ext_up e_176 (And.left (fx_kF (c := 13) (Kr.fix w_164) (by decide +kernel))) (by decide)) (And.left (fx_kF (c := 13) (Kr.fix w_164) (by decide +kernel))) (fx_f (j := 91) (Kr.fix w_164) (fx_kF (c := 13) (Kr.fix w_164) (by decide +kernel)) (by decide +kernel)) (Or.inr rfl) (by decide +kernel) (fx_kF (c := 13) (Kr.fix w_164) (by decide +kernel)) (by decide) (by first | exact Or.inl (by decide) | exact Or.inr (by decide))
    cases h
    exact hQ w_180
set_option maxHeartbeats 4000000 in
theorem kwl_X12_removes_12 {P : Prop} {mb : MM} {rz : Int} {rm : MM} (hF0 : Fix mb) (hQ : Kr fW_X12_removes 0 0 mb rm → P) :
  ∀ (n : Nat) {m : MM} {y2 : Int} , Kr fW_X12_removes 0 0 mb m → fl_X12_removes_12 n y2 m = some (rz, rm) → P := by
  intro n
  induction n with
  | zero => intro m y2 w h; cases h
  | succ n ih0 =>
    intro m y2 w h
    have ih : ∀ mq : MM, Kr fW_X12_removes 0 0 mb mq → ∀ {z2 : Int}, fl_X12_removes_12 n z2 mq = some (rz, rm) → P := fun mq b => by intros; exact ih0 b ‹_›
    unfold fl_X12_removes_12 at h
    obtain ⟨x_24, e_25, h⟩ := lx_s h
    rcases it_s h with ⟨hp_26, h⟩ | ⟨hp_26, h⟩
    · obtain ⟨g_39, h⟩ := gd_s h
      obtain ⟨x_41, e_42, h⟩ := lx_s h
      obtain ⟨g_43, h⟩ := gd_s h
      obtain ⟨m_44, e_45, h⟩ := up_s h
      have E_48 := ext_up e_45 (And.left (fx_kF (c := 100) (Kr.fix w) (by decide +kernel))) (And.left g_43)
      have w_49 := Kr.upC (y := (-9)) w e_45 (ext_up e_45 (And.left (fx_kF (c := 100) (Kr.fix w) (by decide +kernel))) (And.left g_43)) (And.left (fx_kF (c := 100) (Kr.fix w) (by decide +kernel))) (fx_a (Kr.fix w) (fx_kF (c := 100) (Kr.fix w) (by decide +kernel)) (And.left g_43) (by decide +kernel)) (Or.inl rfl) (by decide +kernel) (fx_kF (c := 100) (Kr.fix w) (by decide +kernel)) (And.left g_43) (by first | exact Or.inl (by decide) | exact Or.inr (by decide))
      obtain ⟨x_64, e_65, h⟩ := lx_s h
      obtain ⟨m_66, e_67, h⟩ := up_s h
      have E_70 := ext_up e_67 (And.left (fx_kF (c := 100) (Kr.fix w_49) (by decide +kernel))) (And.left g_43)
      have w_71 := Kr.upC (y := (-9)) w_49 e_67 (ext_up e_67 (And.left (fx_kF (c := 100) (Kr.fix w_49) (by decide +kernel))) (And.left g_43)) (And.left (fx_kF (c := 100) (Kr.fix w_49) (by decide +kernel))) (fx_a (Kr.fix w_49) (fx_kF (c := 100) (Kr.fix w_49) (by decide +kernel)) (And.left g_43) (by decide +kernel)) (Or.inl rfl) (by decide +kernel) (fx_kF (c := 100) (Kr.fix w_49) (by decide +kernel)) (And.left g_43) (by first | exact Or.inl (by decide) | exact Or.inr (by decide))
      obtain ⟨x_86, e_87, h⟩ := lx_s h
      obtain ⟨m_88, e_89, h⟩ := up_s h
      have E_92 := ext_up e_89 (And.left (fx_kF (c := 100) (Kr.fix w_71) (by decide +kernel))) (And.left g_43)
      have w_93 := Kr.upC (y := (-9)) w_71 e_89 (ext_up e_89 (And.left (fx_kF (c := 100) (Kr.fix w_71) (by decide +kernel))) (And.left g_43)) (And.left (fx_kF (c := 100) (Kr.fix w_71) (by decide +kernel))) (fx_a (Kr.fix w_71) (fx_kF (c := 100) (Kr.fix w_71) (by decide +kernel)) (And.left g_43) (by decide +kernel)) (Or.inl rfl) (by decide +kernel) (fx_kF (c := 100) (Kr.fix w_71) (by decide +kernel)) (And.left g_43) (by first | exact Or.inl (by decide) | exact Or.inr (by decide))
      obtain ⟨x_108, e_109, h⟩ := lx_s h
      obtain ⟨m_110, e_111, h⟩ := up_s h
      have E_114 := ext_up e_111 (And.left (fx_kF (c := 100) (Kr.fix w_93) (by decide +kernel))) (And.left g_43)
      have w_115 := Kr.upC (y := (-9)) w_93 e_111 (ext_up e_111 (And.left (fx_kF (c := 100) (Kr.fix w_93) (by decide +kernel))) (And.left g_43)) (And.left (fx_kF (c := 100) (Kr.fix w_93) (by decide +kernel))) (fx_a (Kr.fix w_93) (fx_kF (c := 100) (Kr.fix w_93) (by decide +kernel)) (And.left g_43) (by decide +kernel)) (Or.inl rfl) (by decide +kernel) (fx_kF (c := 100) (Kr.fix w_93) (by decide +kernel)) (And.left g_43) (by first | exact Or.inl (by decide) | exact Or.inr (by decide))
      obtain ⟨x_130, e_131, h⟩ := lx_s h
      obtain ⟨m_132, e_133, h⟩ := up_s h
      have E_136 := ext_up e_133 (And.left (fx_kF (c := 100) (Kr.fix w_115) (by decide +kernel))) (And.left g_43)
      have w_137 := Kr.upC (y := (-9)) w_115 e_133 (ext_up e_133 (And.left (fx_kF (c := 100) (Kr.fix w_115) (by decide +kernel))) (And.left g_43)) (And.left (fx_kF (c := 100) (Kr.fix w_115) (by decide +kernel))) (fx_a (Kr.fix w_115) (fx_kF (c := 100) (Kr.fix w_115) (by decide +kernel)) (And.left g_43) (by decide +kernel)) (Or.inl rfl) (by decide +kernel) (fx_kF (c := 100) (Kr.fix w_115) (by decide +kernel)) (And.left g_43) (by first | exact Or.inl (by decide) | exact Or.inr (by decide))
      obtain ⟨x_152, e_153, h⟩ := lx_s h
      obtain ⟨m_154, e_155, h⟩ := up_s h
      have E_158 := ext_up e_155 (And.left (fx_kF (c := 100) (Kr.fix w_137) (by decide +kernel))) (And.left g_43)
      have w_159 := Kr.upC (y := (-9)) w_137 e_155 (ext_up e_155 (And.left (fx_kF (c := 100) (Kr.fix w_137) (by decide +kernel))) (And.left g_43)) (And.left (fx_kF (c := 100) (Kr.fix w_137) (by decide +kernel))) (fx_a (Kr.fix w_137) (fx_kF (c := 100) (Kr.fix w_137) (by decide +kernel)) (And.left g_43) (by decide +kernel)) (Or.inl rfl) (by decide +kernel) (fx_kF (c := 100) (Kr.fix w_137) (by decide +kernel)) (And.left g_43) (by first | exact Or.inl (by decide) | exact Or.inr (by decide))
      obtain ⟨x_174, e_175, h⟩ := lx_s h
      obtain ⟨m_176, e_177, h⟩ := up_s h
      have E_180 := ext_up e_177 (And.left (fx_kF (c := 100) (Kr.fix w_159) (by decide +kernel))) (And.left g_43)
      have w_181 := Kr.upC (y := (-9)) w_159 e_177 (ext_up e_177 (And.left (fx_kF (c := 100) (Kr.fix w_159) (by decide +kernel))) (And.left g_43)) (And.left (fx_kF (c := 100) (Kr.fix w_159) (by decide +kernel))) (fx_a (Kr.fix w_159) (fx_kF (c := 100) (Kr.fix w_159) (by decide +kernel)) (And.left g_43) (by decide +kernel)) (Or.inl rfl) (by decide +kernel) (fx_kF (c := 100) (Kr.fix w_159) (by decide +kernel)) (And.left g_43) (by first | exact Or.inl (by decide) | exact Or.inr (by decide))
      obtain ⟨x_196, e_197, h⟩ := lx_s h
      obtain ⟨m_198, e_199, h⟩ := up_s h
      have E_202 := ext_up e_199 (And.left (fx_kF (c := 100) (Kr.fix w_181) (by decide +kernel))) (And.left g_43)
      have w_203 := Kr.upC (y := (-9)) w_181 e_199 (ext_up e_199 (And.left (fx_kF (c := 100) (Kr.fix w_181) (by decide +kernel))) (And.left g_43)) (And.left (fx_kF (c := 100) (Kr.fix w_181) (by decide +kernel))) (fx_a (Kr.fix w_181) (fx_kF (c := 100) (Kr.fix w_181) (by decide +kernel)) (And.left g_43) (by decide +kernel)) (Or.inl rfl) (by decide +kernel) (fx_kF (c := 100) (Kr.fix w_181) (by decide +kernel)) (And.left g_43) (by first | exact Or.inl (by decide) | exact Or.inr (by decide))
      obtain ⟨x_218, e_219, h⟩ := lx_s h
      obtain ⟨g_220, h⟩ := gd_s h
      obtain ⟨m_221, e_222, h⟩ := up_s h
      have E_225 := ext_up e_222 (And.left (fx_kF (c := 102) (Kr.fix w_203) (by decide +kernel))) (And.left g_43)
      have w_226 := Kr.upC (y := (-9)) w_203 e_222 (ext_up e_222 (And.left (fx_kF (c := 102) (Kr.fix w_203) (by decide +kernel))) (And.left g_43)) (And.left (fx_kF (c := 102) (Kr.fix w_203) (by decide +kernel))) (fx_a (Kr.fix w_203) (fx_kF (c := 102) (Kr.fix w_203) (by decide +kernel)) (And.left g_43) (by decide +kernel)) (Or.inl rfl) (by decide +kernel) (fx_kF (c := 102) (Kr.fix w_203) (by decide +kernel)) (And.left g_43) (by first | exact Or.inl (by decide) | exact Or.inr (by decide))
      obtain ⟨x_233, e_234, h⟩ := lx_s h
      exact ih m_221 w_226 h
    · cases h
      exact hQ w
set_option maxHeartbeats 4000000 in
theorem kw_X12_removes {m0 : MM} {p1 : Int} {rz : Int} {rm : MM} (hF : Fix m0)
  (h : fm_X12_removes p1 m0 = some (rz, rm)) : Kr fW_X12_removes 0 0 m0 rm := by
  have hQ : Kr fW_X12_removes 0 0 m0 rm → Kr fW_X12_removes 0 0 m0 rm := id
  unfold fm_X12_removes at h
  obtain ⟨x_4, e_5, h⟩ := lx_s h
  obtain ⟨m_10, e_11, h⟩ := up_s h
  have E_14 := ext_up e_11 (And.left (fx_kF (c := 13) hF (by decide +kernel))) (by decide)
  have w_15 := Kr.upC (y := 91) (Kr.rf (W := fW_X12_removes) (e := 0) hF) e_11 (ext_up e_11 (And.left (fx_kF (c := 13) hF (by decide +kernel))) (by decide)) (And.left (fx_kF (c := 13) hF (by decide +kernel))) (fx_f (j := 91) hF (fx_kF (c := 13) hF (by decide +kernel)) (by decide +kernel)) (Or.inr rfl) (by decide +kernel) (fx_kF (c := 13) hF (by decide +kernel)) (by decide) (by first | exact Or.inl (by decide) | exact Or.inr (by decide))
  refine kwl_X12_removes_12 (Kr.fix w_15)  (fun f => hQ (Kr.trS w_15 f)) BIG (Kr.rf (Kr.fix w_15)) h
set_option maxHeartbeats 4000000 in
theorem kw_X12_endsRun {m0 : MM} {p1 p2 : Int} {rz : Int} {rm : MM} (hF : Fix m0)
  (h : fm_X12_endsRun p1 p2 m0 = some (rz, rm)) : Kr fW_X12_endsRun 0 0 m0 rm := by
  have hQ : Kr fW_X12_endsRun 0 0 m0 rm → Kr fW_X12_endsRun 0 0 m0 rm := id
  unfold fm_X12_endsRun at h
  obtain ⟨x_4, m_5, hc_3, h⟩ := bd_s h
  have w_12 := (kw_X12_commands hF hc_3)
  have E_10 := Kr.ext w_12
  have w_13 := Kr.tr0 (Kr.rf (W := fW_X12_endsRun) (e := 0) hF) w_12 (by decide +kernel)
  obtain ⟨x_23, e_24, h⟩ := lx_s h
  rcases it_s h with ⟨hp_25, h⟩ | ⟨hp_25, h⟩
  · rcases it_s h with ⟨hp_26, h⟩ | ⟨hp_26, h⟩
    · cases h
      exact hQ w_13
    · obtain ⟨m_27, e_28, h⟩ := up_s h
      have E_31 := ext_up e_28 (And.left (fx_kF (c := 13) (Kr.fix w_13) (by decide +kernel))) (by decide)
      have w_32 := Kr.upC (y := 112) w_13 e_28 (ext_up e_28 (And.left (fx_kF (c := 13) (Kr.fix w_13) (by decide +kernel))) (by decide)) (And.left (fx_kF (c := 13) (Kr.fix w_13) (by decide +kernel))) (fx_f (j := 112) (Kr.fix w_13) (fx_kF (c := 13) (Kr.fix w_13) (by decide +kernel)) (by decide +kernel)) (Or.inr rfl) (by decide +kernel) (fx_kF (c := 13) (Kr.fix w_13) (by decide +kernel)) (by decide) (by first | exact Or.inl (by decide) | exact Or.inr (by decide))
      cases h
      exact hQ w_32
  · cases h
    exact hQ w_13
set_option maxHeartbeats 4000000 in
theorem kw_X12_endsBranch {m0 : MM} {p1 : Int} {rz : Int} {rm : MM} (hF : Fix m0)
  (h : fm_X12_endsBranch p1 m0 = some (rz, rm)) : Kr fW_X12_endsBranch 0 0 m0 rm := by
  have hQ : Kr fW_X12_endsBranch 0 0 m0 rm → Kr fW_X12_endsBranch 0 0 m0 rm := id
  unfold fm_X12_endsBranch at h
  obtain ⟨g_6, h⟩ := gd_s h
  obtain ⟨x_8, e_9, h⟩ := lx_s h
  rcases it_s h with ⟨hp_10, h⟩ | ⟨hp_10, h⟩
  · obtain ⟨x_33, e_34, h⟩ := lx_s h
    obtain ⟨x_36, m_37, hc_35, h⟩ := bd_s h
    have w_44 := (kw_X12_endsRun hF hc_35)
    have E_42 := Kr.ext w_44
    have w_45 := Kr.tr0 (Kr.rf (W := fW_X12_endsBranch) (e := 0) hF) w_44 (by decide +kernel)
    cases h
    exact hQ w_45
  · obtain ⟨x_12, m_13, hc_11, h⟩ := bd_s h
    have w_20 := (kw_X12_removes hF hc_11)
    have E_18 := Kr.ext w_20
    have w_21 := Kr.tr0 (Kr.rf (W := fW_X12_endsBranch) (e := 0) hF) w_20 (by decide +kernel)
    cases h
    exact hQ w_21
set_option maxHeartbeats 4000000 in
theorem kw_X12_failsBranch {m0 : MM} {p1 : Int} {rz : Int} {rm : MM} (hF : Fix m0)
  (h : fm_X12_failsBranch p1 m0 = some (rz, rm)) : Kr fW_X12_failsBranch 0 0 m0 rm := by
  have hQ : Kr fW_X12_failsBranch 0 0 m0 rm → Kr fW_X12_failsBranch 0 0 m0 rm := id
  unfold fm_X12_failsBranch at h
  obtain ⟨g_6, h⟩ := gd_s h
  obtain ⟨m_7, e_8, h⟩ := up_s h
  have E_11 := ext_up e_8 (And.left (fx_kF (c := 100) hF (by decide +kernel))) (And.left g_6)
  have w_12 := Kr.upC (y := (-9)) (Kr.rf (W := fW_X12_failsBranch) (e := 0) hF) e_8 (ext_up e_8 (And.left (fx_kF (c := 100) hF (by decide +kernel))) (And.left g_6)) (And.left (fx_kF (c := 100) hF (by decide +kernel))) (fx_a hF (fx_kF (c := 100) hF (by decide +kernel)) (And.left g_6) (by decide +kernel)) (Or.inl rfl) (by decide +kernel) (fx_kF (c := 100) hF (by decide +kernel)) (And.left g_6) (by first | exact Or.inl (by decide) | exact Or.inr (by decide))
  obtain ⟨x_20, e_21, h⟩ := lx_s h
  rcases it_s h with ⟨hp_24, h⟩ | ⟨hp_24, h⟩
  · obtain ⟨x_94, m_95, hc_93, h⟩ := bd_s h
    have w_102 := (kw_X12_endsRun (Kr.fix w_12) hc_93)
    have E_100 := Kr.ext w_102
    have w_103 := Kr.tr0 w_12 w_102 (by decide +kernel)
    cases h
    exact hQ w_103
  · obtain ⟨g_39, h⟩ := gd_s h
    obtain ⟨x_41, e_42, h⟩ := lx_s h
    obtain ⟨m_47, e_48, h⟩ := up_s h
    have E_51 := ext_up e_48 (And.left (fx_kF (c := 100) (Kr.fix w_12) (by decide +kernel))) (And.left g_6)
    have w_52 := Kr.upC (y := (-9)) w_12 e_48 (ext_up e_48 (And.left (fx_kF (c := 100) (Kr.fix w_12) (by decide +kernel))) (And.left g_6)) (And.left (fx_kF (c := 100) (Kr.fix w_12) (by decide +kernel))) (fx_a (Kr.fix w_12) (fx_kF (c := 100) (Kr.fix w_12) (by decide +kernel)) (And.left g_6) (by decide +kernel)) (Or.inl rfl) (by decide +kernel) (fx_kF (c := 100) (Kr.fix w_12) (by decide +kernel)) (And.left g_6) (by first | exact Or.inl (by decide) | exact Or.inr (by decide))
    obtain ⟨x_66, e_67, h⟩ := lx_s h
    obtain ⟨g_70, h⟩ := gd_s h
    obtain ⟨x_72, e_73, h⟩ := lx_s h
    obtain ⟨m_82, e_83, h⟩ := up_s h
    have E_86 := ext_up e_83 (And.left (fx_kF (c := 100) (Kr.fix w_52) (by decide +kernel))) (And.left g_6)
    have w_87 := Kr.upC (y := (-9)) w_52 e_83 (ext_up e_83 (And.left (fx_kF (c := 100) (Kr.fix w_52) (by decide +kernel))) (And.left g_6)) (And.left (fx_kF (c := 100) (Kr.fix w_52) (by decide +kernel))) (fx_a (Kr.fix w_52) (fx_kF (c := 100) (Kr.fix w_52) (by decide +kernel)) (And.left g_6) (by decide +kernel)) (Or.inl rfl) (by decide +kernel) (fx_kF (c := 100) (Kr.fix w_52) (by decide +kernel)) (And.left g_6) (by first | exact Or.inl (by decide) | exact Or.inr (by decide))
    cases h
    exact hQ w_87
set_option maxHeartbeats 4000000 in
theorem kwj_X12_lets_20 {P : Prop} {m : MM} {y1 : Int} {rz : Int} {rm : MM} (hF : Fix m) (hQ : Kr fW_X12_lets 0 0 m rm → P)
  (h : fj_X12_lets_20 y1 m = some (rz, rm)) : P := by
  unfold fj_X12_lets_20 at h
  obtain ⟨g_20, h⟩ := gd_s h
  obtain ⟨x_22, e_23, h⟩ := lx_s h
  obtain ⟨x_27, m_28, hc_26, h⟩ := bd_s h
  have w_35 := (kw_X12_commands hF hc_26)
  have E_33 := Kr.ext w_35
  have w_36 := Kr.tr0 (Kr.rf (W := fW_X12_lets) (e := 0) hF) w_35 (by decide +kernel)
  obtain ⟨m_43, e_44, h⟩ := up_s h
  have E_47 := ext_up e_44 (And.left (fx_kF (c := 100) (Kr.fix w_36) (by decide +kernel))) (And.left g_20)
  have w_48 := Kr.upC (y := (-9)) w_36 e_44 (ext_up e_44 (And.left (fx_kF (c := 100) (Kr.fix w_36) (by decide +kernel))) (And.left g_20)) (And.left (fx_kF (c := 100) (Kr.fix w_36) (by decide +kernel))) (fx_a (Kr.fix w_36) (fx_kF (c := 100) (Kr.fix w_36) (by decide +kernel)) (And.left g_20) (by decide +kernel)) (Or.inl rfl) (by decide +kernel) (fx_kF (c := 100) (Kr.fix w_36) (by decide +kernel)) (And.left g_20) (by first | exact Or.inl (by decide) | exact Or.inr (by decide))
  cases h
  exact hQ w_48
set_option maxHeartbeats 4000000 in
theorem kw_X12_lets {m0 : MM} {p1 : Int} {rz : Int} {rm : MM} (hF : Fix m0)
  (h : fm_X12_lets p1 m0 = some (rz, rm)) : Kr fW_X12_lets 0 0 m0 rm := by
  have hQ : Kr fW_X12_lets 0 0 m0 rm → Kr fW_X12_lets 0 0 m0 rm := id
  unfold fm_X12_lets at h
  obtain ⟨g_6, h⟩ := gd_s h
  obtain ⟨x_8, e_9, h⟩ := lx_s h
  rcases it_s h with ⟨hp_12, h⟩ | ⟨hp_12, h⟩
  · exact kwj_X12_lets_20 hF hQ h
  · rcases it_s h with ⟨hp_58, h⟩ | ⟨hp_58, h⟩
    · exact kwj_X12_lets_20 hF hQ h
    · obtain ⟨m_64, e_65, h⟩ := up_s h
      have E_68 := ext_up e_65 (And.left (fx_kF (c := 100) hF (by decide +kernel))) (And.left g_6)
      have w_69 := Kr.upC (y := (-9)) (Kr.rf (W := fW_X12_lets) (e := 0) hF) e_65 (ext_up e_65 (And.left (fx_kF (c := 100) hF (by decide +kernel))) (And.left g_6)) (And.left (fx_kF (c := 100) hF (by decide +kernel))) (fx_a hF (fx_kF (c := 100) hF (by decide +kernel)) (And.left g_6) (by decide +kernel)) (Or.inl rfl) (by decide +kernel) (fx_kF (c := 100) hF (by decide +kernel)) (And.left g_6) (by first | exact Or.inl (by decide) | exact Or.inr (by decide))
      cases h
      exact hQ w_69
set_option maxHeartbeats 4000000 in
theorem kw_X12_cancelsBranch {m0 : MM} {p1 : Int} {rz : Int} {rm : MM} (hF : Fix m0)
  (h : fm_X12_cancelsBranch p1 m0 = some (rz, rm)) : Kr fW_X12_cancelsBranch 0 0 m0 rm := by
  have hQ : Kr fW_X12_cancelsBranch 0 0 m0 rm → Kr fW_X12_cancelsBranch 0 0 m0 rm := id
  unfold fm_X12_cancelsBranch at h
  obtain ⟨g_6, h⟩ := gd_s h
  obtain ⟨m_7, e_8, h⟩ := up_s h
  have E_11 := ext_up e_8 (And.left (fx_kF (c := 102) hF (by decide +kernel))) (And.left g_6)
  have w_12 := Kr.upC (y := (-9)) (Kr.rf (W := fW_X12_cancelsBranch) (e := 0) hF) e_8 (ext_up e_8 (And.left (fx_kF (c := 102) hF (by decide +kernel))) (And.left g_6)) (And.left (fx_kF (c := 102) hF (by decide +kernel))) (fx_a hF (fx_kF (c := 102) hF (by decide +kernel)) (And.left g_6) (by decide +kernel)) (Or.inl rfl) (by decide +kernel) (fx_kF (c := 102) hF (by decide +kernel)) (And.left g_6) (by first | exact Or.inl (by decide) | exact Or.inr (by decide))
  obtain ⟨x_15, m_16, hc_14, h⟩ := bd_s h
  have w_23 := (kw_X12_lets (Kr.fix w_12) hc_14)
  have E_21 := Kr.ext w_23
  have w_24 := Kr.tr0 w_12 w_23 (by decide +kernel)
  obtain ⟨x_27, hc_26, h⟩ := bp_s h
  rcases it_s h with ⟨hp_35, h⟩ | ⟨hp_35, h⟩
  · cases h
    exact hQ w_24
  · obtain ⟨x_37, m_38, hc_36, h⟩ := bd_s h
    have w_45 := (kw_X12_failsBranch (Kr.fix w_24) hc_36)
    have E_43 := Kr.ext w_45
    have w_46 := Kr.tr0 w_24 w_45 (by decide +kernel)
    cases h
    exact hQ w_46
set_option maxHeartbeats 4000000 in
theorem kwl_X12_dropsBranch_2 {P : Prop} {mb : MM} {y1 : Int} {k42 : MM → Option (Int × MM)} {rz : Int} {rm : MM} (hF0 : Fix mb)
  (hk42 : ∀ mq : MM, Kr fW_X12_dropsBranch 0 0 mb mq → k42 mq = some (rz, rm) → P) (hQ : Kr fW_X12_dropsBranch 0 0 mb rm → P) :
  ∀ (n : Nat) {m : MM} {y2 : Int} , Kr fW_X12_dropsBranch 0 0 mb m → fl_X12_dropsBranch_2 y1 k42 n y2 m = some (rz, rm) → P := by
  intro n
  induction n with
  | zero => intro m y2 w h; cases h
  | succ n ih0 =>
    intro m y2 w h
    have ih : ∀ mq : MM, Kr fW_X12_dropsBranch 0 0 mb mq → ∀ {z2 : Int}, fl_X12_dropsBranch_2 y1 k42 n z2 mq = some (rz, rm) → P := fun mq b => by intros; exact ih0 b ‹_›
    unfold fl_X12_dropsBranch_2 at h
    obtain ⟨x_11, e_12, h⟩ := lx_s h
    rcases it_s h with ⟨hp_13, h⟩ | ⟨hp_13, h⟩
    · obtain ⟨x_15, hc_14, h⟩ := bp_s h
      rcases it_s h with ⟨hp_23, h⟩ | ⟨hp_23, h⟩
      · exact hk42 m w h
      · obtain ⟨g_29, h⟩ := gd_s h
        obtain ⟨x_31, e_32, h⟩ := lx_s h
        obtain ⟨x_34, hc_33, h⟩ := bp_s h
        rcases it_s h with ⟨hp_42, h⟩ | ⟨hp_42, h⟩
        · obtain ⟨x_48, e_49, h⟩ := lx_s h
          exact ih m w h
        · obtain ⟨x_54, m_55, hc_53, h⟩ := bd_s h
          have w_62 := (kw_X12_lets (Kr.fix w) hc_53)
          have E_60 := Kr.ext w_62
          have w_63 := Kr.tr0 w w_62 (by decide +kernel)
          obtain ⟨x_70, e_71, h⟩ := lx_s h
          exact ih m_55 w_63 h
    · exact hk42 m w h
set_option maxHeartbeats 4000000 in
theorem kwl_X12_dropsBranch_49 {P : Prop} {mb : MM} {y1 : Int} {rz : Int} {rm : MM} (hF0 : Fix mb) (hQ : Kr fW_X12_dropsBranch 0 0 mb rm → P) :
  ∀ (n : Nat) {m : MM} {y2 : Int} , Kr fW_X12_dropsBranch 0 0 mb m → fl_X12_dropsBranch_49 y1 n y2 m = some (rz, rm) → P := by
  intro n
  induction n with
  | zero => intro m y2 w h; cases h
  | succ n ih0 =>
    intro m y2 w h
    have ih : ∀ mq : MM, Kr fW_X12_dropsBranch 0 0 mb mq → ∀ {z2 : Int}, fl_X12_dropsBranch_49 y1 n z2 mq = some (rz, rm) → P := fun mq b => by intros; exact ih0 b ‹_›
    unfold fl_X12_dropsBranch_49 at h
    rcases it_s h with ⟨hp_106, h⟩ | ⟨hp_106, h⟩
    · cases h
      exact hQ w
    · obtain ⟨x_108, hc_107, h⟩ := bp_s h
      rcases it_s h with ⟨hp_116, h⟩ | ⟨hp_116, h⟩
      · cases h
        exact hQ w
      · obtain ⟨g_122, h⟩ := gd_s h
        obtain ⟨x_124, e_125, h⟩ := lx_s h
        obtain ⟨x_127, hc_126, h⟩ := bp_s h
        rcases it_s h with ⟨hp_135, h⟩ | ⟨hp_135, h⟩
        · obtain ⟨x_141, e_142, h⟩ := lx_s h
          exact ih m w h
        · obtain ⟨x_147, m_148, hc_146, h⟩ := bd_s h
          have w_155 := (kw_X12_removes (Kr.fix w) hc_146)
          have E_153 := Kr.ext w_155
          have w_156 := Kr.tr0 w w_155 (by decide +kernel)
          obtain ⟨x_163, e_164, h⟩ := lx_s h
          exact ih m_148 w_156 h
set_option maxHeartbeats 4000000 in
theorem kw_X12_dropsBranch {m0 : MM} {p1 : Int} {rz : Int} {rm : MM} (hF : Fix m0)
  (h : fm_X12_dropsBranch p1 m0 = some (rz, rm)) : Kr fW_X12_dropsBranch 0 0 m0 rm := by
  have hQ : Kr fW_X12_dropsBranch 0 0 m0 rm → Kr fW_X12_dropsBranch 0 0 m0 rm := id
  unfold fm_X12_dropsBranch at h
  refine kwl_X12_dropsBranch_2 hF ?_ hQ BIG (Kr.rf hF) h
  intro m_84 w_87
  intro h
  have E_85 := Kr.ext w_87
  have w_88 := w_87
  obtain ⟨x_92, e_93, h⟩ := lx_s h
  obtain ⟨x_98, e_99, h⟩ := lx_s h
  refine kwl_X12_dropsBranch_49 (Kr.fix w_88)  (fun f => hQ (Kr.trS w_88 f)) BIG (Kr.rf (Kr.fix w_88)) h
set_option maxHeartbeats 4000000 in
theorem kwj_X12_wins_28 {P : Prop} {m : MM} {y1 y2 y3 s0 : Int} {rz : Int} {rm : MM} (hF : Fix m) (hQ : Kr fW_X12_wins 0 0 m rm → P)
  (h : fj_X12_wins_28 y1 y2 y3 s0 m = some (rz, rm)) : P := by
  unfold fj_X12_wins_28 at h
  obtain ⟨g_53, h⟩ := gd_s h
  obtain ⟨x_55, e_56, h⟩ := lx_s h
  obtain ⟨m_61, e_62, h⟩ := up_s h
  have E_65 := ext_up e_62 (And.left (fx_kF (c := 100) hF (by decide +kernel))) (And.left g_53)
  have w_66 := Kr.upC (y := (-9)) (Kr.rf (W := fW_X12_wins) (e := 0) hF) e_62 (ext_up e_62 (And.left (fx_kF (c := 100) hF (by decide +kernel))) (And.left g_53)) (And.left (fx_kF (c := 100) hF (by decide +kernel))) (fx_a hF (fx_kF (c := 100) hF (by decide +kernel)) (And.left g_53) (by decide +kernel)) (Or.inl rfl) (by decide +kernel) (fx_kF (c := 100) hF (by decide +kernel)) (And.left g_53) (by first | exact Or.inl (by decide) | exact Or.inr (by decide))
  obtain ⟨m_73, e_74, h⟩ := up_s h
  have E_77 := ext_up e_74 (And.left (fx_kF (c := 100) (Kr.fix w_66) (by decide +kernel))) (And.left g_53)
  have w_78 := Kr.upC (y := (-9)) w_66 e_74 (ext_up e_74 (And.left (fx_kF (c := 100) (Kr.fix w_66) (by decide +kernel))) (And.left g_53)) (And.left (fx_kF (c := 100) (Kr.fix w_66) (by decide +kernel))) (fx_a (Kr.fix w_66) (fx_kF (c := 100) (Kr.fix w_66) (by decide +kernel)) (And.left g_53) (by decide +kernel)) (Or.inl rfl) (by decide +kernel) (fx_kF (c := 100) (Kr.fix w_66) (by decide +kernel)) (And.left g_53) (by first | exact Or.inl (by decide) | exact Or.inr (by decide))
  rcases it_s h with ⟨hp_82, h⟩ | ⟨hp_82, h⟩
  · cases h
    exact hQ w_78
  · obtain ⟨g_88, h⟩ := gd_s h
    obtain ⟨m_89, e_90, h⟩ := up_s h
    have E_93 := ext_up e_90 (And.left (fx_kF (c := 100) (Kr.fix w_78) (by decide +kernel))) (And.left g_88)
    have w_94 := Kr.upC (y := (-9)) w_78 e_90 (ext_up e_90 (And.left (fx_kF (c := 100) (Kr.fix w_78) (by decide +kernel))) (And.left g_88)) (And.left (fx_kF (c := 100) (Kr.fix w_78) (by decide +kernel))) (fx_a (Kr.fix w_78) (fx_kF (c := 100) (Kr.fix w_78) (by decide +kernel)) (And.left g_88) (by decide +kernel)) (Or.inl rfl) (by decide +kernel) (fx_kF (c := 100) (Kr.fix w_78) (by decide +kernel)) (And.left g_88) (by first | exact Or.inl (by decide) | exact Or.inr (by decide))
    obtain ⟨g_101, h⟩ := gd_s h
    obtain ⟨x_103, e_104, h⟩ := lx_s h
    rcases it_s h with ⟨hp_105, h⟩ | ⟨hp_105, h⟩
    · obtain ⟨x_124, e_125, h⟩ := lx_s h
      obtain ⟨x_133, m_134, hc_132, h⟩ := bd_s h
      have w_141 := (kw_X12_lets (Kr.fix w_94) hc_132)
      have E_139 := Kr.ext w_141
      have w_142 := Kr.tr0 w_94 w_141 (by decide +kernel)
      obtain ⟨m_147, e_148, h⟩ := up_s h
      have E_151 := ext_up e_148 (And.left (fx_kF (c := 100) (Kr.fix w_142) (by decide +kernel))) (And.left g_88)
      have w_152 := Kr.upC (y := (-9)) w_142 e_148 (ext_up e_148 (And.left (fx_kF (c := 100) (Kr.fix w_142) (by decide +kernel))) (And.left g_88)) (And.left (fx_kF (c := 100) (Kr.fix w_142) (by decide +kernel))) (fx_a (Kr.fix w_142) (fx_kF (c := 100) (Kr.fix w_142) (by decide +kernel)) (And.left g_88) (by decide +kernel)) (Or.inl rfl) (by decide +kernel) (fx_kF (c := 100) (Kr.fix w_142) (by decide +kernel)) (And.left g_88) (by first | exact Or.inl (by decide) | exact Or.inr (by decide))
      obtain ⟨x_155, hc_154, h⟩ := bp_s h
      rcases it_s h with ⟨hp_163, h⟩ | ⟨hp_163, h⟩
      · cases h
        exact hQ w_152
      · obtain ⟨x_165, m_166, hc_164, h⟩ := bd_s h
        have w_173 := (kw_X12_dropsBranch (Kr.fix w_152) hc_164)
        have E_171 := Kr.ext w_173
        have w_174 := Kr.tr0 w_152 w_173 (by decide +kernel)
        cases h
        exact hQ w_174
    · obtain ⟨x_107, m_108, hc_106, h⟩ := bd_s h
      have w_115 := (kw_X12_dropsBranch (Kr.fix w_94) hc_106)
      have E_113 := Kr.ext w_115
      have w_116 := Kr.tr0 w_94 w_115 (by decide +kernel)
      cases h
      exact hQ w_116
set_option maxHeartbeats 4000000 in
theorem kw_X12_wins {m0 : MM} {p1 : Int} {rz : Int} {rm : MM} (hF : Fix m0)
  (h : fm_X12_wins p1 m0 = some (rz, rm)) : Kr fW_X12_wins 0 0 m0 rm := by
  have hQ : Kr fW_X12_wins 0 0 m0 rm → Kr fW_X12_wins 0 0 m0 rm := id
  unfold fm_X12_wins at h
  obtain ⟨g_6, h⟩ := gd_s h
  obtain ⟨x_8, e_9, h⟩ := lx_s h
  obtain ⟨x_21, e_22, h⟩ := lx_s h
  rcases it_s h with ⟨hp_31, h⟩ | ⟨hp_31, h⟩
  · exact kwj_X12_wins_28 hF hQ h
  · obtain ⟨x_33, hc_32, h⟩ := bp_s h
    exact kwj_X12_wins_28 hF hQ h
set_option maxHeartbeats 4000000 in
theorem kwj_X12_races_37 {P : Prop} {m : MM} {y1 y2 : Int} {rz : Int} {rm : MM} (hF : Fix m) (hQ : Kr fW_X12_races 0 0 m rm → P)
  (h : fj_X12_races_37 y1 y2 m = some (rz, rm)) : P := by
  unfold fj_X12_races_37 at h
  obtain ⟨g_42, h⟩ := gd_s h
  obtain ⟨x_44, e_45, h⟩ := lx_s h
  obtain ⟨x_47, m_48, hc_46, h⟩ := bd_s h
  have w_55 := (kw_X12_begins hF hc_46)
  have E_53 := Kr.ext w_55
  have w_56 := Kr.tr0 (Kr.rf (W := fW_X12_races) (e := 0) hF) w_55 (by decide +kernel)
  obtain ⟨x_61, e_62, h⟩ := lx_s h
  rcases it_s h with ⟨hp_63, h⟩ | ⟨hp_63, h⟩
  · obtain ⟨x_73, e_74, h⟩ := lx_s h
    obtain ⟨g_81, h⟩ := gd_s h
    obtain ⟨x_83, e_84, h⟩ := lx_s h
    obtain ⟨m_85, e_86, h⟩ := up_s h
    have E_89 := ext_up e_86 (And.left (fx_kF (c := 100) (Kr.fix w_56) (by decide +kernel))) (And.left g_42)
    have w_90 := Kr.upC (y := (-9)) w_56 e_86 (ext_up e_86 (And.left (fx_kF (c := 100) (Kr.fix w_56) (by decide +kernel))) (And.left g_42)) (And.left (fx_kF (c := 100) (Kr.fix w_56) (by decide +kernel))) (fx_a (Kr.fix w_56) (fx_kF (c := 100) (Kr.fix w_56) (by decide +kernel)) (And.left g_42) (by decide +kernel)) (Or.inl rfl) (by decide +kernel) (fx_kF (c := 100) (Kr.fix w_56) (by decide +kernel)) (And.left g_42) (by first | exact Or.inl (by decide) | exact Or.inr (by decide))
    obtain ⟨x_98, e_99, h⟩ := lx_s h
    obtain ⟨x_110, e_111, h⟩ := lx_s h
    obtain ⟨g_112, h⟩ := gd_s h
    obtain ⟨m_113, e_114, h⟩ := up_s h
    have E_117 := ext_up e_114 (And.left (fx_kF (c := 100) (Kr.fix w_90) (by decide +kernel))) (And.left g_112)
    have w_118 := Kr.upC (y := (-9)) w_90 e_114 (ext_up e_114 (And.left (fx_kF (c := 100) (Kr.fix w_90) (by decide +kernel))) (And.left g_112)) (And.left (fx_kF (c := 100) (Kr.fix w_90) (by decide +kernel))) (fx_a (Kr.fix w_90) (fx_kF (c := 100) (Kr.fix w_90) (by decide +kernel)) (And.left g_112) (by decide +kernel)) (Or.inl rfl) (by decide +kernel) (fx_kF (c := 100) (Kr.fix w_90) (by decide +kernel)) (And.left g_112) (by first | exact Or.inl (by decide) | exact Or.inr (by decide))
    cases h
    exact hQ w_118
  · cases h
    exact hQ w_56
set_option maxHeartbeats 4000000 in
theorem kwj_X12_races_24 {P : Prop} {m : MM} {y1 y2 s0 : Int} {rz : Int} {rm : MM} (hF : Fix m) (hQ : Kr fW_X12_races 0 0 m rm → P)
  (h : fj_X12_races_24 y1 y2 s0 m = some (rz, rm)) : P := by
  unfold fj_X12_races_24 at h
  rcases it_s h with ⟨hp_36, h⟩ | ⟨hp_36, h⟩
  · exact kwj_X12_races_37 hF hQ h
  · obtain ⟨g_125, h⟩ := gd_s h
    obtain ⟨m_126, e_127, h⟩ := up_s h
    have E_130 := ext_up e_127 (And.left (fx_kF (c := 100) hF (by decide +kernel))) (And.left g_125)
    have w_131 := Kr.upC (y := (-9)) (Kr.rf (W := fW_X12_races) (e := 0) hF) e_127 (ext_up e_127 (And.left (fx_kF (c := 100) hF (by decide +kernel))) (And.left g_125)) (And.left (fx_kF (c := 100) hF (by decide +kernel))) (fx_a hF (fx_kF (c := 100) hF (by decide +kernel)) (And.left g_125) (by decide +kernel)) (Or.inl rfl) (by decide +kernel) (fx_kF (c := 100) hF (by decide +kernel)) (And.left g_125) (by first | exact Or.inl (by decide) | exact Or.inr (by decide))
    exact kwj_X12_races_37 (Kr.fix w_131) (fun f => hQ (Kr.trS w_131 f)) h
set_option maxHeartbeats 4000000 in
theorem kw_X12_races {m0 : MM} {p1 p2 : Int} {rz : Int} {rm : MM} (hF : Fix m0)
  (h : fm_X12_races p1 p2 m0 = some (rz, rm)) : Kr fW_X12_races 0 0 m0 rm := by
  have hQ : Kr fW_X12_races 0 0 m0 rm → Kr fW_X12_races 0 0 m0 rm := id
  unfold fm_X12_races at h
  obtain ⟨g_6, h⟩ := gd_s h
  obtain ⟨x_8, e_9, h⟩ := lx_s h
  rcases it_s h with ⟨hp_12, h⟩ | ⟨hp_12, h⟩
  · exact kwj_X12_races_24 hF hQ h
  · obtain ⟨x_20, hc_19, h⟩ := bp_s h
    exact kwj_X12_races_24 hF hQ h
set_option maxHeartbeats 4000000 in
theorem kw_X12_awaits {m0 : MM} {p1 p2 p3 p4 : Int} {rz : Int} {rm : MM} (hF : Fix m0)
  (h : fm_X12_awaits p1 p2 p3 p4 m0 = some (rz, rm)) : Kr fW_X12_awaits 0 0 m0 rm := by
  have hQ : Kr fW_X12_awaits 0 0 m0 rm → Kr fW_X12_awaits 0 0 m0 rm := id
  unfold fm_X12_awaits at h
  obtain ⟨g_4, h⟩ := gd_s h
  obtain ⟨m_5, e_6, h⟩ := up_s h
  have E_9 := ext_up e_6 (And.left (fx_kF (c := 100) hF (by decide +kernel))) (And.left g_4)
  have w_10 := Kr.upC (y := (-9)) (Kr.rf (W := fW_X12_awaits) (e := 0) hF) e_6 (ext_up e_6 (And.left (fx_kF (c := 100) hF (by decide +kernel))) (And.left g_4)) (And.left (fx_kF (c := 100) hF (by decide +kernel))) (fx_a hF (fx_kF (c := 100) hF (by decide +kernel)) (And.left g_4) (by decide +kernel)) (Or.inl rfl) (by decide +kernel) (fx_kF (c := 100) hF (by decide +kernel)) (And.left g_4) (by first | exact Or.inl (by decide) | exact Or.inr (by decide))
  obtain ⟨m_15, e_16, h⟩ := up_s h
  have E_19 := ext_up e_16 (And.left (fx_kF (c := 100) (Kr.fix w_10) (by decide +kernel))) (And.left g_4)
  have w_20 := Kr.upC (y := (-9)) w_10 e_16 (ext_up e_16 (And.left (fx_kF (c := 100) (Kr.fix w_10) (by decide +kernel))) (And.left g_4)) (And.left (fx_kF (c := 100) (Kr.fix w_10) (by decide +kernel))) (fx_a (Kr.fix w_10) (fx_kF (c := 100) (Kr.fix w_10) (by decide +kernel)) (And.left g_4) (by decide +kernel)) (Or.inl rfl) (by decide +kernel) (fx_kF (c := 100) (Kr.fix w_10) (by decide +kernel)) (And.left g_4) (by first | exact Or.inl (by decide) | exact Or.inr (by decide))
  obtain ⟨m_25, e_26, h⟩ := up_s h
  have E_29 := ext_up e_26 (And.left (fx_kF (c := 100) (Kr.fix w_20) (by decide +kernel))) (And.left g_4)
  have w_30 := Kr.upC (y := (-9)) w_20 e_26 (ext_up e_26 (And.left (fx_kF (c := 100) (Kr.fix w_20) (by decide +kernel))) (And.left g_4)) (And.left (fx_kF (c := 100) (Kr.fix w_20) (by decide +kernel))) (fx_a (Kr.fix w_20) (fx_kF (c := 100) (Kr.fix w_20) (by decide +kernel)) (And.left g_4) (by decide +kernel)) (Or.inl rfl) (by decide +kernel) (fx_kF (c := 100) (Kr.fix w_20) (by decide +kernel)) (And.left g_4) (by first | exact Or.inl (by decide) | exact Or.inr (by decide))
  cases h
  exact hQ w_30
set_option maxHeartbeats 4000000 in
theorem kw_X12_undoes {m0 : MM} {p1 : Int} {rz : Int} {rm : MM} (hF : Fix m0)
  (h : fm_X12_undoes p1 m0 = some (rz, rm)) : Kr fW_X12_undoes 0 0 m0 rm := by
  have hQ : Kr fW_X12_undoes 0 0 m0 rm → Kr fW_X12_undoes 0 0 m0 rm := id
  unfold fm_X12_undoes at h
  obtain ⟨x_4, e_5, h⟩ := lx_s h
  rcases it_s h with ⟨hp_6, h⟩ | ⟨hp_6, h⟩
  · obtain ⟨g_92, h⟩ := gd_s h
    obtain ⟨x_94, e_95, h⟩ := lx_s h
    obtain ⟨m_100, e_101, h⟩ := up_s h
    have E_104 := ext_up e_101 (And.left (fx_kF (c := 100) hF (by decide +kernel))) (And.left g_92)
    have w_105 := Kr.upC (y := (-9)) (Kr.rf (W := fW_X12_undoes) (e := 0) hF) e_101 (ext_up e_101 (And.left (fx_kF (c := 100) hF (by decide +kernel))) (And.left g_92)) (And.left (fx_kF (c := 100) hF (by decide +kernel))) (fx_a hF (fx_kF (c := 100) hF (by decide +kernel)) (And.left g_92) (by decide +kernel)) (Or.inl rfl) (by decide +kernel) (fx_kF (c := 100) hF (by decide +kernel)) (And.left g_92) (by first | exact Or.inl (by decide) | exact Or.inr (by decide))
    cases h
    exact hQ w_105
  · obtain ⟨m_14, e_15, h⟩ := up_s h
    have E_18 := ext_up e_15 (And.left (fx_kF (c := 13) hF (by decide +kernel))) (by decide)
    have w_19 := Kr.upC (y := 105) (Kr.rf (W := fW_X12_undoes) (e := 0) hF) e_15 (ext_up e_15 (And.left (fx_kF (c := 13) hF (by decide +kernel))) (by decide)) (And.left (fx_kF (c := 13) hF (by decide +kernel))) (fx_f (j := 105) hF (fx_kF (c := 13) hF (by decide +kernel)) (by decide +kernel)) (Or.inr rfl) (by decide +kernel) (fx_kF (c := 13) hF (by decide +kernel)) (by decide) (by first | exact Or.inl (by decide) | exact Or.inr (by decide))
    obtain ⟨x_29, e_30, h⟩ := lx_s h
    obtain ⟨g_33, h⟩ := gd_s h
    obtain ⟨x_35, e_36, h⟩ := lx_s h
    obtain ⟨x_55, m_56, hc_54, h⟩ := bd_s h
    have w_63 := (kw_X12_commands (Kr.fix w_19) hc_54)
    have E_61 := Kr.ext w_63
    have w_64 := Kr.tr0 w_19 w_63 (by decide +kernel)
    obtain ⟨x_76, m_77, hc_75, h⟩ := bd_s h
    have w_84 := (kw_X12_awaits (Kr.fix w_64) hc_75)
    have E_82 := Kr.ext w_84
    have w_85 := Kr.tr0 w_64 w_84 (by decide +kernel)
    cases h
    exact hQ w_85
set_option maxHeartbeats 4000000 in
theorem kwj_X12_patches_116 {P : Prop} {m : MM} {y1 y2 y3 : Int} {rz : Int} {rm : MM} (hF : Fix m) (hQ : Kr fW_X12_patches 0 0 m rm → P)
  (h : fj_X12_patches_116 y1 y2 y3 m = some (rz, rm)) : P := by
  unfold fj_X12_patches_116 at h
  obtain ⟨x_19, e_20, h⟩ := lx_s h
  rcases it_s h with ⟨hp_29, h⟩ | ⟨hp_29, h⟩
  · obtain ⟨g_43, h⟩ := gd_s h
    obtain ⟨x_45, e_46, h⟩ := lx_s h
    obtain ⟨m_51, e_52, h⟩ := up_s h
    have E_55 := ext_up e_52 (And.left (fx_kF (c := 100) hF (by decide +kernel))) (And.left g_43)
    have w_56 := Kr.upC (y := (-9)) (Kr.rf (W := fW_X12_patches) (e := 0) hF) e_52 (ext_up e_52 (And.left (fx_kF (c := 100) hF (by decide +kernel))) (And.left g_43)) (And.left (fx_kF (c := 100) hF (by decide +kernel))) (fx_a hF (fx_kF (c := 100) hF (by decide +kernel)) (And.left g_43) (by decide +kernel)) (Or.inl rfl) (by decide +kernel) (fx_kF (c := 100) hF (by decide +kernel)) (And.left g_43) (by first | exact Or.inl (by decide) | exact Or.inr (by decide))
    cases h
    exact hQ w_56
  · obtain ⟨g_30, h⟩ := gd_s h
    obtain ⟨m_31, e_32, h⟩ := up_s h
    have E_35 := ext_up e_32 (And.left (fx_kF (c := 100) hF (by decide +kernel))) (And.left g_30)
    have w_36 := Kr.upC (y := (-9)) (Kr.rf (W := fW_X12_patches) (e := 0) hF) e_32 (ext_up e_32 (And.left (fx_kF (c := 100) hF (by decide +kernel))) (And.left g_30)) (And.left (fx_kF (c := 100) hF (by decide +kernel))) (fx_a hF (fx_kF (c := 100) hF (by decide +kernel)) (And.left g_30) (by decide +kernel)) (Or.inl rfl) (by decide +kernel) (fx_kF (c := 100) hF (by decide +kernel)) (And.left g_30) (by first | exact Or.inl (by decide) | exact Or.inr (by decide))
    cases h
    exact hQ w_36
set_option maxHeartbeats 4000000 in
theorem kwj_X12_patches_95 {P : Prop} {m : MM} {y1 y2 y3 : Int} {rz : Int} {rm : MM} (hF : Fix m) (hQ : Kr fW_X12_patches 0 0 m rm → P)
  (h : fj_X12_patches_95 y1 y2 y3 m = some (rz, rm)) : P := by
  unfold fj_X12_patches_95 at h
  obtain ⟨x_110, m_111, hc_109, h⟩ := bd_s h
  have w_118 := (kw_X12_commands hF hc_109)
  have E_116 := Kr.ext w_118
  have w_119 := Kr.tr0 (Kr.rf (W := fW_X12_patches) (e := 0) hF) w_118 (by decide +kernel)
  obtain ⟨x_124, e_125, h⟩ := lx_s h
  obtain ⟨m_132, e_133, h⟩ := up_s h
  have E_136 := ext_up e_133 (And.left (fx_kF (c := 13) (Kr.fix w_119) (by decide +kernel))) (by decide)
  have w_137 := Kr.upC (y := 110) w_119 e_133 (ext_up e_133 (And.left (fx_kF (c := 13) (Kr.fix w_119) (by decide +kernel))) (by decide)) (And.left (fx_kF (c := 13) (Kr.fix w_119) (by decide +kernel))) (fx_f (j := 110) (Kr.fix w_119) (fx_kF (c := 13) (Kr.fix w_119) (by decide +kernel)) (by decide +kernel)) (Or.inr rfl) (by decide +kernel) (fx_kF (c := 13) (Kr.fix w_119) (by decide +kernel)) (by decide) (by first | exact Or.inl (by decide) | exact Or.inr (by decide))
  exact kwj_X12_patches_116 (Kr.fix w_137) (fun f => hQ (Kr.trS w_137 f)) h
set_option maxHeartbeats 4000000 in
theorem kwj_X12_patches_72 {P : Prop} {m : MM} {y1 y2 y3 y5 s0 : Int} {rz : Int} {rm : MM} (hF : Fix m) (hQ : Kr fW_X12_patches 0 0 m rm → P)
  (h : fj_X12_patches_72 y1 y2 y3 y5 s0 m = some (rz, rm)) : P := by
  unfold fj_X12_patches_72 at h
  rcases it_s h with ⟨hp_104, h⟩ | ⟨hp_104, h⟩
  · rcases it_s h with ⟨hp_139, h⟩ | ⟨hp_139, h⟩
    · obtain ⟨x_143, e_144, h⟩ := lx_s h
      obtain ⟨x_148, e_149, h⟩ := lx_s h
      rcases it_s h with ⟨hp_150, h⟩ | ⟨hp_150, h⟩
      · exact kwj_X12_patches_95 hF hQ h
      · exact kwj_X12_patches_116 hF hQ h
    · exact kwj_X12_patches_116 hF hQ h
  · exact kwj_X12_patches_95 hF hQ h
set_option maxHeartbeats 4000000 in
theorem kwj_X12_patches_31 {P : Prop} {m : MM} {y1 y2 y3 y4 s0 : Int} {rz : Int} {rm : MM} (hF : Fix m) (hQ : Kr fW_X12_patches 0 0 m rm → P)
  (h : fj_X12_patches_31 y1 y2 y3 y4 s0 m = some (rz, rm)) : P := by
  unfold fj_X12_patches_31 at h
  rcases it_s h with ⟨hp_93, h⟩ | ⟨hp_93, h⟩
  · exact kwj_X12_patches_72 hF hQ h
  · obtain ⟨x_154, e_155, h⟩ := lx_s h
    obtain ⟨x_157, hc_156, h⟩ := bp_s h
    rcases it_s h with ⟨hp_167, h⟩ | ⟨hp_167, h⟩
    · obtain ⟨x_174, hc_173, h⟩ := bp_s h
      rcases it_s h with ⟨hp_182, h⟩ | ⟨hp_182, h⟩
      · exact kwj_X12_patches_72 hF hQ h
      · exact kwj_X12_patches_72 hF hQ h
    · exact kwj_X12_patches_72 hF hQ h
set_option maxHeartbeats 4000000 in
theorem kw_X12_patches {m0 : MM} {p1 p2 p3 : Int} {rz : Int} {rm : MM} (hF : Fix m0)
  (h : fm_X12_patches p1 p2 p3 m0 = some (rz, rm)) : Kr fW_X12_patches 0 0 m0 rm := by
  have hQ : Kr fW_X12_patches 0 0 m0 rm → Kr fW_X12_patches 0 0 m0 rm := id
  unfold fm_X12_patches at h
  obtain ⟨x_4, e_5, h⟩ := lx_s h
  rcases it_s h with ⟨hp_12, h⟩ | ⟨hp_12, h⟩
  · obtain ⟨x_59, m_60, hc_58, h⟩ := bd_s h
    have w_67 := (kw_X12_nextCommand hF hc_58)
    have E_65 := Kr.ext w_67
    have w_68 := Kr.tr0 (Kr.rf (W := fW_X12_patches) (e := 0) hF) w_67 (by decide +kernel)
    obtain ⟨x_80, e_81, h⟩ := lx_s h
    rcases it_s h with ⟨hp_82, h⟩ | ⟨hp_82, h⟩
    · exact kwj_X12_patches_31 (Kr.fix w_68) (fun f => hQ (Kr.trS w_68 f)) h
    · exact kwj_X12_patches_31 (Kr.fix w_68) (fun f => hQ (Kr.trS w_68 f)) h
  · exact kwj_X12_patches_116 hF hQ h
set_option maxHeartbeats 4000000 in
theorem kwj_X12_bares_31 {P : Prop} {m : MM} {y1 s0 s1 s2 : Int} {rz : Int} {rm : MM} (hF : Fix m) (hQ : Kr fW_X12_bares 0 0 m rm → P)
  (h : fj_X12_bares_31 y1 s0 s1 s2 m = some (rz, rm)) : P := by
  unfold fj_X12_bares_31 at h
  obtain ⟨g_40, h⟩ := gd_s h
  obtain ⟨m_41, e_42, h⟩ := up_s h
  have E_45 := ext_up e_42 (And.left (fx_kF (c := 100) hF (by decide +kernel))) (And.left g_40)
  have w_46 := Kr.upC (y := (-9)) (Kr.rf (W := fW_X12_bares) (e := 0) hF) e_42 (ext_up e_42 (And.left (fx_kF (c := 100) hF (by decide +kernel))) (And.left g_40)) (And.left (fx_kF (c := 100) hF (by decide +kernel))) (fx_a hF (fx_kF (c := 100) hF (by decide +kernel)) (And.left g_40) (by decide +kernel)) (Or.inl rfl) (by decide +kernel) (fx_kF (c := 100) hF (by decide +kernel)) (And.left g_40) (by first | exact Or.inl (by decide) | exact Or.inr (by decide))
  obtain ⟨g_53, h⟩ := gd_s h
  obtain ⟨x_55, e_56, h⟩ := lx_s h
  rcases it_s h with ⟨hp_57, h⟩ | ⟨hp_57, h⟩
  · cases h
    exact hQ w_46
  · obtain ⟨x_64, e_65, h⟩ := lx_s h
    rcases it_s h with ⟨hp_66, h⟩ | ⟨hp_66, h⟩
    · obtain ⟨x_68, m_69, hc_67, h⟩ := bd_s h
      have w_76 := (kw_X12_cancelsBranch (Kr.fix w_46) hc_67)
      have E_74 := Kr.ext w_76
      have w_77 := Kr.tr0 w_46 w_76 (by decide +kernel)
      cases h
      exact hQ w_77
    · cases h
      exact hQ w_46
set_option maxHeartbeats 4000000 in
theorem kw_X12_bares {m0 : MM} {p1 : Int} {rz : Int} {rm : MM} (hF : Fix m0)
  (h : fm_X12_bares p1 m0 = some (rz, rm)) : Kr fW_X12_bares 0 0 m0 rm := by
  have hQ : Kr fW_X12_bares 0 0 m0 rm → Kr fW_X12_bares 0 0 m0 rm := id
  unfold fm_X12_bares at h
  obtain ⟨g_6, h⟩ := gd_s h
  obtain ⟨x_8, e_9, h⟩ := lx_s h
  obtain ⟨m_14, e_15, h⟩ := up_s h
  have E_18 := ext_up e_15 (And.left (fx_kF (c := 100) hF (by decide +kernel))) (And.left g_6)
  have w_19 := Kr.upC (y := (-9)) (Kr.rf (W := fW_X12_bares) (e := 0) hF) e_15 (ext_up e_15 (And.left (fx_kF (c := 100) hF (by decide +kernel))) (And.left g_6)) (And.left (fx_kF (c := 100) hF (by decide +kernel))) (fx_a hF (fx_kF (c := 100) hF (by decide +kernel)) (And.left g_6) (by decide +kernel)) (Or.inl rfl) (by decide +kernel) (fx_kF (c := 100) hF (by decide +kernel)) (And.left g_6) (by first | exact Or.inl (by decide) | exact Or.inr (by decide))
  obtain ⟨x_27, e_28, h⟩ := lx_s h
  rcases it_s h with ⟨hp_35, h⟩ | ⟨hp_35, h⟩
  · exact kwj_X12_bares_31 (Kr.fix w_19) (fun f => hQ (Kr.trS w_19 f)) h
  · exact kwj_X12_bares_31 (Kr.fix w_19) (fun f => hQ (Kr.trS w_19 f)) h
set_option maxHeartbeats 4000000 in
theorem kwj_X12_doesMore_150 {P : Prop} {m : MM} {y1 s0 s1 : Int} {rz : Int} {rm : MM} (hF : Fix m) (hQ : Kr fW_X12_doesMore 0 0 m rm → P)
  (h : fj_X12_doesMore_150 y1 s0 s1 m = some (rz, rm)) : P := by
  unfold fj_X12_doesMore_150 at h
  obtain ⟨g_128, h⟩ := gd_s h
  obtain ⟨m_129, e_130, h⟩ := up_s h
  have E_133 := ext_up e_130 (And.left (fx_kF (c := 100) hF (by decide +kernel))) (And.left g_128)
  have w_134 := Kr.upC (y := (-9)) (Kr.rf (W := fW_X12_doesMore) (e := 0) hF) e_130 (ext_up e_130 (And.left (fx_kF (c := 100) hF (by decide +kernel))) (And.left g_128)) (And.left (fx_kF (c := 100) hF (by decide +kernel))) (fx_a hF (fx_kF (c := 100) hF (by decide +kernel)) (And.left g_128) (by decide +kernel)) (Or.inl rfl) (by decide +kernel) (fx_kF (c := 100) hF (by decide +kernel)) (And.left g_128) (by first | exact Or.inl (by decide) | exact Or.inr (by decide))
  obtain ⟨g_141, h⟩ := gd_s h
  obtain ⟨x_143, e_144, h⟩ := lx_s h
  obtain ⟨m_149, e_150, h⟩ := up_s h
  have E_153 := ext_up e_150 (And.left (fx_kF (c := 100) (Kr.fix w_134) (by decide +kernel))) (And.left g_141)
  have w_154 := Kr.upC (y := (-9)) w_134 e_150 (ext_up e_150 (And.left (fx_kF (c := 100) (Kr.fix w_134) (by decide +kernel))) (And.left g_141)) (And.left (fx_kF (c := 100) (Kr.fix w_134) (by decide +kernel))) (fx_a (Kr.fix w_134) (fx_kF (c := 100) (Kr.fix w_134) (by decide +kernel)) (And.left g_141) (by decide +kernel)) (Or.inl rfl) (by decide +kernel) (fx_kF (c := 100) (Kr.fix w_134) (by decide +kernel)) (And.left g_141) (by first | exact Or.inl (by decide) | exact Or.inr (by decide))
  cases h
  exact hQ w_154
set_option maxHeartbeats 4000000 in
theorem kw_X12_doesMore {m0 : MM} {p1 p2 p3 p4 : Int} {rz : Int} {rm : MM} (hF : Fix m0)
  (h : fm_X12_doesMore p1 p2 p3 p4 m0 = some (rz, rm)) : Kr fW_X12_doesMore 0 0 m0 rm := by
  have hQ : Kr fW_X12_doesMore 0 0 m0 rm → Kr fW_X12_doesMore 0 0 m0 rm := id
  unfold fm_X12_doesMore at h
  rcases it_s h with ⟨hp_2, h⟩ | ⟨hp_2, h⟩
  · obtain ⟨x_9, e_10, h⟩ := lx_s h
    obtain ⟨g_18, h⟩ := gd_s h
    obtain ⟨x_20, e_21, h⟩ := lx_s h
    obtain ⟨g_30, h⟩ := gd_s h
    obtain ⟨m_31, e_32, h⟩ := up_s h
    have E_35 := ext_up e_32 (And.left (fx_kF (c := 100) hF (by decide +kernel))) (And.left g_30)
    have w_36 := Kr.upC (y := (-9)) (Kr.rf (W := fW_X12_doesMore) (e := 0) hF) e_32 (ext_up e_32 (And.left (fx_kF (c := 100) hF (by decide +kernel))) (And.left g_30)) (And.left (fx_kF (c := 100) hF (by decide +kernel))) (fx_a hF (fx_kF (c := 100) hF (by decide +kernel)) (And.left g_30) (by decide +kernel)) (Or.inl rfl) (by decide +kernel) (fx_kF (c := 100) hF (by decide +kernel)) (And.left g_30) (by first | exact Or.inl (by decide) | exact Or.inr (by decide))
    obtain ⟨x_44, e_45, h⟩ := lx_s h
    obtain ⟨m_46, e_47, h⟩ := up_s h
    have E_50 := ext_up e_47 (And.left (fx_kF (c := 100) (Kr.fix w_36) (by decide +kernel))) (And.left g_18)
    have w_51 := Kr.upC (y := (-9)) w_36 e_47 (ext_up e_47 (And.left (fx_kF (c := 100) (Kr.fix w_36) (by decide +kernel))) (And.left g_18)) (And.left (fx_kF (c := 100) (Kr.fix w_36) (by decide +kernel))) (fx_a (Kr.fix w_36) (fx_kF (c := 100) (Kr.fix w_36) (by decide +kernel)) (And.left g_18) (by decide +kernel)) (Or.inl rfl) (by decide +kernel) (fx_kF (c := 100) (Kr.fix w_36) (by decide +kernel)) (And.left g_18) (by first | exact Or.inl (by decide) | exact Or.inr (by decide))
    obtain ⟨x_56, e_57, h⟩ := lx_s h
    obtain ⟨m_62, e_63, h⟩ := up_s h
    have E_66 := ext_up e_63 (And.left (fx_kF (c := 13) (Kr.fix w_51) (by decide +kernel))) (by decide)
    have w_67 := Kr.upC (y := 103) w_51 e_63 (ext_up e_63 (And.left (fx_kF (c := 13) (Kr.fix w_51) (by decide +kernel))) (by decide)) (And.left (fx_kF (c := 13) (Kr.fix w_51) (by decide +kernel))) (fx_f (j := 103) (Kr.fix w_51) (fx_kF (c := 13) (Kr.fix w_51) (by decide +kernel)) (by decide +kernel)) (Or.inr rfl) (by decide +kernel) (fx_kF (c := 13) (Kr.fix w_51) (by decide +kernel)) (by decide) (by first | exact Or.inl (by decide) | exact Or.inr (by decide))
    obtain ⟨x_75, e_76, h⟩ := lx_s h
    obtain ⟨m_81, e_82, h⟩ := up_s h
    have E_85 := ext_up e_82 (And.left (fx_kF (c := 100) (Kr.fix w_67) (by decide +kernel))) (And.left g_18)
    have w_86 := Kr.upC (y := (-9)) w_67 e_82 (ext_up e_82 (And.left (fx_kF (c := 100) (Kr.fix w_67) (by decide +kernel))) (And.left g_18)) (And.left (fx_kF (c := 100) (Kr.fix w_67) (by decide +kernel))) (fx_a (Kr.fix w_67) (fx_kF (c := 100) (Kr.fix w_67) (by decide +kernel)) (And.left g_18) (by decide +kernel)) (Or.inl rfl) (by decide +kernel) (fx_kF (c := 100) (Kr.fix w_67) (by decide +kernel)) (And.left g_18) (by first | exact Or.inl (by decide) | exact Or.inr (by decide))
    cases h
    exact hQ w_86
  rcases it_s h with ⟨hp_89, h⟩ | ⟨hp_89, h⟩
  · obtain ⟨g_98, h⟩ := gd_s h
    obtain ⟨x_100, e_101, h⟩ := lx_s h
    rcases it_s h with ⟨hp_104, h⟩ | ⟨hp_104, h⟩
    · exact kwj_X12_doesMore_150 hF hQ h
    · obtain ⟨g_116, h⟩ := gd_s h
      obtain ⟨x_118, e_119, h⟩ := lx_s h
      exact kwj_X12_doesMore_150 hF hQ h
  rcases it_s h with ⟨hp_159, h⟩ | ⟨hp_159, h⟩
  · obtain ⟨x_166, e_167, h⟩ := lx_s h
    obtain ⟨g_175, h⟩ := gd_s h
    obtain ⟨x_177, e_178, h⟩ := lx_s h
    obtain ⟨g_183, h⟩ := gd_s h
    obtain ⟨m_184, e_185, h⟩ := up_s h
    have E_188 := ext_up e_185 (And.left (fx_kF (c := 100) hF (by decide +kernel))) (And.left g_183)
    have w_189 := Kr.upC (y := (-9)) (Kr.rf (W := fW_X12_doesMore) (e := 0) hF) e_185 (ext_up e_185 (And.left (fx_kF (c := 100) hF (by decide +kernel))) (And.left g_183)) (And.left (fx_kF (c := 100) hF (by decide +kernel))) (fx_a hF (fx_kF (c := 100) hF (by decide +kernel)) (And.left g_183) (by decide +kernel)) (Or.inl rfl) (by decide +kernel) (fx_kF (c := 100) hF (by decide +kernel)) (And.left g_183) (by first | exact Or.inl (by decide) | exact Or.inr (by decide))
    obtain ⟨x_194, e_195, h⟩ := lx_s h
    obtain ⟨m_200, e_201, h⟩ := up_s h
    have E_204 := ext_up e_201 (And.left (fx_kF (c := 13) (Kr.fix w_189) (by decide +kernel))) (by decide)
    have w_205 := Kr.upC (y := 105) w_189 e_201 (ext_up e_201 (And.left (fx_kF (c := 13) (Kr.fix w_189) (by decide +kernel))) (by decide)) (And.left (fx_kF (c := 13) (Kr.fix w_189) (by decide +kernel))) (fx_f (j := 105) (Kr.fix w_189) (fx_kF (c := 13) (Kr.fix w_189) (by decide +kernel)) (by decide +kernel)) (Or.inr rfl) (by decide +kernel) (fx_kF (c := 13) (Kr.fix w_189) (by decide +kernel)) (by decide) (by first | exact Or.inl (by decide) | exact Or.inr (by decide))
    obtain ⟨g_212, h⟩ := gd_s h
    obtain ⟨x_214, e_215, h⟩ := lx_s h
    obtain ⟨m_220, e_221, h⟩ := up_s h
    have E_224 := ext_up e_221 (And.left (fx_kF (c := 100) (Kr.fix w_205) (by decide +kernel))) (And.left g_212)
    have w_225 := Kr.upC (y := (-9)) w_205 e_221 (ext_up e_221 (And.left (fx_kF (c := 100) (Kr.fix w_205) (by decide +kernel))) (And.left g_212)) (And.left (fx_kF (c := 100) (Kr.fix w_205) (by decide +kernel))) (fx_a (Kr.fix w_205) (fx_kF (c := 100) (Kr.fix w_205) (by decide +kernel)) (And.left g_212) (by decide +kernel)) (Or.inl rfl) (by decide +kernel) (fx_kF (c := 100) (Kr.fix w_205) (by decide +kernel)) (And.left g_212) (by first | exact Or.inl (by decide) | exact Or.inr (by decide))
    cases h
    exact hQ w_225
  rcases it_s h with ⟨hp_228, h⟩ | ⟨hp_228, h⟩
  · obtain ⟨x_230, m_231, hc_229, h⟩ := bd_s h
    have w_238 := (kw_X12_undoes hF hc_229)
    have E_236 := Kr.ext w_238
    have w_239 := Kr.tr0 (Kr.rf (W := fW_X12_doesMore) (e := 0) hF) w_238 (by decide +kernel)
    cases h
    exact hQ w_239
  rcases it_s h with ⟨hp_242, h⟩ | ⟨hp_242, h⟩
  · obtain ⟨x_244, m_245, hc_243, h⟩ := bd_s h
    have w_252 := (kw_X12_endsBranch hF hc_243)
    have E_250 := Kr.ext w_252
    have w_253 := Kr.tr0 (Kr.rf (W := fW_X12_doesMore) (e := 0) hF) w_252 (by decide +kernel)
    cases h
    exact hQ w_253
  rcases it_s h with ⟨hp_256, h⟩ | ⟨hp_256, h⟩
  · obtain ⟨x_258, m_259, hc_257, h⟩ := bd_s h
    have w_266 := (kw_X12_failsBranch hF hc_257)
    have E_264 := Kr.ext w_266
    have w_267 := Kr.tr0 (Kr.rf (W := fW_X12_doesMore) (e := 0) hF) w_266 (by decide +kernel)
    cases h
    exact hQ w_267
  rcases it_s h with ⟨hp_270, h⟩ | ⟨hp_270, h⟩
  · obtain ⟨g_278, h⟩ := gd_s h
    obtain ⟨x_280, e_281, h⟩ := lx_s h
    obtain ⟨x_283, m_284, hc_282, h⟩ := bd_s h
    have w_291 := (kw_X12_endsRun hF hc_282)
    have E_289 := Kr.ext w_291
    have w_292 := Kr.tr0 (Kr.rf (W := fW_X12_doesMore) (e := 0) hF) w_291 (by decide +kernel)
    cases h
    exact hQ w_292
  rcases it_s h with ⟨hp_295, h⟩ | ⟨hp_295, h⟩
  · obtain ⟨x_297, m_298, hc_296, h⟩ := bd_s h
    have w_305 := (kw_X12_patches hF hc_296)
    have E_303 := Kr.ext w_305
    have w_306 := Kr.tr0 (Kr.rf (W := fW_X12_doesMore) (e := 0) hF) w_305 (by decide +kernel)
    cases h
    exact hQ w_306
  rcases it_s h with ⟨hp_309, h⟩ | ⟨hp_309, h⟩
  · obtain ⟨x_316, e_317, h⟩ := lx_s h
    obtain ⟨g_318, h⟩ := gd_s h
    obtain ⟨m_319, e_320, h⟩ := up_s h
    have E_323 := ext_up e_320 (And.left (fx_kF (c := 100) hF (by decide +kernel))) (And.left g_318)
    have w_324 := Kr.upC (y := (-9)) (Kr.rf (W := fW_X12_doesMore) (e := 0) hF) e_320 (ext_up e_320 (And.left (fx_kF (c := 100) hF (by decide +kernel))) (And.left g_318)) (And.left (fx_kF (c := 100) hF (by decide +kernel))) (fx_a hF (fx_kF (c := 100) hF (by decide +kernel)) (And.left g_318) (by decide +kernel)) (Or.inl rfl) (by decide +kernel) (fx_kF (c := 100) hF (by decide +kernel)) (And.left g_318) (by first | exact Or.inl (by decide) | exact Or.inr (by decide))
    obtain ⟨g_331, h⟩ := gd_s h
    obtain ⟨x_333, e_334, h⟩ := lx_s h
    obtain ⟨m_339, e_340, h⟩ := up_s h
    have E_343 := ext_up e_340 (And.left (fx_kF (c := 100) (Kr.fix w_324) (by decide +kernel))) (And.left g_331)
    have w_344 := Kr.upC (y := (-9)) w_324 e_340 (ext_up e_340 (And.left (fx_kF (c := 100) (Kr.fix w_324) (by decide +kernel))) (And.left g_331)) (And.left (fx_kF (c := 100) (Kr.fix w_324) (by decide +kernel))) (fx_a (Kr.fix w_324) (fx_kF (c := 100) (Kr.fix w_324) (by decide +kernel)) (And.left g_331) (by decide +kernel)) (Or.inl rfl) (by decide +kernel) (fx_kF (c := 100) (Kr.fix w_324) (by decide +kernel)) (And.left g_331) (by first | exact Or.inl (by decide) | exact Or.inr (by decide))
    cases h
    exact hQ w_344
  rcases it_s h with ⟨hp_347, h⟩ | ⟨hp_347, h⟩
  · obtain ⟨g_353, h⟩ := gd_s h
    obtain ⟨x_355, e_356, h⟩ := lx_s h
    obtain ⟨m_361, e_362, h⟩ := up_s h
    have E_365 := ext_up e_362 (And.left (fx_kF (c := 100) hF (by decide +kernel))) (And.left g_353)
    have w_366 := Kr.upC (y := (-9)) (Kr.rf (W := fW_X12_doesMore) (e := 0) hF) e_362 (ext_up e_362 (And.left (fx_kF (c := 100) hF (by decide +kernel))) (And.left g_353)) (And.left (fx_kF (c := 100) hF (by decide +kernel))) (fx_a hF (fx_kF (c := 100) hF (by decide +kernel)) (And.left g_353) (by decide +kernel)) (Or.inl rfl) (by decide +kernel) (fx_kF (c := 100) hF (by decide +kernel)) (And.left g_353) (by first | exact Or.inl (by decide) | exact Or.inr (by decide))
    obtain ⟨x_374, e_375, h⟩ := lx_s h
    obtain ⟨m_380, e_381, h⟩ := up_s h
    have E_384 := ext_up e_381 (And.left (fx_kF (c := 100) (Kr.fix w_366) (by decide +kernel))) (And.left g_353)
    have w_385 := Kr.upC (y := (-9)) w_366 e_381 (ext_up e_381 (And.left (fx_kF (c := 100) (Kr.fix w_366) (by decide +kernel))) (And.left g_353)) (And.left (fx_kF (c := 100) (Kr.fix w_366) (by decide +kernel))) (fx_a (Kr.fix w_366) (fx_kF (c := 100) (Kr.fix w_366) (by decide +kernel)) (And.left g_353) (by decide +kernel)) (Or.inl rfl) (by decide +kernel) (fx_kF (c := 100) (Kr.fix w_366) (by decide +kernel)) (And.left g_353) (by first | exact Or.inl (by decide) | exact Or.inr (by decide))
    cases h
    exact hQ w_385
  rcases it_s h with ⟨hp_388, h⟩ | ⟨hp_388, h⟩
  · obtain ⟨x_390, m_391, hc_389, h⟩ := bd_s h
    have w_398 := (kw_X12_bares hF hc_389)
    have E_396 := Kr.ext w_398
    have w_399 := Kr.tr0 (Kr.rf (W := fW_X12_doesMore) (e := 0) hF) w_398 (by decide +kernel)
    cases h
    exact hQ w_399
  obtain ⟨g_408, h⟩ := gd_s h
  obtain ⟨x_410, e_411, h⟩ := lx_s h
  obtain ⟨x_415, m_416, hc_414, h⟩ := bd_s h
  have w_423 := (kw_X12_commands hF hc_414)
  have E_421 := Kr.ext w_423
  have w_424 := Kr.tr0 (Kr.rf (W := fW_X12_doesMore) (e := 0) hF) w_423 (by decide +kernel)
  obtain ⟨g_431, h⟩ := gd_s h
  obtain ⟨x_433, e_434, h⟩ := lx_s h
  obtain ⟨m_439, e_440, h⟩ := up_s h
  have E_443 := ext_up e_440 (And.left (fx_kF (c := 100) (Kr.fix w_424) (by decide +kernel))) (And.left g_431)
  have w_444 := Kr.upC (y := (-9)) w_424 e_440 (ext_up e_440 (And.left (fx_kF (c := 100) (Kr.fix w_424) (by decide +kernel))) (And.left g_431)) (And.left (fx_kF (c := 100) (Kr.fix w_424) (by decide +kernel))) (fx_a (Kr.fix w_424) (fx_kF (c := 100) (Kr.fix w_424) (by decide +kernel)) (And.left g_431) (by decide +kernel)) (Or.inl rfl) (by decide +kernel) (fx_kF (c := 100) (Kr.fix w_424) (by decide +kernel)) (And.left g_431) (by first | exact Or.inl (by decide) | exact Or.inr (by decide))
  cases h
  exact hQ w_444
set_option maxHeartbeats 4000000 in
theorem kw_X12_does {m0 : MM} {p1 : Int} {rz : Int} {rm : MM} (hF : Fix m0)
  (h : fm_X12_does p1 m0 = some (rz, rm)) : Kr fW_X12_does 0 0 m0 rm := by
  have hQ : Kr fW_X12_does 0 0 m0 rm → Kr fW_X12_does 0 0 m0 rm := id
  unfold fm_X12_does at h
  obtain ⟨x_7, e_8, h⟩ := lx_s h
  obtain ⟨g_11, h⟩ := gd_s h
  obtain ⟨x_13, e_14, h⟩ := lx_s h
  obtain ⟨x_18, e_19, h⟩ := lx_s h
  obtain ⟨x_21, hc_20, h⟩ := bp_s h
  obtain ⟨g_34, h⟩ := gd_s h
  obtain ⟨x_36, e_37, h⟩ := lx_s h
  obtain ⟨x_40, e_41, h⟩ := lx_s h
  obtain ⟨g_53, h⟩ := gd_s h
  obtain ⟨x_55, e_56, h⟩ := lx_s h
  obtain ⟨x_69, e_70, h⟩ := lx_s h
  obtain ⟨x_84, e_85, h⟩ := lx_s h
  rcases it_s h with ⟨hp_87, h⟩ | ⟨hp_87, h⟩
  · obtain ⟨g_91, h⟩ := gd_s h
    obtain ⟨m_92, e_93, h⟩ := up_s h
    have E_96 := ext_up e_93 (And.left (fx_kF (c := 100) hF (by decide +kernel))) (And.left g_91)
    have w_97 := Kr.upC (y := (-9)) (Kr.rf (W := fW_X12_does) (e := 0) hF) e_93 (ext_up e_93 (And.left (fx_kF (c := 100) hF (by decide +kernel))) (And.left g_91)) (And.left (fx_kF (c := 100) hF (by decide +kernel))) (fx_a hF (fx_kF (c := 100) hF (by decide +kernel)) (And.left g_91) (by decide +kernel)) (Or.inl rfl) (by decide +kernel) (fx_kF (c := 100) hF (by decide +kernel)) (And.left g_91) (by first | exact Or.inl (by decide) | exact Or.inr (by decide))
    obtain ⟨x_105, e_106, h⟩ := lx_s h
    obtain ⟨m_111, e_112, h⟩ := up_s h
    have E_115 := ext_up e_112 (And.left (fx_kF (c := 100) (Kr.fix w_97) (by decide +kernel))) (And.left g_34)
    have w_116 := Kr.upC (y := (-9)) w_97 e_112 (ext_up e_112 (And.left (fx_kF (c := 100) (Kr.fix w_97) (by decide +kernel))) (And.left g_34)) (And.left (fx_kF (c := 100) (Kr.fix w_97) (by decide +kernel))) (fx_a (Kr.fix w_97) (fx_kF (c := 100) (Kr.fix w_97) (by decide +kernel)) (And.left g_34) (by decide +kernel)) (Or.inl rfl) (by decide +kernel) (fx_kF (c := 100) (Kr.fix w_97) (by decide +kernel)) (And.left g_34) (by first | exact Or.inl (by decide) | exact Or.inr (by decide))
    cases h
    exact hQ w_116
  rcases it_s h with ⟨hp_119, h⟩ | ⟨hp_119, h⟩
  · obtain ⟨g_128, h⟩ := gd_s h
    obtain ⟨x_130, e_131, h⟩ := lx_s h
    obtain ⟨g_137, h⟩ := gd_s h
    obtain ⟨x_139, e_140, h⟩ := lx_s h
    obtain ⟨m_147, e_148, h⟩ := up_s h
    have E_151 := ext_up e_148 (And.left (fx_kF (c := 100) hF (by decide +kernel))) (And.left g_128)
    have w_152 := Kr.upC (y := (-9)) (Kr.rf (W := fW_X12_does) (e := 0) hF) e_148 (ext_up e_148 (And.left (fx_kF (c := 100) hF (by decide +kernel))) (And.left g_128)) (And.left (fx_kF (c := 100) hF (by decide +kernel))) (fx_a hF (fx_kF (c := 100) hF (by decide +kernel)) (And.left g_128) (by decide +kernel)) (Or.inl rfl) (by decide +kernel) (fx_kF (c := 100) hF (by decide +kernel)) (And.left g_128) (by first | exact Or.inl (by decide) | exact Or.inr (by decide))
    obtain ⟨x_160, e_161, h⟩ := lx_s h
    obtain ⟨m_166, e_167, h⟩ := up_s h
    have E_170 := ext_up e_167 (And.left (fx_kF (c := 100) (Kr.fix w_152) (by decide +kernel))) (And.left g_34)
    have w_171 := Kr.upC (y := (-9)) w_152 e_167 (ext_up e_167 (And.left (fx_kF (c := 100) (Kr.fix w_152) (by decide +kernel))) (And.left g_34)) (And.left (fx_kF (c := 100) (Kr.fix w_152) (by decide +kernel))) (fx_a (Kr.fix w_152) (fx_kF (c := 100) (Kr.fix w_152) (by decide +kernel)) (And.left g_34) (by decide +kernel)) (Or.inl rfl) (by decide +kernel) (fx_kF (c := 100) (Kr.fix w_152) (by decide +kernel)) (And.left g_34) (by first | exact Or.inl (by decide) | exact Or.inr (by decide))
    cases h
    exact hQ w_171
  rcases it_s h with ⟨hp_174, h⟩ | ⟨hp_174, h⟩
  · obtain ⟨g_184, h⟩ := gd_s h
    obtain ⟨x_186, e_187, h⟩ := lx_s h
    obtain ⟨x_189, m_190, hc_188, h⟩ := bd_s h
    have w_197 := (kw_X12_commands hF hc_188)
    have E_195 := Kr.ext w_197
    have w_198 := Kr.tr0 (Kr.rf (W := fW_X12_does) (e := 0) hF) w_197 (by decide +kernel)
    obtain ⟨x_201, m_202, hc_200, h⟩ := bd_s h
    have w_209 := (kw_X12_awaits (Kr.fix w_198) hc_200)
    have E_207 := Kr.ext w_209
    have w_210 := Kr.tr0 w_198 w_209 (by decide +kernel)
    cases h
    exact hQ w_210
  rcases it_s h with ⟨hp_213, h⟩ | ⟨hp_213, h⟩
  · obtain ⟨x_221, m_222, hc_220, h⟩ := bd_s h
    have w_229 := (kw_X12_commands hF hc_220)
    have E_227 := Kr.ext w_229
    have w_230 := Kr.tr0 (Kr.rf (W := fW_X12_does) (e := 0) hF) w_229 (by decide +kernel)
    obtain ⟨x_235, m_236, hc_234, h⟩ := bd_s h
    have w_243 := (kw_X12_awaits (Kr.fix w_230) hc_234)
    have E_241 := Kr.ext w_243
    have w_244 := Kr.tr0 w_230 w_243 (by decide +kernel)
    cases h
    exact hQ w_244
  rcases it_s h with ⟨hp_247, h⟩ | ⟨hp_247, h⟩
  · obtain ⟨x_251, m_252, hc_250, h⟩ := bd_s h
    have w_259 := (kw_X12_awaits hF hc_250)
    have E_257 := Kr.ext w_259
    have w_260 := Kr.tr0 (Kr.rf (W := fW_X12_does) (e := 0) hF) w_259 (by decide +kernel)
    cases h
    exact hQ w_260
  rcases it_s h with ⟨hp_263, h⟩ | ⟨hp_263, h⟩
  · obtain ⟨g_273, h⟩ := gd_s h
    obtain ⟨x_275, e_276, h⟩ := lx_s h
    obtain ⟨x_278, m_279, hc_277, h⟩ := bd_s h
    have w_286 := (kw_X12_commands hF hc_277)
    have E_284 := Kr.ext w_286
    have w_287 := Kr.tr0 (Kr.rf (W := fW_X12_does) (e := 0) hF) w_286 (by decide +kernel)
    obtain ⟨x_290, m_291, hc_289, h⟩ := bd_s h
    have w_298 := (kw_X12_awaits (Kr.fix w_287) hc_289)
    have E_296 := Kr.ext w_298
    have w_299 := Kr.tr0 w_287 w_298 (by decide +kernel)
    cases h
    exact hQ w_299
  rcases it_s h with ⟨hp_302, h⟩ | ⟨hp_302, h⟩
  · obtain ⟨g_311, h⟩ := gd_s h
    obtain ⟨x_313, e_314, h⟩ := lx_s h
    rcases it_s h with ⟨hp_315, h⟩ | ⟨hp_315, h⟩
    · obtain ⟨m_333, e_334, h⟩ := up_s h
      have E_337 := ext_up e_334 (And.left (fx_kF (c := 100) hF (by decide +kernel))) (And.left g_34)
      have w_338 := Kr.upC (y := (-9)) (Kr.rf (W := fW_X12_does) (e := 0) hF) e_334 (ext_up e_334 (And.left (fx_kF (c := 100) hF (by decide +kernel))) (And.left g_34)) (And.left (fx_kF (c := 100) hF (by decide +kernel))) (fx_a hF (fx_kF (c := 100) hF (by decide +kernel)) (And.left g_34) (by decide +kernel)) (Or.inl rfl) (by decide +kernel) (fx_kF (c := 100) hF (by decide +kernel)) (And.left g_34) (by first | exact Or.inl (by decide) | exact Or.inr (by decide))
      cases h
      exact hQ w_338
    · obtain ⟨m_326, e_327, h⟩ := up_s h
      have E_330 := ext_up e_327 (And.left (fx_kF (c := 100) hF (by decide +kernel))) (And.left g_34)
      have w_331 := Kr.upC (y := (-9)) (Kr.rf (W := fW_X12_does) (e := 0) hF) e_327 (ext_up e_327 (And.left (fx_kF (c := 100) hF (by decide +kernel))) (And.left g_34)) (And.left (fx_kF (c := 100) hF (by decide +kernel))) (fx_a hF (fx_kF (c := 100) hF (by decide +kernel)) (And.left g_34) (by decide +kernel)) (Or.inl rfl) (by decide +kernel) (fx_kF (c := 100) hF (by decide +kernel)) (And.left g_34) (by first | exact Or.inl (by decide) | exact Or.inr (by decide))
      cases h
      exact hQ w_331
  rcases it_s h with ⟨hp_341, h⟩ | ⟨hp_341, h⟩
  · obtain ⟨m_345, e_346, h⟩ := up_s h
    have E_349 := ext_up e_346 (And.left (fx_kF (c := 100) hF (by decide +kernel))) (And.left g_34)
    have w_350 := Kr.upC (y := (-9)) (Kr.rf (W := fW_X12_does) (e := 0) hF) e_346 (ext_up e_346 (And.left (fx_kF (c := 100) hF (by decide +kernel))) (And.left g_34)) (And.left (fx_kF (c := 100) hF (by decide +kernel))) (fx_a hF (fx_kF (c := 100) hF (by decide +kernel)) (And.left g_34) (by decide +kernel)) (Or.inl rfl) (by decide +kernel) (fx_kF (c := 100) hF (by decide +kernel)) (And.left g_34) (by first | exact Or.inl (by decide) | exact Or.inr (by decide))
    cases h
    exact hQ w_350
  rcases it_s h with ⟨hp_353, h⟩ | ⟨hp_353, h⟩
  · obtain ⟨m_364, e_365, h⟩ := up_s h
    have E_368 := ext_up e_365 (And.left (fx_kF (c := 100) hF (by decide +kernel))) (And.left g_34)
    have w_369 := Kr.upC (y := (-9)) (Kr.rf (W := fW_X12_does) (e := 0) hF) e_365 (ext_up e_365 (And.left (fx_kF (c := 100) hF (by decide +kernel))) (And.left g_34)) (And.left (fx_kF (c := 100) hF (by decide +kernel))) (fx_a hF (fx_kF (c := 100) hF (by decide +kernel)) (And.left g_34) (by decide +kernel)) (Or.inl rfl) (by decide +kernel) (fx_kF (c := 100) hF (by decide +kernel)) (And.left g_34) (by first | exact Or.inl (by decide) | exact Or.inr (by decide))
    obtain ⟨x_377, e_378, h⟩ := lx_s h
    obtain ⟨x_380, m_381, hc_379, h⟩ := bd_s h
    have w_388 := (kw_X12_begins (Kr.fix w_369) hc_379)
    have E_386 := Kr.ext w_388
    have w_389 := Kr.tr0 w_369 w_388 (by decide +kernel)
    cases h
    exact hQ w_389
  rcases it_s h with ⟨hp_392, h⟩ | ⟨hp_392, h⟩
  · obtain ⟨m_398, e_399, h⟩ := up_s h
    have E_402 := ext_up e_399 (And.left (fx_kF (c := 100) hF (by decide +kernel))) (And.left g_34)
    have w_403 := Kr.upC (y := (-9)) (Kr.rf (W := fW_X12_does) (e := 0) hF) e_399 (ext_up e_399 (And.left (fx_kF (c := 100) hF (by decide +kernel))) (And.left g_34)) (And.left (fx_kF (c := 100) hF (by decide +kernel))) (fx_a hF (fx_kF (c := 100) hF (by decide +kernel)) (And.left g_34) (by decide +kernel)) (Or.inl rfl) (by decide +kernel) (fx_kF (c := 100) hF (by decide +kernel)) (And.left g_34) (by first | exact Or.inl (by decide) | exact Or.inr (by decide))
    cases h
    exact hQ w_403
  rcases it_s h with ⟨hp_406, h⟩ | ⟨hp_406, h⟩
  · obtain ⟨m_417, e_418, h⟩ := up_s h
    have E_421 := ext_up e_418 (And.left (fx_kF (c := 100) hF (by decide +kernel))) (And.left g_34)
    have w_422 := Kr.upC (y := (-9)) (Kr.rf (W := fW_X12_does) (e := 0) hF) e_418 (ext_up e_418 (And.left (fx_kF (c := 100) hF (by decide +kernel))) (And.left g_34)) (And.left (fx_kF (c := 100) hF (by decide +kernel))) (fx_a hF (fx_kF (c := 100) hF (by decide +kernel)) (And.left g_34) (by decide +kernel)) (Or.inl rfl) (by decide +kernel) (fx_kF (c := 100) hF (by decide +kernel)) (And.left g_34) (by first | exact Or.inl (by decide) | exact Or.inr (by decide))
    obtain ⟨x_425, m_426, hc_424, h⟩ := bd_s h
    have w_433 := (kw_X12_races (Kr.fix w_422) hc_424)
    have E_431 := Kr.ext w_433
    have w_434 := Kr.tr0 w_422 w_433 (by decide +kernel)
    cases h
    exact hQ w_434
  rcases it_s h with ⟨hp_437, h⟩ | ⟨hp_437, h⟩
  · obtain ⟨x_439, m_440, hc_438, h⟩ := bd_s h
    have w_447 := (kw_X12_wins hF hc_438)
    have E_445 := Kr.ext w_447
    have w_448 := Kr.tr0 (Kr.rf (W := fW_X12_does) (e := 0) hF) w_447 (by decide +kernel)
    cases h
    exact hQ w_448
  obtain ⟨x_457, m_458, hc_456, h⟩ := bd_s h
  have w_465 := (kw_X12_doesMore hF hc_456)
  have E_463 := Kr.ext w_465
  have w_466 := Kr.tr0 (Kr.rf (W := fW_X12_does) (e := 0) hF) w_465 (by decide +kernel)
  cases h
  exact hQ w_466
end KW07
