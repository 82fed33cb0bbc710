/-! THE ROOM: how many objects there are: what each method makes (written by wip/whole/gen/gen951.py), 08. -/
section KW08
set_option maxHeartbeats 4000000 in
theorem kwj_X12_canGoOn_140 {P : Prop} {m : MM} {y1 : Int} {rz : Int} {rm : MM} (hF : Fix m) (hQ : Kr fW_X12_canGoOn 0 0 m rm → P)
  (h : fj_X12_canGoOn_140 y1 m = some (rz, rm)) : P := by
  unfold fj_X12_canGoOn_140 at h
  obtain ⟨g_30, h⟩ := gd_s h
  obtain ⟨x_32, e_33, h⟩ := lx_s h
  rcases it_s h with ⟨hp_34, h⟩ | ⟨hp_34, h⟩
  · cases h
    exact hQ (Kr.rf (W := fW_X12_canGoOn) (e := 0) hF)
  · cases h
    exact hQ (Kr.rf (W := fW_X12_canGoOn) (e := 0) hF)
set_option maxHeartbeats 4000000 in
theorem kwj_X12_canGoOn_100 {P : Prop} {m : MM} {y1 : Int} {rz : Int} {rm : MM} (hF : Fix m) (hQ : Kr fW_X12_canGoOn 0 0 m rm → P)
  (h : fj_X12_canGoOn_100 y1 m = some (rz, rm)) : P := by
  unfold fj_X12_canGoOn_100 at h
  obtain ⟨g_18, h⟩ := gd_s h
  obtain ⟨x_20, e_21, h⟩ := lx_s h
  rcases it_s h with ⟨hp_24, h⟩ | ⟨hp_24, h⟩
  · obtain ⟨x_45, e_46, h⟩ := lx_s h
    obtain ⟨x_48, hc_47, h⟩ := bp_s h
    rcases it_s h with ⟨hp_56, h⟩ | ⟨hp_56, h⟩
    · obtain ⟨m_62, e_63, h⟩ := up_s h
      have E_66 := ext_up e_63 (And.left (fx_kF (c := 100) hF (by decide +kernel))) (And.left g_18)
      have w_67 := Kr.upC (y := (-9)) (Kr.rf (W := fW_X12_canGoOn) (e := 0) hF) e_63 (ext_up e_63 (And.left (fx_kF (c := 100) hF (by decide +kernel))) (And.left g_18)) (And.left (fx_kF (c := 100) hF (by decide +kernel))) (fx_a hF (fx_kF (c := 100) hF (by decide +kernel)) (And.left g_18) (by decide +kernel)) (Or.inl rfl) (by decide +kernel) (fx_kF (c := 100) hF (by decide +kernel)) (And.left g_18) (by first | exact Or.inl (by decide) | exact Or.inr (by decide))
      obtain ⟨x_75, e_76, h⟩ := lx_s h
      obtain ⟨m_81, e_82, h⟩ := up_s h
      have E_85 := ext_up e_82 (And.left (fx_kF (c := 100) (Kr.fix w_67) (by decide +kernel))) (And.left g_18)
      have w_86 := Kr.upC (y := (-9)) w_67 e_82 (ext_up e_82 (And.left (fx_kF (c := 100) (Kr.fix w_67) (by decide +kernel))) (And.left g_18)) (And.left (fx_kF (c := 100) (Kr.fix w_67) (by decide +kernel))) (fx_a (Kr.fix w_67) (fx_kF (c := 100) (Kr.fix w_67) (by decide +kernel)) (And.left g_18) (by decide +kernel)) (Or.inl rfl) (by decide +kernel) (fx_kF (c := 100) (Kr.fix w_67) (by decide +kernel)) (And.left g_18) (by first | exact Or.inl (by decide) | exact Or.inr (by decide))
      exact kwj_X12_canGoOn_140 (Kr.fix w_86) (fun f => hQ (Kr.trS w_86 f)) h
    · exact kwj_X12_canGoOn_140 hF hQ h
  · exact kwj_X12_canGoOn_140 hF hQ h
set_option maxHeartbeats 4000000 in
theorem kw_X12_canGoOn {m0 : MM} {p1 : Int} {rz : Int} {rm : MM} (hF : Fix m0)
  (h : fm_X12_canGoOn p1 m0 = some (rz, rm)) : Kr fW_X12_canGoOn 0 0 m0 rm := by
  have hQ : Kr fW_X12_canGoOn 0 0 m0 rm → Kr fW_X12_canGoOn 0 0 m0 rm := id
  unfold fm_X12_canGoOn at h
  obtain ⟨g_6, h⟩ := gd_s h
  obtain ⟨x_8, e_9, h⟩ := lx_s h
  rcases it_s h with ⟨hp_12, h⟩ | ⟨hp_12, h⟩
  · obtain ⟨x_97, e_98, h⟩ := lx_s h
    obtain ⟨g_101, h⟩ := gd_s h
    obtain ⟨x_103, e_104, h⟩ := lx_s h
    obtain ⟨x_117, e_118, h⟩ := lx_s h
    rcases it_s h with ⟨hp_119, h⟩ | ⟨hp_119, h⟩
    · obtain ⟨x_140, e_141, h⟩ := lx_s h
      obtain ⟨g_159, h⟩ := gd_s h
      obtain ⟨x_161, e_162, h⟩ := lx_s h
      obtain ⟨g_163, h⟩ := gd_s h
      obtain ⟨m_164, e_165, h⟩ := up_s h
      have E_168 := ext_up e_165 (And.left (fx_kF (c := 100) hF (by decide +kernel))) (And.left g_163)
      have w_169 := Kr.upC (y := (-9)) (Kr.rf (W := fW_X12_canGoOn) (e := 0) hF) e_165 (ext_up e_165 (And.left (fx_kF (c := 100) hF (by decide +kernel))) (And.left g_163)) (And.left (fx_kF (c := 100) hF (by decide +kernel))) (fx_a hF (fx_kF (c := 100) hF (by decide +kernel)) (And.left g_163) (by decide +kernel)) (Or.inl rfl) (by decide +kernel) (fx_kF (c := 100) hF (by decide +kernel)) (And.left g_163) (by first | exact Or.inl (by decide) | exact Or.inr (by decide))
      obtain ⟨x_177, e_178, h⟩ := lx_s h
      obtain ⟨m_183, e_184, h⟩ := up_s h
      have E_187 := ext_up e_184 (And.left (fx_kF (c := 100) (Kr.fix w_169) (by decide +kernel))) (And.left g_101)
      have w_188 := Kr.upC (y := (-9)) w_169 e_184 (ext_up e_184 (And.left (fx_kF (c := 100) (Kr.fix w_169) (by decide +kernel))) (And.left g_101)) (And.left (fx_kF (c := 100) (Kr.fix w_169) (by decide +kernel))) (fx_a (Kr.fix w_169) (fx_kF (c := 100) (Kr.fix w_169) (by decide +kernel)) (And.left g_101) (by decide +kernel)) (Or.inl rfl) (by decide +kernel) (fx_kF (c := 100) (Kr.fix w_169) (by decide +kernel)) (And.left g_101) (by first | exact Or.inl (by decide) | exact Or.inr (by decide))
      obtain ⟨m_195, e_196, h⟩ := up_s h
      have E_199 := ext_up e_196 (And.left (fx_kF (c := 100) (Kr.fix w_188) (by decide +kernel))) (And.left g_6)
      have w_200 := Kr.upC (y := (-9)) w_188 e_196 (ext_up e_196 (And.left (fx_kF (c := 100) (Kr.fix w_188) (by decide +kernel))) (And.left g_6)) (And.left (fx_kF (c := 100) (Kr.fix w_188) (by decide +kernel))) (fx_a (Kr.fix w_188) (fx_kF (c := 100) (Kr.fix w_188) (by decide +kernel)) (And.left g_6) (by decide +kernel)) (Or.inl rfl) (by decide +kernel) (fx_kF (c := 100) (Kr.fix w_188) (by decide +kernel)) (And.left g_6) (by first | exact Or.inl (by decide) | exact Or.inr (by decide))
      obtain ⟨x_208, e_209, h⟩ := lx_s h
      obtain ⟨m_214, e_215, h⟩ := up_s h
      have E_218 := ext_up e_215 (And.left (fx_kF (c := 100) (Kr.fix w_200) (by decide +kernel))) (And.left g_6)
      have w_219 := Kr.upC (y := (-9)) w_200 e_215 (ext_up e_215 (And.left (fx_kF (c := 100) (Kr.fix w_200) (by decide +kernel))) (And.left g_6)) (And.left (fx_kF (c := 100) (Kr.fix w_200) (by decide +kernel))) (fx_a (Kr.fix w_200) (fx_kF (c := 100) (Kr.fix w_200) (by decide +kernel)) (And.left g_6) (by decide +kernel)) (Or.inl rfl) (by decide +kernel) (fx_kF (c := 100) (Kr.fix w_200) (by decide +kernel)) (And.left g_6) (by first | exact Or.inl (by decide) | exact Or.inr (by decide))
      exact kwj_X12_canGoOn_140 (Kr.fix w_219) (fun f => hQ (Kr.trS w_219 f)) h
    · exact kwj_X12_canGoOn_100 hF hQ h
  · exact kwj_X12_canGoOn_100 hF hQ h
set_option maxHeartbeats 4000000 in
theorem kwj_X12_walks_96 {P : Prop} {m : MM} {y1 : Int} {rz : Int} {rm : MM} {c : Int → MM → Option (Int × MM)} (hF : Fix m)
  (hc : ∀ mq : MM, Kr fW_X12_walks 0 0 m mq → ∀ {z2 : Int}, c z2 mq = some (rz, rm) → P) (hQ : Kr fW_X12_walks 0 0 m rm → P)
  (h : fj_X12_walks_96 c y1 m = some (rz, rm)) : P := by
  unfold fj_X12_walks_96 at h
  obtain ⟨x_116, hc_115, h⟩ := bp_s h
  rcases it_s h with ⟨hp_131, h⟩ | ⟨hp_131, h⟩
  · exact hc m (Kr.rf (W := fW_X12_walks) (e := 0) hF) h
  · obtain ⟨x_133, hc_132, h⟩ := bp_s h
    rcases it_s h with ⟨hp_141, h⟩ | ⟨hp_141, h⟩
    · exact hc m (Kr.rf (W := fW_X12_walks) (e := 0) hF) h
    · obtain ⟨g_147, h⟩ := gd_s h
      obtain ⟨x_149, e_150, h⟩ := lx_s h
      rcases it_s h with ⟨hp_151, h⟩ | ⟨hp_151, h⟩
      · exact hc m (Kr.rf (W := fW_X12_walks) (e := 0) hF) h
      · obtain ⟨x_153, m_154, hc_152, h⟩ := bd_s h
        have w_161 := (kw_X12_canGoOn hF hc_152)
        have E_159 := Kr.ext w_161
        have w_162 := Kr.tr0 (Kr.rf (W := fW_X12_walks) (e := 0) hF) w_161 (by decide +kernel)
        exact hc m_154 w_162 h
set_option maxHeartbeats 4000000 in
theorem kwl_X12_walks_6 {P : Prop} {mb : MM} {y1 : Int} {rz : Int} {rm : MM} (hF0 : Fix mb) (hQ : Kr fW_X12_walks 0 0 mb rm → P) :
  ∀ (n : Nat) {m : MM} {y2 : Int} , Kr fW_X12_walks 0 0 mb m → fl_X12_walks_6 y1 n y2 m = some (rz, rm) → P := by
  intro n
  induction n with
  | zero => intro m y2 w h; cases h
  | succ n ih0 =>
    intro m y2 w h
    have ih : ∀ mq : MM, Kr fW_X12_walks 0 0 mb mq → ∀ {z2 : Int}, fl_X12_walks_6 y1 n z2 mq = some (rz, rm) → P := fun mq b => by intros; exact ih0 b ‹_›
    unfold fl_X12_walks_6 at h
    rcases it_s h with ⟨hp_17, h⟩ | ⟨hp_17, h⟩
    · cases h
      exact hQ w
    · obtain ⟨x_19, hc_18, h⟩ := bp_s h
      rcases it_s h with ⟨hp_27, h⟩ | ⟨hp_27, h⟩
      · cases h
        exact hQ w
      · obtain ⟨g_33, h⟩ := gd_s h
        obtain ⟨x_35, e_36, h⟩ := lx_s h
        rcases it_s h with ⟨hp_37, h⟩ | ⟨hp_37, h⟩
        · obtain ⟨x_44, e_45, h⟩ := lx_s h
          obtain ⟨x_57, e_58, h⟩ := lx_s h
          obtain ⟨g_61, h⟩ := gd_s h
          obtain ⟨x_63, e_64, h⟩ := lx_s h
          obtain ⟨x_70, e_71, h⟩ := lx_s h
          obtain ⟨g_76, h⟩ := gd_s h
          obtain ⟨x_78, e_79, h⟩ := lx_s h
          rcases it_s h with ⟨hp_80, h⟩ | ⟨hp_80, h⟩
          · obtain ⟨x_84, e_85, h⟩ := lx_s h
            rcases it_s h with ⟨hp_88, h⟩ | ⟨hp_88, h⟩
            · obtain ⟨x_165, m_166, hc_164, h⟩ := bd_s h
              have w_173 := (kw_X12_spins (Kr.fix w) hc_164)
              have E_171 := Kr.ext w_173
              have w_174 := Kr.tr0 w w_173 (by decide +kernel)
              exact kwj_X12_walks_96 (Kr.fix w_174) (fun mq f => ih mq (Kr.trS w_174 f)) (fun f => hQ (Kr.trS w_174 f)) h
            · obtain ⟨m_96, e_97, h⟩ := up_s h
              have E_100 := ext_up e_97 (And.left (fx_kF (c := 13) (Kr.fix w) (by decide +kernel))) (by decide)
              have w_101 := Kr.upC (y := 113) w e_97 (ext_up e_97 (And.left (fx_kF (c := 13) (Kr.fix w) (by decide +kernel))) (by decide)) (And.left (fx_kF (c := 13) (Kr.fix w) (by decide +kernel))) (fx_f (j := 113) (Kr.fix w) (fx_kF (c := 13) (Kr.fix w) (by decide +kernel)) (by decide +kernel)) (Or.inr rfl) (by decide +kernel) (fx_kF (c := 13) (Kr.fix w) (by decide +kernel)) (by decide) (by first | exact Or.inl (by decide) | exact Or.inr (by decide))
              obtain ⟨x_104, m_105, hc_103, h⟩ := bd_s h
              have w_112 := (kw_X12_does (Kr.fix w_101) hc_103)
              have E_110 := Kr.ext w_112
              have w_113 := Kr.tr0 w_101 w_112 (by decide +kernel)
              exact kwj_X12_walks_96 (Kr.fix w_113) (fun mq f => ih mq (Kr.trS w_113 f)) (fun f => hQ (Kr.trS w_113 f)) h
          · obtain ⟨x_177, m_178, hc_176, h⟩ := bd_s h
            have w_185 := (kw_X12_endsBranch (Kr.fix w) hc_176)
            have E_183 := Kr.ext w_185
            have w_186 := Kr.tr0 w w_185 (by decide +kernel)
            exact kwj_X12_walks_96 (Kr.fix w_186) (fun mq f => ih mq (Kr.trS w_186 f)) (fun f => hQ (Kr.trS w_186 f)) h
        · cases h
          exact hQ w
set_option maxHeartbeats 4000000 in
theorem kw_X12_walks {m0 : MM} {p1 : Int} {rz : Int} {rm : MM} (hF : Fix m0)
  (h : fm_X12_walks p1 m0 = some (rz, rm)) : Kr fW_X12_walks 0 0 m0 rm := by
  have hQ : Kr fW_X12_walks 0 0 m0 rm → Kr fW_X12_walks 0 0 m0 rm := id
  unfold fm_X12_walks at h
  obtain ⟨x_2, hc_1, h⟩ := bp_s h
  refine kwl_X12_walks_6 hF  hQ BIG (Kr.rf hF) h
set_option maxHeartbeats 4000000 in
theorem kwl_X12_goOn_7 {P : Prop} {mb : MM} {rz : Int} {rm : MM} (hF0 : Fix mb) (hQ : Kr fW_X12_goOn 0 0 mb rm → P) :
  ∀ (n : Nat) {m : MM} {y1 : Int} , Kr fW_X12_goOn 0 0 mb m → fl_X12_goOn_7 n y1 m = some (rz, rm) → P := by
  intro n
  induction n with
  | zero => intro m y1 w h; cases h
  | succ n ih0 =>
    intro m y1 w h
    have ih : ∀ mq : MM, Kr fW_X12_goOn 0 0 mb mq → ∀ {z1 : Int}, fl_X12_goOn_7 n z1 mq = some (rz, rm) → P := fun mq b => by intros; exact ih0 b ‹_›
    unfold fl_X12_goOn_7 at h
    obtain ⟨x_19, e_20, h⟩ := lx_s h
    rcases it_s h with ⟨hp_21, h⟩ | ⟨hp_21, h⟩
    · obtain ⟨x_23, hc_22, h⟩ := bp_s h
      rcases it_s h with ⟨hp_31, h⟩ | ⟨hp_31, h⟩
      · cases h
        exact hQ w
      · obtain ⟨x_33, m_34, hc_32, h⟩ := bd_s h
        have w_41 := (kw_X12_canGoOn (Kr.fix w) hc_32)
        have E_39 := Kr.ext w_41
        have w_42 := Kr.tr0 w w_41 (by decide +kernel)
        rcases it_s h with ⟨hp_44, h⟩ | ⟨hp_44, h⟩
        · obtain ⟨x_77, e_78, h⟩ := lx_s h
          exact ih m_34 w_42 h
        · obtain ⟨g_50, h⟩ := gd_s h
          obtain ⟨x_52, e_53, h⟩ := lx_s h
          obtain ⟨x_55, m_56, hc_54, h⟩ := bd_s h
          have w_63 := (kw_X12_walks (Kr.fix w_42) hc_54)
          have E_61 := Kr.ext w_63
          have w_64 := Kr.tr0 w_42 w_63 (by decide +kernel)
          exact ih m_56 w_64 h
    · cases h
      exact hQ w
set_option maxHeartbeats 4000000 in
theorem kw_X12_goOn {m0 : MM} {rz : Int} {rm : MM} (hF : Fix m0)
  (h : fm_X12_goOn m0 = some (rz, rm)) : Kr fW_X12_goOn 0 0 m0 rm := by
  have hQ : Kr fW_X12_goOn 0 0 m0 rm → Kr fW_X12_goOn 0 0 m0 rm := id
  unfold fm_X12_goOn at h
  obtain ⟨m_3, e_4, h⟩ := up_s h
  have E_7 := ext_up e_4 (And.left (fx_kF (c := 13) hF (by decide +kernel))) (by decide)
  have w_8 := Kr.upC (y := 113) (Kr.rf (W := fW_X12_goOn) (e := 0) hF) e_4 (ext_up e_4 (And.left (fx_kF (c := 13) hF (by decide +kernel))) (by decide)) (And.left (fx_kF (c := 13) hF (by decide +kernel))) (fx_f (j := 113) hF (fx_kF (c := 13) hF (by decide +kernel)) (by decide +kernel)) (Or.inr rfl) (by decide +kernel) (fx_kF (c := 13) hF (by decide +kernel)) (by decide) (by first | exact Or.inl (by decide) | exact Or.inr (by decide))
  refine kwl_X12_goOn_7 (Kr.fix w_8)  (fun f => hQ (Kr.trS w_8 f)) BIG (Kr.rf (Kr.fix w_8)) h
set_option maxHeartbeats 4000000 in
theorem kwj_X12_comesBack_57 {P : Prop} {m : MM} {y4 : Int} {rz : Int} {rm : MM} (hF : Fix m) (hQ : Kr fW_X12_comesBack 0 0 m rm → P)
  (h : fj_X12_comesBack_57 y4 m = some (rz, rm)) : P := by
  unfold fj_X12_comesBack_57 at h
  obtain ⟨x_58, m_59, hc_57, h⟩ := bd_s h
  have w_66 := (kw_X12_failsBranch hF hc_57)
  have E_64 := Kr.ext w_66
  have w_67 := Kr.tr0 (Kr.rf (W := fW_X12_comesBack) (e := 0) hF) w_66 (by decide +kernel)
  cases h
  exact hQ w_67
set_option maxHeartbeats 4000000 in
theorem kwj_X12_comesBack_88 {P : Prop} {m : MM} {y4 : Int} {rz : Int} {rm : MM} (hF : Fix m) (hQ : Kr fW_X12_comesBack 0 0 m rm → P)
  (h : fj_X12_comesBack_88 y4 m = some (rz, rm)) : P := by
  unfold fj_X12_comesBack_88 at h
  obtain ⟨g_88, h⟩ := gd_s h
  obtain ⟨x_90, e_91, h⟩ := lx_s h
  obtain ⟨m_96, e_97, h⟩ := up_s h
  have E_100 := ext_up e_97 (And.left (fx_kF (c := 100) hF (by decide +kernel))) (And.left g_88)
  have w_101 := Kr.upC (y := (-9)) (Kr.rf (W := fW_X12_comesBack) (e := 0) hF) e_97 (ext_up e_97 (And.left (fx_kF (c := 100) hF (by decide +kernel))) (And.left g_88)) (And.left (fx_kF (c := 100) hF (by decide +kernel))) (fx_a hF (fx_kF (c := 100) hF (by decide +kernel)) (And.left g_88) (by decide +kernel)) (Or.inl rfl) (by decide +kernel) (fx_kF (c := 100) hF (by decide +kernel)) (And.left g_88) (by first | exact Or.inl (by decide) | exact Or.inr (by decide))
  cases h
  exact hQ w_101
set_option maxHeartbeats 4000000 in
theorem kwj_X12_comesBack_30 {P : Prop} {m : MM} {y1 y3 y4 s0 : Int} {rz : Int} {rm : MM} (hF : Fix m) (hQ : Kr fW_X12_comesBack 0 0 m rm → P)
  (h : fj_X12_comesBack_30 y1 y3 y4 s0 m = some (rz, rm)) : P := by
  unfold fj_X12_comesBack_30 at h
  obtain ⟨g_45, h⟩ := gd_s h
  obtain ⟨m_46, e_47, h⟩ := up_s h
  have E_50 := ext_up e_47 (And.left (fx_kF (c := 100) hF (by decide +kernel))) (And.left g_45)
  have w_51 := Kr.upC (y := (-9)) (Kr.rf (W := fW_X12_comesBack) (e := 0) hF) e_47 (ext_up e_47 (And.left (fx_kF (c := 100) hF (by decide +kernel))) (And.left g_45)) (And.left (fx_kF (c := 100) hF (by decide +kernel))) (fx_a hF (fx_kF (c := 100) hF (by decide +kernel)) (And.left g_45) (by decide +kernel)) (Or.inl rfl) (by decide +kernel) (fx_kF (c := 100) hF (by decide +kernel)) (And.left g_45) (by first | exact Or.inl (by decide) | exact Or.inr (by decide))
  rcases it_s h with ⟨hp_53, h⟩ | ⟨hp_53, h⟩
  · rcases it_s h with ⟨hp_56, h⟩ | ⟨hp_56, h⟩
    · exact kwj_X12_comesBack_57 (Kr.fix w_51) (fun f => hQ (Kr.trS w_51 f)) h
    · rcases it_s h with ⟨hp_71, h⟩ | ⟨hp_71, h⟩
      · exact kwj_X12_comesBack_57 (Kr.fix w_51) (fun f => hQ (Kr.trS w_51 f)) h
      · obtain ⟨x_78, e_79, h⟩ := lx_s h
        rcases it_s h with ⟨hp_82, h⟩ | ⟨hp_82, h⟩
        · exact kwj_X12_comesBack_88 (Kr.fix w_51) (fun f => hQ (Kr.trS w_51 f)) h
        · obtain ⟨g_112, h⟩ := gd_s h
          obtain ⟨m_113, e_114, h⟩ := up_s h
          have E_117 := ext_up e_114 (And.left (fx_kF (c := 100) (Kr.fix w_51) (by decide +kernel))) (And.left g_112)
          have w_118 := Kr.upC (y := (-9)) w_51 e_114 (ext_up e_114 (And.left (fx_kF (c := 100) (Kr.fix w_51) (by decide +kernel))) (And.left g_112)) (And.left (fx_kF (c := 100) (Kr.fix w_51) (by decide +kernel))) (fx_a (Kr.fix w_51) (fx_kF (c := 100) (Kr.fix w_51) (by decide +kernel)) (And.left g_112) (by decide +kernel)) (Or.inl rfl) (by decide +kernel) (fx_kF (c := 100) (Kr.fix w_51) (by decide +kernel)) (And.left g_112) (by first | exact Or.inl (by decide) | exact Or.inr (by decide))
          exact kwj_X12_comesBack_88 (Kr.fix w_118) (fun f => hQ (Kr.trS w_118 f)) h
  · cases h
    exact hQ w_51
set_option maxHeartbeats 4000000 in
theorem kw_X12_comesBack {m0 : MM} {p1 p2 p3 : Int} {rz : Int} {rm : MM} (hF : Fix m0)
  (h : fm_X12_comesBack p1 p2 p3 m0 = some (rz, rm)) : Kr fW_X12_comesBack 0 0 m0 rm := by
  have hQ : Kr fW_X12_comesBack 0 0 m0 rm → Kr fW_X12_comesBack 0 0 m0 rm := id
  unfold fm_X12_comesBack at h
  obtain ⟨x_2, hc_1, h⟩ := bp_s h
  rcases it_s h with ⟨hp_18, h⟩ | ⟨hp_18, h⟩
  · cases h
    exact hQ (Kr.rf (W := fW_X12_comesBack) (e := 0) hF)
  · obtain ⟨g_24, h⟩ := gd_s h
    obtain ⟨x_26, e_27, h⟩ := lx_s h
    rcases it_s h with ⟨hp_30, h⟩ | ⟨hp_30, h⟩
    · exact kwj_X12_comesBack_30 hF hQ h
    · exact kwj_X12_comesBack_30 hF hQ h
set_option maxHeartbeats 4000000 in
theorem kwl_X12_isCancelled_7 {P : Prop} {mb : MM} {k28 : MM → Option (Int × MM)} {rz : Int} {rm : MM} (hF0 : Fix mb)
  (hk28 : ∀ mq : MM, Kr fW_X12_isCancelled 0 0 mb mq → k28 mq = some (rz, rm) → P) (hQ : Kr fW_X12_isCancelled 0 0 mb rm → P) :
  ∀ (n : Nat) {m : MM} {y1 : Int} , Kr fW_X12_isCancelled 0 0 mb m → fl_X12_isCancelled_7 k28 n y1 m = some (rz, rm) → P := by
  intro n
  induction n with
  | zero => intro m y1 w h; cases h
  | succ n ih0 =>
    intro m y1 w h
    have ih : ∀ mq : MM, Kr fW_X12_isCancelled 0 0 mb mq → ∀ {z1 : Int}, fl_X12_isCancelled_7 k28 n z1 mq = some (rz, rm) → P := fun mq b => by intros; exact ih0 b ‹_›
    unfold fl_X12_isCancelled_7 at h
    obtain ⟨x_19, e_20, h⟩ := lx_s h
    rcases it_s h with ⟨hp_21, h⟩ | ⟨hp_21, h⟩
    · obtain ⟨g_27, h⟩ := gd_s h
      obtain ⟨m_28, e_29, h⟩ := up_s h
      have E_32 := ext_up e_29 (And.left (fx_kF (c := 102) (Kr.fix w) (by decide +kernel))) (And.left g_27)
      have w_33 := Kr.upC (y := (-9)) w e_29 (ext_up e_29 (And.left (fx_kF (c := 102) (Kr.fix w) (by decide +kernel))) (And.left g_27)) (And.left (fx_kF (c := 102) (Kr.fix w) (by decide +kernel))) (fx_a (Kr.fix w) (fx_kF (c := 102) (Kr.fix w) (by decide +kernel)) (And.left g_27) (by decide +kernel)) (Or.inl rfl) (by decide +kernel) (fx_kF (c := 102) (Kr.fix w) (by decide +kernel)) (And.left g_27) (by first | exact Or.inl (by decide) | exact Or.inr (by decide))
      obtain ⟨x_40, e_41, h⟩ := lx_s h
      exact ih m_28 w_33 h
    · exact hk28 m w h
set_option maxHeartbeats 4000000 in
theorem kwl_X12_isCancelled_30 {P : Prop} {mb : MM} {rz : Int} {rm : MM} (hF0 : Fix mb) (hQ : Kr fW_X12_isCancelled 0 0 mb rm → P) :
  ∀ (n : Nat) {m : MM} {y1 : Int} , Kr fW_X12_isCancelled 0 0 mb m → fl_X12_isCancelled_30 n y1 m = some (rz, rm) → P := by
  intro n
  induction n with
  | zero => intro m y1 w h; cases h
  | succ n ih0 =>
    intro m y1 w h
    have ih : ∀ mq : MM, Kr fW_X12_isCancelled 0 0 mb mq → ∀ {z1 : Int}, fl_X12_isCancelled_30 n z1 mq = some (rz, rm) → P := fun mq b => by intros; exact ih0 b ‹_›
    unfold fl_X12_isCancelled_30 at h
    obtain ⟨x_64, e_65, h⟩ := lx_s h
    rcases it_s h with ⟨hp_66, h⟩ | ⟨hp_66, h⟩
    · obtain ⟨x_68, hc_67, h⟩ := bp_s h
      rcases it_s h with ⟨hp_76, h⟩ | ⟨hp_76, h⟩
      · cases h
        exact hQ w
      · obtain ⟨g_82, h⟩ := gd_s h
        obtain ⟨x_84, e_85, h⟩ := lx_s h
        rcases it_s h with ⟨hp_86, h⟩ | ⟨hp_86, h⟩
        · obtain ⟨x_97, m_98, hc_96, h⟩ := bd_s h
          have w_105 := (kw_X12_cancelsBranch (Kr.fix w) hc_96)
          have E_103 := Kr.ext w_105
          have w_106 := Kr.tr0 w w_105 (by decide +kernel)
          obtain ⟨x_113, e_114, h⟩ := lx_s h
          exact ih m_98 w_106 h
        · obtain ⟨x_92, e_93, h⟩ := lx_s h
          exact ih m w h
    · cases h
      exact hQ w
set_option maxHeartbeats 4000000 in
theorem kw_X12_isCancelled {m0 : MM} {rz : Int} {rm : MM} (hF : Fix m0)
  (h : fm_X12_isCancelled m0 = some (rz, rm)) : Kr fW_X12_isCancelled 0 0 m0 rm := by
  have hQ : Kr fW_X12_isCancelled 0 0 m0 rm → Kr fW_X12_isCancelled 0 0 m0 rm := id
  unfold fm_X12_isCancelled at h
  obtain ⟨m_3, e_4, h⟩ := up_s h
  have E_7 := ext_up e_4 (And.left (fx_kF (c := 13) hF (by decide +kernel))) (by decide)
  have w_8 := Kr.upC (y := 111) (Kr.rf (W := fW_X12_isCancelled) (e := 0) hF) e_4 (ext_up e_4 (And.left (fx_kF (c := 13) hF (by decide +kernel))) (by decide)) (And.left (fx_kF (c := 13) hF (by decide +kernel))) (fx_f (j := 111) hF (fx_kF (c := 13) hF (by decide +kernel)) (by decide +kernel)) (Or.inr rfl) (by decide +kernel) (fx_kF (c := 13) hF (by decide +kernel)) (by decide) (by first | exact Or.inl (by decide) | exact Or.inr (by decide))
  refine kwl_X12_isCancelled_7 (Kr.fix w_8) ?_ (fun f => hQ (Kr.trS w_8 f)) BIG (Kr.rf (Kr.fix w_8)) h
  intro m_50 w_53
  intro h
  have E_51 := Kr.ext w_53
  have w_54 := Kr.trS w_8 w_53
  refine kwl_X12_isCancelled_30 (Kr.fix w_54)  (fun f => hQ (Kr.trS w_54 f)) BIG (Kr.rf (Kr.fix w_54)) h
set_option maxHeartbeats 4000000 in
theorem kwj_X12_takes_126 {P : Prop} {m : MM} {rz : Int} {rm : MM} (hF : Fix m) (hQ : Kr fW_X12_takes 0 0 m rm → P)
  (h : fj_X12_takes_126 m = some (rz, rm)) : P := by
  unfold fj_X12_takes_126 at h
  obtain ⟨x_100, hc_99, h⟩ := bp_s h
  rcases it_s h with ⟨hp_108, h⟩ | ⟨hp_108, h⟩
  · cases h
    exact hQ (Kr.rf (W := fW_X12_takes) (e := 0) hF)
  · obtain ⟨x_110, m_111, hc_109, h⟩ := bd_s h
    have w_118 := (kw_X12_goOn hF hc_109)
    have E_116 := Kr.ext w_118
    have w_119 := Kr.tr0 (Kr.rf (W := fW_X12_takes) (e := 0) hF) w_118 (by decide +kernel)
    cases h
    exact hQ w_119
set_option maxHeartbeats 4000000 in
theorem kw_X12_takes {m0 : MM} {p1 : Int} {rz : Int} {rm : MM} (hF : Fix m0)
  (h : fm_X12_takes p1 m0 = some (rz, rm)) : Kr fW_X12_takes 0 0 m0 rm := by
  have hQ : Kr fW_X12_takes 0 0 m0 rm → Kr fW_X12_takes 0 0 m0 rm := id
  unfold fm_X12_takes at h
  obtain ⟨x_4, e_5, h⟩ := lx_s h
  obtain ⟨x_7, hc_6, h⟩ := bp_s h
  obtain ⟨x_24, hc_23, h⟩ := bp_s h
  obtain ⟨x_42, hc_41, h⟩ := bp_s h
  obtain ⟨x_61, hc_60, h⟩ := bp_s h
  obtain ⟨m_73, e_74, h⟩ := up_s h
  have E_77 := ext_up e_74 (And.left (fx_kF (c := 13) hF (by decide +kernel))) (by decide)
  have w_78 := Kr.upC (y := 118) (Kr.rf (W := fW_X12_takes) (e := 0) hF) e_74 (ext_up e_74 (And.left (fx_kF (c := 13) hF (by decide +kernel))) (by decide)) (And.left (fx_kF (c := 13) hF (by decide +kernel))) (fx_f (j := 118) hF (fx_kF (c := 13) hF (by decide +kernel)) (by decide +kernel)) (Or.inr rfl) (by decide +kernel) (fx_kF (c := 13) hF (by decide +kernel)) (by decide) (by first | exact Or.inl (by decide) | exact Or.inr (by decide))
  rcases it_s h with ⟨hp_80, h⟩ | ⟨hp_80, h⟩
  · obtain ⟨m_183, e_184, h⟩ := up_s h
    have E_187 := ext_up e_184 (And.left (fx_kF (c := 100) (Kr.fix w_78) (by decide +kernel))) (by decide)
    have w_188 := Kr.upC (y := (-9)) w_78 e_184 (ext_up e_184 (And.left (fx_kF (c := 100) (Kr.fix w_78) (by decide +kernel))) (by decide)) (And.left (fx_kF (c := 100) (Kr.fix w_78) (by decide +kernel))) (fx_a (Kr.fix w_78) (fx_kF (c := 100) (Kr.fix w_78) (by decide +kernel)) (by decide) (by decide +kernel)) (Or.inl rfl) (by decide +kernel) (fx_kF (c := 100) (Kr.fix w_78) (by decide +kernel)) (by decide) (by first | exact Or.inl (by decide) | exact Or.inr (by decide))
    obtain ⟨x_195, m_196, hc_194, h⟩ := bd_s h
    have w_203 := (kw_X12_begins (Kr.fix w_188) hc_194)
    have E_201 := Kr.ext w_203
    have w_204 := Kr.tr0 w_188 w_203 (by decide +kernel)
    exact kwj_X12_takes_126 (Kr.fix w_204) (fun f => hQ (Kr.trS w_204 f)) h
  · rcases it_s h with ⟨hp_83, h⟩ | ⟨hp_83, h⟩
    · obtain ⟨g_145, h⟩ := gd_s h
      obtain ⟨x_147, e_148, h⟩ := lx_s h
      obtain ⟨g_151, h⟩ := gd_s h
      obtain ⟨m_152, e_153, h⟩ := up_s h
      have E_156 := ext_up e_153 (And.left (fx_kF (c := 100) (Kr.fix w_78) (by decide +kernel))) (And.left g_151)
      have w_157 := Kr.upC (y := (-9)) w_78 e_153 (ext_up e_153 (And.left (fx_kF (c := 100) (Kr.fix w_78) (by decide +kernel))) (And.left g_151)) (And.left (fx_kF (c := 100) (Kr.fix w_78) (by decide +kernel))) (fx_a (Kr.fix w_78) (fx_kF (c := 100) (Kr.fix w_78) (by decide +kernel)) (And.left g_151) (by decide +kernel)) (Or.inl rfl) (by decide +kernel) (fx_kF (c := 100) (Kr.fix w_78) (by decide +kernel)) (And.left g_151) (by first | exact Or.inl (by decide) | exact Or.inr (by decide))
      obtain ⟨x_165, e_166, h⟩ := lx_s h
      obtain ⟨m_171, e_172, h⟩ := up_s h
      have E_175 := ext_up e_172 (And.left (fx_kF (c := 100) (Kr.fix w_157) (by decide +kernel))) (And.left g_145)
      have w_176 := Kr.upC (y := (-9)) w_157 e_172 (ext_up e_172 (And.left (fx_kF (c := 100) (Kr.fix w_157) (by decide +kernel))) (And.left g_145)) (And.left (fx_kF (c := 100) (Kr.fix w_157) (by decide +kernel))) (fx_a (Kr.fix w_157) (fx_kF (c := 100) (Kr.fix w_157) (by decide +kernel)) (And.left g_145) (by decide +kernel)) (Or.inl rfl) (by decide +kernel) (fx_kF (c := 100) (Kr.fix w_157) (by decide +kernel)) (And.left g_145) (by first | exact Or.inl (by decide) | exact Or.inr (by decide))
      exact kwj_X12_takes_126 (Kr.fix w_176) (fun f => hQ (Kr.trS w_176 f)) h
    · rcases it_s h with ⟨hp_86, h⟩ | ⟨hp_86, h⟩
      · obtain ⟨x_122, m_123, hc_121, h⟩ := bd_s h
        have w_130 := (kw_X12_isCancelled (Kr.fix w_78) hc_121)
        have E_128 := Kr.ext w_130
        have w_131 := Kr.tr0 w_78 w_130 (by decide +kernel)
        exact kwj_X12_takes_126 (Kr.fix w_131) (fun f => hQ (Kr.trS w_131 f)) h
      · obtain ⟨x_88, m_89, hc_87, h⟩ := bd_s h
        have w_96 := (kw_X12_comesBack (Kr.fix w_78) hc_87)
        have E_94 := Kr.ext w_96
        have w_97 := Kr.tr0 w_78 w_96 (by decide +kernel)
        exact kwj_X12_takes_126 (Kr.fix w_97) (fun f => hQ (Kr.trS w_97 f)) h
set_option maxHeartbeats 4000000 in
theorem kwj_X12_goesBy_87 {P : Prop} {m : MM} {y1 : Int} {rz : Int} {rm : MM} {c : MM → Option (Int × MM)} (hF : Fix m)
  (hc : ∀ mq : MM, Kr fW_X12_goesBy 0 0 m mq → c mq = some (rz, rm) → P) (hQ : Kr fW_X12_goesBy 0 0 m rm → P)
  (h : fj_X12_goesBy_87 c y1 m = some (rz, rm)) : P := by
  unfold fj_X12_goesBy_87 at h
  obtain ⟨x_63, e_64, h⟩ := lx_s h
  obtain ⟨m_69, e_70, h⟩ := up_s h
  have E_73 := ext_up e_70 (And.left (fx_kF (c := 13) hF (by decide +kernel))) (by decide)
  have w_74 := Kr.upC (y := 126) (Kr.rf (W := fW_X12_goesBy) (e := 0) hF) e_70 (ext_up e_70 (And.left (fx_kF (c := 13) hF (by decide +kernel))) (by decide)) (And.left (fx_kF (c := 13) hF (by decide +kernel))) (fx_f (j := 126) hF (fx_kF (c := 13) hF (by decide +kernel)) (by decide +kernel)) (Or.inr rfl) (by decide +kernel) (fx_kF (c := 13) hF (by decide +kernel)) (by decide) (by first | exact Or.inl (by decide) | exact Or.inr (by decide))
  exact hc m_69 w_74 h
set_option maxHeartbeats 4000000 in
theorem kwj_X12_goesBy_51 {P : Prop} {m : MM} {y1 : Int} {rz : Int} {rm : MM} {c : MM → Option (Int × MM)} (hF : Fix m)
  (hc : ∀ mq : MM, Kr fW_X12_goesBy 0 0 m mq → c mq = some (rz, rm) → P) (hQ : Kr fW_X12_goesBy 0 0 m rm → P)
  (h : fj_X12_goesBy_51 c y1 m = some (rz, rm)) : P := by
  unfold fj_X12_goesBy_51 at h
  obtain ⟨x_41, e_42, h⟩ := lx_s h
  obtain ⟨x_46, e_47, h⟩ := lx_s h
  obtain ⟨x_49, hc_48, h⟩ := bp_s h
  rcases it_s h with ⟨hp_59, h⟩ | ⟨hp_59, h⟩
  · obtain ⟨x_77, m_78, hc_76, h⟩ := bd_s h
    have w_85 := (kw_X12_nextCommand hF hc_76)
    have E_83 := Kr.ext w_85
    have w_86 := Kr.tr0 (Kr.rf (W := fW_X12_goesBy) (e := 0) hF) w_85 (by decide +kernel)
    obtain ⟨x_91, e_92, h⟩ := lx_s h
    rcases it_s h with ⟨hp_93, h⟩ | ⟨hp_93, h⟩
    · obtain ⟨x_95, m_96, hc_94, h⟩ := bd_s h
      have w_103 := (kw_X12_nextCommand (Kr.fix w_86) hc_94)
      have E_101 := Kr.ext w_103
      have w_104 := Kr.tr0 w_86 w_103 (by decide +kernel)
      obtain ⟨x_107, m_108, hc_106, h⟩ := bd_s h
      have w_115 := (kw_X12_differs (Kr.fix w_104) hc_106)
      have E_113 := Kr.ext w_115
      have w_116 := Kr.tr0 w_104 w_115 (by decide +kernel)
      exact kwj_X12_goesBy_87 (Kr.fix w_116) (fun mq f => hc mq (Kr.trS w_116 f)) (fun f => hQ (Kr.trS w_116 f)) h
    · exact kwj_X12_goesBy_87 (Kr.fix w_86) (fun mq f => hc mq (Kr.trS w_86 f)) (fun f => hQ (Kr.trS w_86 f)) h
  · exact kwj_X12_goesBy_87 hF hc hQ h
set_option maxHeartbeats 4000000 in
theorem kwl_X12_goesBy_0 {P : Prop} {mb : MM} {y1 : Int} {rz : Int} {rm : MM} (hF0 : Fix mb) (hQ : Kr fW_X12_goesBy 0 0 mb rm → P) :
  ∀ (n : Nat) {m : MM} , Kr fW_X12_goesBy 0 0 mb m → fl_X12_goesBy_0 y1 n m = some (rz, rm) → P := by
  intro n
  induction n with
  | zero => intro m w h; cases h
  | succ n ih0 =>
    intro m w h
    have ih : ∀ mq : MM, Kr fW_X12_goesBy 0 0 mb mq → fl_X12_goesBy_0 y1 n mq = some (rz, rm) → P := fun mq b => by intros; exact ih0 b ‹_›
    unfold fl_X12_goesBy_0 at h
    obtain ⟨x_4, e_5, h⟩ := lx_s h
    obtain ⟨x_9, e_10, h⟩ := lx_s h
    rcases it_s h with ⟨hp_11, h⟩ | ⟨hp_11, h⟩
    · obtain ⟨x_15, e_16, h⟩ := lx_s h
      rcases it_s h with ⟨hp_17, h⟩ | ⟨hp_17, h⟩
      · obtain ⟨x_21, e_22, h⟩ := lx_s h
        obtain ⟨x_27, hc_26, h⟩ := bp_s h
        rcases it_s h with ⟨hp_37, h⟩ | ⟨hp_37, h⟩
        · obtain ⟨x_125, hc_124, h⟩ := bp_s h
          rcases it_s h with ⟨hp_133, h⟩ | ⟨hp_133, h⟩
          · cases h
            exact hQ w
          · exact kwj_X12_goesBy_51 (Kr.fix w) (fun mq f => ih mq (Kr.trS w f)) (fun f => hQ (Kr.trS w f)) h
        · exact kwj_X12_goesBy_51 (Kr.fix w) (fun mq f => ih mq (Kr.trS w f)) (fun f => hQ (Kr.trS w f)) h
      · cases h
        exact hQ w
    · cases h
      exact hQ w
set_option maxHeartbeats 4000000 in
theorem kw_X12_goesBy {m0 : MM} {p1 : Int} {rz : Int} {rm : MM} (hF : Fix m0)
  (h : fm_X12_goesBy p1 m0 = some (rz, rm)) : Kr fW_X12_goesBy 0 0 m0 rm := by
  have hQ : Kr fW_X12_goesBy 0 0 m0 rm → Kr fW_X12_goesBy 0 0 m0 rm := id
  unfold fm_X12_goesBy at h
  refine kwl_X12_goesBy_0 hF  hQ BIG (Kr.rf hF) h
set_option maxHeartbeats 4000000 in
theorem kwl_X12_tellsRun_30 {P : Prop} {mb : MM} {y1 y3 y5 : Int} {k51 : MM → Option (Int × MM)} {rz : Int} {rm : MM} (hF0 : Fix mb)
  (hk51 : ∀ mq : MM, Kr fW_X12_tellsRun 0 0 mb mq → k51 mq = some (rz, rm) → P) (hQ : Kr fW_X12_tellsRun 0 0 mb rm → P) :
  ∀ (n : Nat) {m : MM} {y6 : Int} , Kr fW_X12_tellsRun 0 0 mb m → fl_X12_tellsRun_30 y1 y3 y5 k51 n y6 m = some (rz, rm) → P := by
  intro n
  induction n with
  | zero => intro m y6 w h; cases h
  | succ n ih0 =>
    intro m y6 w h
    have ih : ∀ mq : MM, Kr fW_X12_tellsRun 0 0 mb mq → ∀ {z6 : Int}, fl_X12_tellsRun_30 y1 y3 y5 k51 n z6 mq = some (rz, rm) → P := fun mq b => by intros; exact ih0 b ‹_›
    unfold fl_X12_tellsRun_30 at h
    rcases it_s h with ⟨hp_49, h⟩ | ⟨hp_49, h⟩
    · obtain ⟨g_55, h⟩ := gd_s h
      obtain ⟨m_56, e_57, h⟩ := up_s h
      have E_60 := ext_up e_57 (And.left (fx_kF (c := 100) (Kr.fix w) (by decide +kernel))) (And.left g_55)
      have w_61 := Kr.upC (y := (-9)) w e_57 (ext_up e_57 (And.left (fx_kF (c := 100) (Kr.fix w) (by decide +kernel))) (And.left g_55)) (And.left (fx_kF (c := 100) (Kr.fix w) (by decide +kernel))) (fx_a (Kr.fix w) (fx_kF (c := 100) (Kr.fix w) (by decide +kernel)) (And.left g_55) (by decide +kernel)) (Or.inl rfl) (by decide +kernel) (fx_kF (c := 100) (Kr.fix w) (by decide +kernel)) (And.left g_55) (by first | exact Or.inl (by decide) | exact Or.inr (by decide))
      obtain ⟨x_68, e_69, h⟩ := lx_s h
      exact ih m_56 w_61 h
    · exact hk51 m w h
set_option maxHeartbeats 4000000 in
theorem kwl_X12_tellsRun_54 {P : Prop} {mb : MM} {y1 y3 y5 : Int} {k82 : MM → Option (Int × MM)} {rz : Int} {rm : MM} (hF0 : Fix mb)
  (hk82 : ∀ mq : MM, Kr fW_X12_tellsRun 0 0 mb mq → k82 mq = some (rz, rm) → P) (hQ : Kr fW_X12_tellsRun 0 0 mb rm → P) :
  ∀ (n : Nat) {m : MM} {y6 : Int} , Kr fW_X12_tellsRun 0 0 mb m → fl_X12_tellsRun_54 y1 y3 y5 k82 n y6 m = some (rz, rm) → P := by
  intro n
  induction n with
  | zero => intro m y6 w h; cases h
  | succ n ih0 =>
    intro m y6 w h
    have ih : ∀ mq : MM, Kr fW_X12_tellsRun 0 0 mb mq → ∀ {z6 : Int}, fl_X12_tellsRun_54 y1 y3 y5 k82 n z6 mq = some (rz, rm) → P := fun mq b => by intros; exact ih0 b ‹_›
    unfold fl_X12_tellsRun_54 at h
    rcases it_s h with ⟨hp_106, h⟩ | ⟨hp_106, h⟩
    · obtain ⟨g_112, h⟩ := gd_s h
      obtain ⟨m_113, e_114, h⟩ := up_s h
      have E_117 := ext_up e_114 (And.left (fx_kF (c := 100) (Kr.fix w) (by decide +kernel))) (And.left g_112)
      have w_118 := Kr.upC (y := (-9)) w e_114 (ext_up e_114 (And.left (fx_kF (c := 100) (Kr.fix w) (by decide +kernel))) (And.left g_112)) (And.left (fx_kF (c := 100) (Kr.fix w) (by decide +kernel))) (fx_a (Kr.fix w) (fx_kF (c := 100) (Kr.fix w) (by decide +kernel)) (And.left g_112) (by decide +kernel)) (Or.inl rfl) (by decide +kernel) (fx_kF (c := 100) (Kr.fix w) (by decide +kernel)) (And.left g_112) (by first | exact Or.inl (by decide) | exact Or.inr (by decide))
      obtain ⟨m_125, e_126, h⟩ := up_s h
      have E_129 := ext_up e_126 (And.left (fx_kF (c := 100) (Kr.fix w_118) (by decide +kernel))) (And.left g_112)
      have w_130 := Kr.upC (y := (-9)) w_118 e_126 (ext_up e_126 (And.left (fx_kF (c := 100) (Kr.fix w_118) (by decide +kernel))) (And.left g_112)) (And.left (fx_kF (c := 100) (Kr.fix w_118) (by decide +kernel))) (fx_a (Kr.fix w_118) (fx_kF (c := 100) (Kr.fix w_118) (by decide +kernel)) (And.left g_112) (by decide +kernel)) (Or.inl rfl) (by decide +kernel) (fx_kF (c := 100) (Kr.fix w_118) (by decide +kernel)) (And.left g_112) (by first | exact Or.inl (by decide) | exact Or.inr (by decide))
      obtain ⟨x_137, e_138, h⟩ := lx_s h
      exact ih m_125 w_130 h
    · exact hk82 m w h
set_option maxHeartbeats 4000000 in
theorem kwj_X12_tellsRun_222 {P : Prop} {m : MM} {y1 y3 y6 : Int} {rz : Int} {rm : MM} {c : Int → MM → Option (Int × MM)} (hF : Fix m)
  (hc : ∀ mq : MM, Kr fW_X12_tellsRun 0 0 m mq → ∀ {z6 : Int}, c z6 mq = some (rz, rm) → P) (hQ : Kr fW_X12_tellsRun 0 0 m rm → P)
  (h : fj_X12_tellsRun_222 c y1 y3 y6 m = some (rz, rm)) : P := by
  unfold fj_X12_tellsRun_222 at h
  obtain ⟨x_355, e_356, h⟩ := lx_s h
  rcases it_s h with ⟨hp_357, h⟩ | ⟨hp_357, h⟩
  · obtain ⟨x_372, e_373, h⟩ := lx_s h
    obtain ⟨x_375, m_376, hc_374, h⟩ := bd_s h
    have w_383 := (kw_X12_goesBy hF hc_374)
    have E_381 := Kr.ext w_383
    have w_384 := Kr.tr0 (Kr.rf (W := fW_X12_tellsRun) (e := 0) hF) w_383 (by decide +kernel)
    obtain ⟨x_391, e_392, h⟩ := lx_s h
    exact hc m_376 w_384 h
  · obtain ⟨x_363, e_364, h⟩ := lx_s h
    exact hc m (Kr.rf (W := fW_X12_tellsRun) (e := 0) hF) h
set_option maxHeartbeats 4000000 in
theorem kwl_X12_tellsRun_151 {P : Prop} {mb : MM} {y1 y3 : Int} {rz : Int} {rm : MM} (hF0 : Fix mb) (hQ : Kr fW_X12_tellsRun 0 0 mb rm → P) :
  ∀ (n : Nat) {m : MM} {y6 : Int} , Kr fW_X12_tellsRun 0 0 mb m → fl_X12_tellsRun_151 y1 y3 n y6 m = some (rz, rm) → P := by
  intro n
  induction n with
  | zero => intro m y6 w h; cases h
  | succ n ih0 =>
    intro m y6 w h
    have ih : ∀ mq : MM, Kr fW_X12_tellsRun 0 0 mb mq → ∀ {z6 : Int}, fl_X12_tellsRun_151 y1 y3 n z6 mq = some (rz, rm) → P := fun mq b => by intros; exact ih0 b ‹_›
    unfold fl_X12_tellsRun_151 at h
    obtain ⟨g_292, h⟩ := gd_s h
    obtain ⟨x_294, e_295, h⟩ := lx_s h
    rcases it_s h with ⟨hp_296, h⟩ | ⟨hp_296, h⟩
    · obtain ⟨x_300, e_301, h⟩ := lx_s h
      rcases it_s h with ⟨hp_302, h⟩ | ⟨hp_302, h⟩
      · obtain ⟨x_306, e_307, h⟩ := lx_s h
        rcases it_s h with ⟨hp_308, h⟩ | ⟨hp_308, h⟩
        · obtain ⟨x_310, hc_309, h⟩ := bp_s h
          rcases it_s h with ⟨hp_320, h⟩ | ⟨hp_320, h⟩
          · obtain ⟨x_326, e_327, h⟩ := lx_s h
            exact ih m w h
          · obtain ⟨m_339, e_340, h⟩ := up_s h
            have E_343 := ext_up e_340 (And.left (fx_kF (c := 13) (Kr.fix w) (by decide +kernel))) (by decide)
            have w_344 := Kr.upC (y := 117) w e_340 (ext_up e_340 (And.left (fx_kF (c := 13) (Kr.fix w) (by decide +kernel))) (by decide)) (And.left (fx_kF (c := 13) (Kr.fix w) (by decide +kernel))) (fx_f (j := 117) (Kr.fix w) (fx_kF (c := 13) (Kr.fix w) (by decide +kernel)) (by decide +kernel)) (Or.inr rfl) (by decide +kernel) (fx_kF (c := 13) (Kr.fix w) (by decide +kernel)) (by decide) (by first | exact Or.inl (by decide) | exact Or.inr (by decide))
            obtain ⟨x_349, e_350, h⟩ := lx_s h
            rcases it_s h with ⟨hp_351, h⟩ | ⟨hp_351, h⟩
            · obtain ⟨x_400, e_401, h⟩ := lx_s h
              obtain ⟨m_406, e_407, h⟩ := up_s h
              have E_410 := ext_up e_407 (And.left (fx_kF (c := 13) (Kr.fix w_344) (by decide +kernel))) (by decide)
              have w_411 := Kr.upC (y := 123) w_344 e_407 (ext_up e_407 (And.left (fx_kF (c := 13) (Kr.fix w_344) (by decide +kernel))) (by decide)) (And.left (fx_kF (c := 13) (Kr.fix w_344) (by decide +kernel))) (fx_f (j := 123) (Kr.fix w_344) (fx_kF (c := 13) (Kr.fix w_344) (by decide +kernel)) (by decide +kernel)) (Or.inr rfl) (by decide +kernel) (fx_kF (c := 13) (Kr.fix w_344) (by decide +kernel)) (by decide) (by first | exact Or.inl (by decide) | exact Or.inr (by decide))
              obtain ⟨x_414, m_415, hc_413, h⟩ := bd_s h
              have w_422 := (kw_X12_takes (Kr.fix w_411) hc_413)
              have E_420 := Kr.ext w_422
              have w_423 := Kr.tr0 w_411 w_422 (by decide +kernel)
              exact kwj_X12_tellsRun_222 (Kr.fix w_423) (fun mq f => ih mq (Kr.trS w_423 f)) (fun f => hQ (Kr.trS w_423 f)) h
            · exact kwj_X12_tellsRun_222 (Kr.fix w_344) (fun mq f => ih mq (Kr.trS w_344 f)) (fun f => hQ (Kr.trS w_344 f)) h
        · cases h
          exact hQ w
      · cases h
        exact hQ w
    · cases h
      exact hQ w
set_option maxHeartbeats 4000000 in
theorem kw_X12_tellsRun {m0 : MM} {p1 p2 p3 p4 p5 : Int} {rz : Int} {rm : MM} (hF : Fix m0)
  (h : fm_X12_tellsRun p1 p2 p3 p4 p5 m0 = some (rz, rm)) : Kr fW_X12_tellsRun 0 0 m0 rm := by
  have hQ : Kr fW_X12_tellsRun 0 0 m0 rm → Kr fW_X12_tellsRun 0 0 m0 rm := id
  unfold fm_X12_tellsRun at h
  obtain ⟨m_1, e_2, h⟩ := up_s h
  have E_5 := ext_up e_2 (And.left (fx_kF (c := 13) hF (by decide +kernel))) (by decide)
  have w_6 := Kr.upC (y := 88) (Kr.rf (W := fW_X12_tellsRun) (e := 0) hF) e_2 (ext_up e_2 (And.left (fx_kF (c := 13) hF (by decide +kernel))) (by decide)) (And.left (fx_kF (c := 13) hF (by decide +kernel))) (fx_f (j := 88) hF (fx_kF (c := 13) hF (by decide +kernel)) (by decide +kernel)) (Or.inr rfl) (by decide +kernel) (fx_kF (c := 13) hF (by decide +kernel)) (by decide) (by first | exact Or.inl (by decide) | exact Or.inr (by decide))
  obtain ⟨m_8, e_9, h⟩ := up_s h
  have E_12 := ext_up e_9 (And.left (fx_kF (c := 13) (Kr.fix w_6) (by decide +kernel))) (by decide)
  have w_13 := Kr.upC (y := 124) w_6 e_9 (ext_up e_9 (And.left (fx_kF (c := 13) (Kr.fix w_6) (by decide +kernel))) (by decide)) (And.left (fx_kF (c := 13) (Kr.fix w_6) (by decide +kernel))) (fx_f (j := 124) (Kr.fix w_6) (fx_kF (c := 13) (Kr.fix w_6) (by decide +kernel)) (by decide +kernel)) (Or.inr rfl) (by decide +kernel) (fx_kF (c := 13) (Kr.fix w_6) (by decide +kernel)) (by decide) (by first | exact Or.inl (by decide) | exact Or.inr (by decide))
  obtain ⟨m_15, e_16, h⟩ := up_s h
  have E_19 := ext_up e_16 (And.left (fx_kF (c := 13) (Kr.fix w_13) (by decide +kernel))) (by decide)
  have w_20 := Kr.upC (y := 125) w_13 e_16 (ext_up e_16 (And.left (fx_kF (c := 13) (Kr.fix w_13) (by decide +kernel))) (by decide)) (And.left (fx_kF (c := 13) (Kr.fix w_13) (by decide +kernel))) (fx_f (j := 125) (Kr.fix w_13) (fx_kF (c := 13) (Kr.fix w_13) (by decide +kernel)) (by decide +kernel)) (Or.inr rfl) (by decide +kernel) (fx_kF (c := 13) (Kr.fix w_13) (by decide +kernel)) (by decide) (by first | exact Or.inl (by decide) | exact Or.inr (by decide))
  obtain ⟨m_24, e_25, h⟩ := up_s h
  have E_28 := ext_up e_25 (And.left (fx_kF (c := 13) (Kr.fix w_20) (by decide +kernel))) (by decide)
  have w_29 := Kr.upC (y := 126) w_20 e_25 (ext_up e_25 (And.left (fx_kF (c := 13) (Kr.fix w_20) (by decide +kernel))) (by decide)) (And.left (fx_kF (c := 13) (Kr.fix w_20) (by decide +kernel))) (fx_f (j := 126) (Kr.fix w_20) (fx_kF (c := 13) (Kr.fix w_20) (by decide +kernel)) (by decide +kernel)) (Or.inr rfl) (by decide +kernel) (fx_kF (c := 13) (Kr.fix w_20) (by decide +kernel)) (by decide) (by first | exact Or.inl (by decide) | exact Or.inr (by decide))
  obtain ⟨m_31, e_32, h⟩ := up_s h
  have E_35 := ext_up e_32 (And.left (fx_kF (c := 13) (Kr.fix w_29) (by decide +kernel))) (by decide)
  have w_36 := Kr.upC (y := 89) w_29 e_32 (ext_up e_32 (And.left (fx_kF (c := 13) (Kr.fix w_29) (by decide +kernel))) (by decide)) (And.left (fx_kF (c := 13) (Kr.fix w_29) (by decide +kernel))) (fx_f (j := 89) (Kr.fix w_29) (fx_kF (c := 13) (Kr.fix w_29) (by decide +kernel)) (by decide +kernel)) (Or.inr rfl) (by decide +kernel) (fx_kF (c := 13) (Kr.fix w_29) (by decide +kernel)) (by decide) (by first | exact Or.inl (by decide) | exact Or.inr (by decide))
  refine kwl_X12_tellsRun_30 (Kr.fix w_36) ?_ (fun f => hQ (Kr.trS w_36 f)) BIG (Kr.rf (Kr.fix w_36)) h
  intro m_90 w_93
  intro h
  have E_91 := Kr.ext w_93
  have w_94 := Kr.trS w_36 w_93
  refine kwl_X12_tellsRun_54 (Kr.fix w_94) ?_ (fun f => hQ (Kr.trS w_94 f)) BIG (Kr.rf (Kr.fix w_94)) h
  intro m_159 w_162
  intro h
  have E_160 := Kr.ext w_162
  have w_163 := Kr.trS w_94 w_162
  obtain ⟨m_166, e_167, h⟩ := up_s h
  have E_170 := ext_up e_167 (And.left (fx_kF (c := 13) (Kr.fix w_163) (by decide +kernel))) (by decide)
  have w_171 := Kr.upC (y := 91) w_163 e_167 (ext_up e_167 (And.left (fx_kF (c := 13) (Kr.fix w_163) (by decide +kernel))) (by decide)) (And.left (fx_kF (c := 13) (Kr.fix w_163) (by decide +kernel))) (fx_f (j := 91) (Kr.fix w_163) (fx_kF (c := 13) (Kr.fix w_163) (by decide +kernel)) (by decide +kernel)) (Or.inr rfl) (by decide +kernel) (fx_kF (c := 13) (Kr.fix w_163) (by decide +kernel)) (by decide) (by first | exact Or.inl (by decide) | exact Or.inr (by decide))
  obtain ⟨m_175, e_176, h⟩ := up_s h
  have E_179 := ext_up e_176 (And.left (fx_kF (c := 13) (Kr.fix w_171) (by decide +kernel))) (by decide)
  have w_180 := Kr.upC (y := 92) w_171 e_176 (ext_up e_176 (And.left (fx_kF (c := 13) (Kr.fix w_171) (by decide +kernel))) (by decide)) (And.left (fx_kF (c := 13) (Kr.fix w_171) (by decide +kernel))) (fx_f (j := 92) (Kr.fix w_171) (fx_kF (c := 13) (Kr.fix w_171) (by decide +kernel)) (by decide +kernel)) (Or.inr rfl) (by decide +kernel) (fx_kF (c := 13) (Kr.fix w_171) (by decide +kernel)) (by decide) (by first | exact Or.inl (by decide) | exact Or.inr (by decide))
  obtain ⟨m_184, e_185, h⟩ := up_s h
  have E_188 := ext_up e_185 (And.left (fx_kF (c := 13) (Kr.fix w_180) (by decide +kernel))) (by decide)
  have w_189 := Kr.upC (y := 103) w_180 e_185 (ext_up e_185 (And.left (fx_kF (c := 13) (Kr.fix w_180) (by decide +kernel))) (by decide)) (And.left (fx_kF (c := 13) (Kr.fix w_180) (by decide +kernel))) (fx_f (j := 103) (Kr.fix w_180) (fx_kF (c := 13) (Kr.fix w_180) (by decide +kernel)) (by decide +kernel)) (Or.inr rfl) (by decide +kernel) (fx_kF (c := 13) (Kr.fix w_180) (by decide +kernel)) (by decide) (by first | exact Or.inl (by decide) | exact Or.inr (by decide))
  obtain ⟨m_193, e_194, h⟩ := up_s h
  have E_197 := ext_up e_194 (And.left (fx_kF (c := 13) (Kr.fix w_189) (by decide +kernel))) (by decide)
  have w_198 := Kr.upC (y := 105) w_189 e_194 (ext_up e_194 (And.left (fx_kF (c := 13) (Kr.fix w_189) (by decide +kernel))) (by decide)) (And.left (fx_kF (c := 13) (Kr.fix w_189) (by decide +kernel))) (fx_f (j := 105) (Kr.fix w_189) (fx_kF (c := 13) (Kr.fix w_189) (by decide +kernel)) (by decide +kernel)) (Or.inr rfl) (by decide +kernel) (fx_kF (c := 13) (Kr.fix w_189) (by decide +kernel)) (by decide) (by first | exact Or.inl (by decide) | exact Or.inr (by decide))
  obtain ⟨m_202, e_203, h⟩ := up_s h
  have E_206 := ext_up e_203 (And.left (fx_kF (c := 13) (Kr.fix w_198) (by decide +kernel))) (by decide)
  have w_207 := Kr.upC (y := 110) w_198 e_203 (ext_up e_203 (And.left (fx_kF (c := 13) (Kr.fix w_198) (by decide +kernel))) (by decide)) (And.left (fx_kF (c := 13) (Kr.fix w_198) (by decide +kernel))) (fx_f (j := 110) (Kr.fix w_198) (fx_kF (c := 13) (Kr.fix w_198) (by decide +kernel)) (by decide +kernel)) (Or.inr rfl) (by decide +kernel) (fx_kF (c := 13) (Kr.fix w_198) (by decide +kernel)) (by decide) (by first | exact Or.inl (by decide) | exact Or.inr (by decide))
  obtain ⟨m_211, e_212, h⟩ := up_s h
  have E_215 := ext_up e_212 (And.left (fx_kF (c := 13) (Kr.fix w_207) (by decide +kernel))) (by decide)
  have w_216 := Kr.upC (y := 111) w_207 e_212 (ext_up e_212 (And.left (fx_kF (c := 13) (Kr.fix w_207) (by decide +kernel))) (by decide)) (And.left (fx_kF (c := 13) (Kr.fix w_207) (by decide +kernel))) (fx_f (j := 111) (Kr.fix w_207) (fx_kF (c := 13) (Kr.fix w_207) (by decide +kernel)) (by decide +kernel)) (Or.inr rfl) (by decide +kernel) (fx_kF (c := 13) (Kr.fix w_207) (by decide +kernel)) (by decide) (by first | exact Or.inl (by decide) | exact Or.inr (by decide))
  obtain ⟨m_220, e_221, h⟩ := up_s h
  have E_224 := ext_up e_221 (And.left (fx_kF (c := 13) (Kr.fix w_216) (by decide +kernel))) (by decide)
  have w_225 := Kr.upC (y := 112) w_216 e_221 (ext_up e_221 (And.left (fx_kF (c := 13) (Kr.fix w_216) (by decide +kernel))) (by decide)) (And.left (fx_kF (c := 13) (Kr.fix w_216) (by decide +kernel))) (fx_f (j := 112) (Kr.fix w_216) (fx_kF (c := 13) (Kr.fix w_216) (by decide +kernel)) (by decide +kernel)) (Or.inr rfl) (by decide +kernel) (fx_kF (c := 13) (Kr.fix w_216) (by decide +kernel)) (by decide) (by first | exact Or.inl (by decide) | exact Or.inr (by decide))
  obtain ⟨m_229, e_230, h⟩ := up_s h
  have E_233 := ext_up e_230 (And.left (fx_kF (c := 13) (Kr.fix w_225) (by decide +kernel))) (by decide)
  have w_234 := Kr.upC (y := 114) w_225 e_230 (ext_up e_230 (And.left (fx_kF (c := 13) (Kr.fix w_225) (by decide +kernel))) (by decide)) (And.left (fx_kF (c := 13) (Kr.fix w_225) (by decide +kernel))) (fx_f (j := 114) (Kr.fix w_225) (fx_kF (c := 13) (Kr.fix w_225) (by decide +kernel)) (by decide +kernel)) (Or.inr rfl) (by decide +kernel) (fx_kF (c := 13) (Kr.fix w_225) (by decide +kernel)) (by decide) (by first | exact Or.inl (by decide) | exact Or.inr (by decide))
  obtain ⟨m_238, e_239, h⟩ := up_s h
  have E_242 := ext_up e_239 (And.left (fx_kF (c := 13) (Kr.fix w_234) (by decide +kernel))) (by decide)
  have w_243 := Kr.upC (y := 116) w_234 e_239 (ext_up e_239 (And.left (fx_kF (c := 13) (Kr.fix w_234) (by decide +kernel))) (by decide)) (And.left (fx_kF (c := 13) (Kr.fix w_234) (by decide +kernel))) (fx_f (j := 116) (Kr.fix w_234) (fx_kF (c := 13) (Kr.fix w_234) (by decide +kernel)) (by decide +kernel)) (Or.inr rfl) (by decide +kernel) (fx_kF (c := 13) (Kr.fix w_234) (by decide +kernel)) (by decide) (by first | exact Or.inl (by decide) | exact Or.inr (by decide))
  obtain ⟨m_247, e_248, h⟩ := up_s h
  have E_251 := ext_up e_248 (And.left (fx_kF (c := 13) (Kr.fix w_243) (by decide +kernel))) (by decide)
  have w_252 := Kr.upC (y := 117) w_243 e_248 (ext_up e_248 (And.left (fx_kF (c := 13) (Kr.fix w_243) (by decide +kernel))) (by decide)) (And.left (fx_kF (c := 13) (Kr.fix w_243) (by decide +kernel))) (fx_f (j := 117) (Kr.fix w_243) (fx_kF (c := 13) (Kr.fix w_243) (by decide +kernel)) (by decide +kernel)) (Or.inr rfl) (by decide +kernel) (fx_kF (c := 13) (Kr.fix w_243) (by decide +kernel)) (by decide) (by first | exact Or.inl (by decide) | exact Or.inr (by decide))
  obtain ⟨m_256, e_257, h⟩ := up_s h
  have E_260 := ext_up e_257 (And.left (fx_kF (c := 13) (Kr.fix w_252) (by decide +kernel))) (by decide)
  have w_261 := Kr.upC (y := 120) w_252 e_257 (ext_up e_257 (And.left (fx_kF (c := 13) (Kr.fix w_252) (by decide +kernel))) (by decide)) (And.left (fx_kF (c := 13) (Kr.fix w_252) (by decide +kernel))) (fx_f (j := 120) (Kr.fix w_252) (fx_kF (c := 13) (Kr.fix w_252) (by decide +kernel)) (by decide +kernel)) (Or.inr rfl) (by decide +kernel) (fx_kF (c := 13) (Kr.fix w_252) (by decide +kernel)) (by decide) (by first | exact Or.inl (by decide) | exact Or.inr (by decide))
  obtain ⟨m_265, e_266, h⟩ := up_s h
  have E_269 := ext_up e_266 (And.left (fx_kF (c := 13) (Kr.fix w_261) (by decide +kernel))) (by decide)
  have w_270 := Kr.upC (y := 123) w_261 e_266 (ext_up e_266 (And.left (fx_kF (c := 13) (Kr.fix w_261) (by decide +kernel))) (by decide)) (And.left (fx_kF (c := 13) (Kr.fix w_261) (by decide +kernel))) (fx_f (j := 123) (Kr.fix w_261) (fx_kF (c := 13) (Kr.fix w_261) (by decide +kernel)) (by decide +kernel)) (Or.inr rfl) (by decide +kernel) (fx_kF (c := 13) (Kr.fix w_261) (by decide +kernel)) (by decide) (by first | exact Or.inl (by decide) | exact Or.inr (by decide))
  obtain ⟨m_272, e_273, h⟩ := up_s h
  have E_276 := ext_up e_273 (And.left (fx_kF (c := 13) (Kr.fix w_270) (by decide +kernel))) (by decide)
  have w_277 := Kr.upC (y := 119) w_270 e_273 (ext_up e_273 (And.left (fx_kF (c := 13) (Kr.fix w_270) (by decide +kernel))) (by decide)) (And.left (fx_kF (c := 13) (Kr.fix w_270) (by decide +kernel))) (fx_f (j := 119) (Kr.fix w_270) (fx_kF (c := 13) (Kr.fix w_270) (by decide +kernel)) (by decide +kernel)) (Or.inr rfl) (by decide +kernel) (fx_kF (c := 13) (Kr.fix w_270) (by decide +kernel)) (by decide) (by first | exact Or.inl (by decide) | exact Or.inr (by decide))
  refine kwl_X12_tellsRun_151 (Kr.fix w_277)  (fun f => hQ (Kr.trS w_277 f)) BIG (Kr.rf (Kr.fix w_277)) h
set_option maxHeartbeats 4000000 in
theorem kw_X12_isSafe {m0 : MM} {p1 p2 : Int} {rz : Int} {rm : MM} (hF : Fix m0)
  (h : fm_X12_isSafe p1 p2 m0 = some (rz, rm)) : Kr fW_X12_isSafe 0 0 m0 rm := by
  have hQ : Kr fW_X12_isSafe 0 0 m0 rm → Kr fW_X12_isSafe 0 0 m0 rm := id
  unfold fm_X12_isSafe at h
  obtain ⟨g_6, h⟩ := gd_s h
  obtain ⟨x_8, e_9, h⟩ := lx_s h
  obtain ⟨x_22, e_23, h⟩ := lx_s h
  obtain ⟨x_25, m_26, hc_24, h⟩ := bd_s h
  have w_33 := (kw_X12_tellsRun hF hc_24)
  have E_31 := Kr.ext w_33
  have w_34 := Kr.tr0 (Kr.rf (W := fW_X12_isSafe) (e := 0) hF) w_33 (by decide +kernel)
  obtain ⟨x_39, e_40, h⟩ := lx_s h
  rcases it_s h with ⟨hp_41, h⟩ | ⟨hp_41, h⟩
  · cases h
    exact hQ w_34
  · cases h
    exact hQ w_34
set_option maxHeartbeats 4000000 in
theorem kw_X12_makesActivity {m0 : MM} {p1 p2 p3 p4 : Int} {rz : Int} {rm : MM} (hF : Fix m0)
  (h : fm_X12_makesActivity p1 p2 p3 p4 m0 = some (rz, rm)) : Kr fW_X12_makesActivity 0 0 m0 rm := by
  have hQ : Kr fW_X12_makesActivity 0 0 m0 rm → Kr fW_X12_makesActivity 0 0 m0 rm := id
  unfold fm_X12_makesActivity at h
  obtain ⟨x_4, e_5, h⟩ := lx_s h
  rcases it_s h with ⟨hp_8, h⟩ | ⟨hp_8, h⟩
  · obtain ⟨x_188, m_189, hc_187, h⟩ := bd_s h
    have w_196 := (kw_X12_puts hF hc_187)
    have E_194 := Kr.ext w_196
    have w_197 := Kr.tr0 (Kr.rf (W := fW_X12_makesActivity) (e := 0) hF) w_196 (by decide +kernel)
    cases h
    exact hQ w_197
  · obtain ⟨g_15, h⟩ := gd_s h
    obtain ⟨m_16, e_17, h⟩ := up_s h
    have E_20 := ext_up e_17 (And.left (fx_kF (c := 100) hF (by decide +kernel))) (And.left g_15)
    have w_21 := Kr.upC (y := (-9)) (Kr.rf (W := fW_X12_makesActivity) (e := 0) hF) e_17 (ext_up e_17 (And.left (fx_kF (c := 100) hF (by decide +kernel))) (And.left g_15)) (And.left (fx_kF (c := 100) hF (by decide +kernel))) (fx_a hF (fx_kF (c := 100) hF (by decide +kernel)) (And.left g_15) (by decide +kernel)) (Or.inl rfl) (by decide +kernel) (fx_kF (c := 100) hF (by decide +kernel)) (And.left g_15) (by first | exact Or.inl (by decide) | exact Or.inr (by decide))
    obtain ⟨x_29, e_30, h⟩ := lx_s h
    obtain ⟨g_31, h⟩ := gd_s h
    obtain ⟨m_32, e_33, h⟩ := up_s h
    have E_36 := ext_up e_33 (And.left (fx_kF (c := 100) (Kr.fix w_21) (by decide +kernel))) (And.left g_31)
    have w_37 := Kr.upC (y := (-9)) w_21 e_33 (ext_up e_33 (And.left (fx_kF (c := 100) (Kr.fix w_21) (by decide +kernel))) (And.left g_31)) (And.left (fx_kF (c := 100) (Kr.fix w_21) (by decide +kernel))) (fx_a (Kr.fix w_21) (fx_kF (c := 100) (Kr.fix w_21) (by decide +kernel)) (And.left g_31) (by decide +kernel)) (Or.inl rfl) (by decide +kernel) (fx_kF (c := 100) (Kr.fix w_21) (by decide +kernel)) (And.left g_31) (by first | exact Or.inl (by decide) | exact Or.inr (by decide))
    obtain ⟨x_45, e_46, h⟩ := lx_s h
    obtain ⟨g_47, h⟩ := gd_s h
    obtain ⟨m_48, e_49, h⟩ := up_s h
    have E_52 := ext_up e_49 (And.left (fx_kF (c := 100) (Kr.fix w_37) (by decide +kernel))) (And.left g_47)
    have w_53 := Kr.upC (y := (-9)) w_37 e_49 (ext_up e_49 (And.left (fx_kF (c := 100) (Kr.fix w_37) (by decide +kernel))) (And.left g_47)) (And.left (fx_kF (c := 100) (Kr.fix w_37) (by decide +kernel))) (fx_a (Kr.fix w_37) (fx_kF (c := 100) (Kr.fix w_37) (by decide +kernel)) (And.left g_47) (by decide +kernel)) (Or.inl rfl) (by decide +kernel) (fx_kF (c := 100) (Kr.fix w_37) (by decide +kernel)) (And.left g_47) (by first | exact Or.inl (by decide) | exact Or.inr (by decide))
    obtain ⟨x_61, e_62, h⟩ := lx_s h
    obtain ⟨g_63, h⟩ := gd_s h
    obtain ⟨m_64, e_65, h⟩ := up_s h
    have E_68 := ext_up e_65 (And.left (fx_kF (c := 100) (Kr.fix w_53) (by decide +kernel))) (And.left g_63)
    have w_69 := Kr.upC (y := (-9)) w_53 e_65 (ext_up e_65 (And.left (fx_kF (c := 100) (Kr.fix w_53) (by decide +kernel))) (And.left g_63)) (And.left (fx_kF (c := 100) (Kr.fix w_53) (by decide +kernel))) (fx_a (Kr.fix w_53) (fx_kF (c := 100) (Kr.fix w_53) (by decide +kernel)) (And.left g_63) (by decide +kernel)) (Or.inl rfl) (by decide +kernel) (fx_kF (c := 100) (Kr.fix w_53) (by decide +kernel)) (And.left g_63) (by first | exact Or.inl (by decide) | exact Or.inr (by decide))
    obtain ⟨x_77, e_78, h⟩ := lx_s h
    obtain ⟨g_81, h⟩ := gd_s h
    obtain ⟨m_82, e_83, h⟩ := up_s h
    have E_86 := ext_up e_83 (And.left (fx_kF (c := 100) (Kr.fix w_69) (by decide +kernel))) (And.left g_81)
    have w_87 := Kr.upC (y := (-9)) w_69 e_83 (ext_up e_83 (And.left (fx_kF (c := 100) (Kr.fix w_69) (by decide +kernel))) (And.left g_81)) (And.left (fx_kF (c := 100) (Kr.fix w_69) (by decide +kernel))) (fx_a (Kr.fix w_69) (fx_kF (c := 100) (Kr.fix w_69) (by decide +kernel)) (And.left g_81) (by decide +kernel)) (Or.inl rfl) (by decide +kernel) (fx_kF (c := 100) (Kr.fix w_69) (by decide +kernel)) (And.left g_81) (by first | exact Or.inl (by decide) | exact Or.inr (by decide))
    obtain ⟨x_95, e_96, h⟩ := lx_s h
    obtain ⟨g_99, h⟩ := gd_s h
    obtain ⟨m_100, e_101, h⟩ := up_s h
    have E_104 := ext_up e_101 (And.left (fx_kF (c := 100) (Kr.fix w_87) (by decide +kernel))) (And.left g_99)
    have w_105 := Kr.upC (y := (-9)) w_87 e_101 (ext_up e_101 (And.left (fx_kF (c := 100) (Kr.fix w_87) (by decide +kernel))) (And.left g_99)) (And.left (fx_kF (c := 100) (Kr.fix w_87) (by decide +kernel))) (fx_a (Kr.fix w_87) (fx_kF (c := 100) (Kr.fix w_87) (by decide +kernel)) (And.left g_99) (by decide +kernel)) (Or.inl rfl) (by decide +kernel) (fx_kF (c := 100) (Kr.fix w_87) (by decide +kernel)) (And.left g_99) (by first | exact Or.inl (by decide) | exact Or.inr (by decide))
    obtain ⟨x_113, e_114, h⟩ := lx_s h
    obtain ⟨x_118, e_119, h⟩ := lx_s h
    obtain ⟨g_120, h⟩ := gd_s h
    obtain ⟨m_121, e_122, h⟩ := up_s h
    have E_125 := ext_up e_122 (And.left (fx_kF (c := 100) (Kr.fix w_105) (by decide +kernel))) (And.left g_120)
    have w_126 := Kr.upC (y := (-9)) w_105 e_122 (ext_up e_122 (And.left (fx_kF (c := 100) (Kr.fix w_105) (by decide +kernel))) (And.left g_120)) (And.left (fx_kF (c := 100) (Kr.fix w_105) (by decide +kernel))) (fx_a (Kr.fix w_105) (fx_kF (c := 100) (Kr.fix w_105) (by decide +kernel)) (And.left g_120) (by decide +kernel)) (Or.inl rfl) (by decide +kernel) (fx_kF (c := 100) (Kr.fix w_105) (by decide +kernel)) (And.left g_120) (by first | exact Or.inl (by decide) | exact Or.inr (by decide))
    obtain ⟨x_134, e_135, h⟩ := lx_s h
    obtain ⟨x_139, e_140, h⟩ := lx_s h
    obtain ⟨g_141, h⟩ := gd_s h
    obtain ⟨m_142, e_143, h⟩ := up_s h
    have E_146 := ext_up e_143 (And.left (fx_kF (c := 100) (Kr.fix w_126) (by decide +kernel))) (And.left g_141)
    have w_147 := Kr.upC (y := (-9)) w_126 e_143 (ext_up e_143 (And.left (fx_kF (c := 100) (Kr.fix w_126) (by decide +kernel))) (And.left g_141)) (And.left (fx_kF (c := 100) (Kr.fix w_126) (by decide +kernel))) (fx_a (Kr.fix w_126) (fx_kF (c := 100) (Kr.fix w_126) (by decide +kernel)) (And.left g_141) (by decide +kernel)) (Or.inl rfl) (by decide +kernel) (fx_kF (c := 100) (Kr.fix w_126) (by decide +kernel)) (And.left g_141) (by first | exact Or.inl (by decide) | exact Or.inr (by decide))
    obtain ⟨x_155, e_156, h⟩ := lx_s h
    obtain ⟨g_159, h⟩ := gd_s h
    obtain ⟨m_160, e_161, h⟩ := up_s h
    have E_164 := ext_up e_161 (And.left (fx_kF (c := 100) (Kr.fix w_147) (by decide +kernel))) (And.left g_159)
    have w_165 := Kr.upC (y := (-9)) w_147 e_161 (ext_up e_161 (And.left (fx_kF (c := 100) (Kr.fix w_147) (by decide +kernel))) (And.left g_159)) (And.left (fx_kF (c := 100) (Kr.fix w_147) (by decide +kernel))) (fx_a (Kr.fix w_147) (fx_kF (c := 100) (Kr.fix w_147) (by decide +kernel)) (And.left g_159) (by decide +kernel)) (Or.inl rfl) (by decide +kernel) (fx_kF (c := 100) (Kr.fix w_147) (by decide +kernel)) (And.left g_159) (by first | exact Or.inl (by decide) | exact Or.inr (by decide))
    obtain ⟨x_170, e_171, h⟩ := lx_s h
    obtain ⟨m_176, e_177, h⟩ := up_s h
    have E_180 := ext_up e_177 (And.left (fx_kF (c := 13) (Kr.fix w_165) (by decide +kernel))) (by decide)
    have w_181 := Kr.upC (y := 34) w_165 e_177 (ext_up e_177 (And.left (fx_kF (c := 13) (Kr.fix w_165) (by decide +kernel))) (by decide)) (And.left (fx_kF (c := 13) (Kr.fix w_165) (by decide +kernel))) (fx_f (j := 34) (Kr.fix w_165) (fx_kF (c := 13) (Kr.fix w_165) (by decide +kernel)) (by decide +kernel)) (Or.inr rfl) (by decide +kernel) (fx_kF (c := 13) (Kr.fix w_165) (by decide +kernel)) (by decide) (by first | exact Or.inl (by decide) | exact Or.inr (by decide))
    cases h
    exact hQ w_181
set_option maxHeartbeats 4000000 in
theorem kw_X12_makesTimer {m0 : MM} {p1 p2 p3 : Int} {rz : Int} {rm : MM} (hF : Fix m0)
  (h : fm_X12_makesTimer p1 p2 p3 m0 = some (rz, rm)) : Kr fW_X12_makesTimer 0 0 m0 rm := by
  have hQ : Kr fW_X12_makesTimer 0 0 m0 rm → Kr fW_X12_makesTimer 0 0 m0 rm := id
  unfold fm_X12_makesTimer at h
  obtain ⟨x_7, e_8, h⟩ := lx_s h
  obtain ⟨g_9, h⟩ := gd_s h
  obtain ⟨m_10, e_11, h⟩ := up_s h
  have E_14 := ext_up e_11 (And.left (fx_kF (c := 100) hF (by decide +kernel))) (And.left g_9)
  have w_15 := Kr.upC (y := (-9)) (Kr.rf (W := fW_X12_makesTimer) (e := 0) hF) e_11 (ext_up e_11 (And.left (fx_kF (c := 100) hF (by decide +kernel))) (And.left g_9)) (And.left (fx_kF (c := 100) hF (by decide +kernel))) (fx_a hF (fx_kF (c := 100) hF (by decide +kernel)) (And.left g_9) (by decide +kernel)) (Or.inl rfl) (by decide +kernel) (fx_kF (c := 100) hF (by decide +kernel)) (And.left g_9) (by first | exact Or.inl (by decide) | exact Or.inr (by decide))
  obtain ⟨x_23, e_24, h⟩ := lx_s h
  obtain ⟨g_25, h⟩ := gd_s h
  obtain ⟨m_26, e_27, h⟩ := up_s h
  have E_30 := ext_up e_27 (And.left (fx_kF (c := 100) (Kr.fix w_15) (by decide +kernel))) (And.left g_25)
  have w_31 := Kr.upC (y := (-9)) w_15 e_27 (ext_up e_27 (And.left (fx_kF (c := 100) (Kr.fix w_15) (by decide +kernel))) (And.left g_25)) (And.left (fx_kF (c := 100) (Kr.fix w_15) (by decide +kernel))) (fx_a (Kr.fix w_15) (fx_kF (c := 100) (Kr.fix w_15) (by decide +kernel)) (And.left g_25) (by decide +kernel)) (Or.inl rfl) (by decide +kernel) (fx_kF (c := 100) (Kr.fix w_15) (by decide +kernel)) (And.left g_25) (by first | exact Or.inl (by decide) | exact Or.inr (by decide))
  obtain ⟨x_39, e_40, h⟩ := lx_s h
  obtain ⟨g_41, h⟩ := gd_s h
  obtain ⟨m_42, e_43, h⟩ := up_s h
  have E_46 := ext_up e_43 (And.left (fx_kF (c := 100) (Kr.fix w_31) (by decide +kernel))) (And.left g_41)
  have w_47 := Kr.upC (y := (-9)) w_31 e_43 (ext_up e_43 (And.left (fx_kF (c := 100) (Kr.fix w_31) (by decide +kernel))) (And.left g_41)) (And.left (fx_kF (c := 100) (Kr.fix w_31) (by decide +kernel))) (fx_a (Kr.fix w_31) (fx_kF (c := 100) (Kr.fix w_31) (by decide +kernel)) (And.left g_41) (by decide +kernel)) (Or.inl rfl) (by decide +kernel) (fx_kF (c := 100) (Kr.fix w_31) (by decide +kernel)) (And.left g_41) (by first | exact Or.inl (by decide) | exact Or.inr (by decide))
  obtain ⟨x_52, e_53, h⟩ := lx_s h
  obtain ⟨m_58, e_59, h⟩ := up_s h
  have E_62 := ext_up e_59 (And.left (fx_kF (c := 13) (Kr.fix w_47) (by decide +kernel))) (by decide)
  have w_63 := Kr.upC (y := 46) w_47 e_59 (ext_up e_59 (And.left (fx_kF (c := 13) (Kr.fix w_47) (by decide +kernel))) (by decide)) (And.left (fx_kF (c := 13) (Kr.fix w_47) (by decide +kernel))) (fx_f (j := 46) (Kr.fix w_47) (fx_kF (c := 13) (Kr.fix w_47) (by decide +kernel)) (by decide +kernel)) (Or.inr rfl) (by decide +kernel) (fx_kF (c := 13) (Kr.fix w_47) (by decide +kernel)) (by decide) (by first | exact Or.inl (by decide) | exact Or.inr (by decide))
  cases h
  exact hQ w_63
set_option maxHeartbeats 4000000 in
theorem kw_X12_removesTimer {m0 : MM} {p1 : Int} {rz : Int} {rm : MM} (hF : Fix m0)
  (h : fm_X12_removesTimer p1 m0 = some (rz, rm)) : Kr fW_X12_removesTimer 0 0 m0 rm := by
  have hQ : Kr fW_X12_removesTimer 0 0 m0 rm → Kr fW_X12_removesTimer 0 0 m0 rm := id
  unfold fm_X12_removesTimer at h
  obtain ⟨x_4, e_5, h⟩ := lx_s h
  obtain ⟨m_10, e_11, h⟩ := up_s h
  have E_14 := ext_up e_11 (And.left (fx_kF (c := 13) hF (by decide +kernel))) (by decide)
  have w_15 := Kr.upC (y := 46) (Kr.rf (W := fW_X12_removesTimer) (e := 0) hF) e_11 (ext_up e_11 (And.left (fx_kF (c := 13) hF (by decide +kernel))) (by decide)) (And.left (fx_kF (c := 13) hF (by decide +kernel))) (fx_f (j := 46) hF (fx_kF (c := 13) hF (by decide +kernel)) (by decide +kernel)) (Or.inr rfl) (by decide +kernel) (fx_kF (c := 13) hF (by decide +kernel)) (by decide) (by first | exact Or.inl (by decide) | exact Or.inr (by decide))
  obtain ⟨x_26, e_27, h⟩ := lx_s h
  obtain ⟨g_30, h⟩ := gd_s h
  obtain ⟨x_32, e_33, h⟩ := lx_s h
  obtain ⟨g_34, h⟩ := gd_s h
  obtain ⟨m_35, e_36, h⟩ := up_s h
  have E_39 := ext_up e_36 (And.left (fx_kF (c := 100) (Kr.fix w_15) (by decide +kernel))) (And.left g_34)
  have w_40 := Kr.upC (y := (-9)) w_15 e_36 (ext_up e_36 (And.left (fx_kF (c := 100) (Kr.fix w_15) (by decide +kernel))) (And.left g_34)) (And.left (fx_kF (c := 100) (Kr.fix w_15) (by decide +kernel))) (fx_a (Kr.fix w_15) (fx_kF (c := 100) (Kr.fix w_15) (by decide +kernel)) (And.left g_34) (by decide +kernel)) (Or.inl rfl) (by decide +kernel) (fx_kF (c := 100) (Kr.fix w_15) (by decide +kernel)) (And.left g_34) (by first | exact Or.inl (by decide) | exact Or.inr (by decide))
  obtain ⟨x_51, e_52, h⟩ := lx_s h
  obtain ⟨g_55, h⟩ := gd_s h
  obtain ⟨x_57, e_58, h⟩ := lx_s h
  obtain ⟨m_59, e_60, h⟩ := up_s h
  have E_63 := ext_up e_60 (And.left (fx_kF (c := 100) (Kr.fix w_40) (by decide +kernel))) (And.left g_34)
  have w_64 := Kr.upC (y := (-9)) w_40 e_60 (ext_up e_60 (And.left (fx_kF (c := 100) (Kr.fix w_40) (by decide +kernel))) (And.left g_34)) (And.left (fx_kF (c := 100) (Kr.fix w_40) (by decide +kernel))) (fx_a (Kr.fix w_40) (fx_kF (c := 100) (Kr.fix w_40) (by decide +kernel)) (And.left g_34) (by decide +kernel)) (Or.inl rfl) (by decide +kernel) (fx_kF (c := 100) (Kr.fix w_40) (by decide +kernel)) (And.left g_34) (by first | exact Or.inl (by decide) | exact Or.inr (by decide))
  obtain ⟨x_75, e_76, h⟩ := lx_s h
  obtain ⟨g_79, h⟩ := gd_s h
  obtain ⟨x_81, e_82, h⟩ := lx_s h
  obtain ⟨m_83, e_84, h⟩ := up_s h
  have E_87 := ext_up e_84 (And.left (fx_kF (c := 100) (Kr.fix w_64) (by decide +kernel))) (And.left g_34)
  have w_88 := Kr.upC (y := (-9)) w_64 e_84 (ext_up e_84 (And.left (fx_kF (c := 100) (Kr.fix w_64) (by decide +kernel))) (And.left g_34)) (And.left (fx_kF (c := 100) (Kr.fix w_64) (by decide +kernel))) (fx_a (Kr.fix w_64) (fx_kF (c := 100) (Kr.fix w_64) (by decide +kernel)) (And.left g_34) (by decide +kernel)) (Or.inl rfl) (by decide +kernel) (fx_kF (c := 100) (Kr.fix w_64) (by decide +kernel)) (And.left g_34) (by first | exact Or.inl (by decide) | exact Or.inr (by decide))
  cases h
  exact hQ w_88
set_option maxHeartbeats 4000000 in
theorem kwl_X12_stops_2 {P : Prop} {mb : MM} {y1 : Int} {k42 : MM → Option (Int × MM)} {rz : Int} {rm : MM} (hF0 : Fix mb)
  (hk42 : ∀ mq : MM, Kr fW_X12_stops 0 0 mb mq → k42 mq = some (rz, rm) → P) (hQ : Kr fW_X12_stops 0 0 mb rm → P) :
  ∀ (n : Nat) {m : MM} {y2 : Int} , Kr fW_X12_stops 0 0 mb m → fl_X12_stops_2 y1 k42 n y2 m = some (rz, rm) → P := by
  intro n
  induction n with
  | zero => intro m y2 w h; cases h
  | succ n ih0 =>
    intro m y2 w h
    have ih : ∀ mq : MM, Kr fW_X12_stops 0 0 mb mq → ∀ {z2 : Int}, fl_X12_stops_2 y1 k42 n z2 mq = some (rz, rm) → P := fun mq b => by intros; exact ih0 b ‹_›
    unfold fl_X12_stops_2 at h
    obtain ⟨x_11, e_12, h⟩ := lx_s h
    rcases it_s h with ⟨hp_13, h⟩ | ⟨hp_13, h⟩
    · obtain ⟨g_22, h⟩ := gd_s h
      obtain ⟨x_24, e_25, h⟩ := lx_s h
      rcases it_s h with ⟨hp_26, h⟩ | ⟨hp_26, h⟩
      · obtain ⟨m_54, e_55, h⟩ := up_s h
        have E_58 := ext_up e_55 (And.left (fx_kF (c := 100) (Kr.fix w) (by decide +kernel))) (And.left g_22)
        have w_59 := Kr.upC (y := (-9)) w e_55 (ext_up e_55 (And.left (fx_kF (c := 100) (Kr.fix w) (by decide +kernel))) (And.left g_22)) (And.left (fx_kF (c := 100) (Kr.fix w) (by decide +kernel))) (fx_a (Kr.fix w) (fx_kF (c := 100) (Kr.fix w) (by decide +kernel)) (And.left g_22) (by decide +kernel)) (Or.inl rfl) (by decide +kernel) (fx_kF (c := 100) (Kr.fix w) (by decide +kernel)) (And.left g_22) (by first | exact Or.inl (by decide) | exact Or.inr (by decide))
        obtain ⟨x_66, e_67, h⟩ := lx_s h
        exact ih m_54 w_59 h
      · obtain ⟨x_33, e_34, h⟩ := lx_s h
        obtain ⟨m_35, e_36, h⟩ := up_s h
        have E_39 := ext_up e_36 (And.left (fx_kF (c := 100) (Kr.fix w) (by decide +kernel))) (And.left g_22)
        have w_40 := Kr.upC (y := (-9)) w e_36 (ext_up e_36 (And.left (fx_kF (c := 100) (Kr.fix w) (by decide +kernel))) (And.left g_22)) (And.left (fx_kF (c := 100) (Kr.fix w) (by decide +kernel))) (fx_a (Kr.fix w) (fx_kF (c := 100) (Kr.fix w) (by decide +kernel)) (And.left g_22) (by decide +kernel)) (Or.inl rfl) (by decide +kernel) (fx_kF (c := 100) (Kr.fix w) (by decide +kernel)) (And.left g_22) (by first | exact Or.inl (by decide) | exact Or.inr (by decide))
        obtain ⟨x_47, e_48, h⟩ := lx_s h
        exact ih m_35 w_40 h
    · exact hk42 m w h
set_option maxHeartbeats 4000000 in
theorem kwl_X12_stops_49 {P : Prop} {mb : MM} {y1 : Int} {rz : Int} {rm : MM} (hF0 : Fix mb) (hQ : Kr fW_X12_stops 0 0 mb rm → P) :
  ∀ (n : Nat) {m : MM} {y2 : Int} , Kr fW_X12_stops 0 0 mb m → fl_X12_stops_49 y1 n y2 m = some (rz, rm) → P := by
  intro n
  induction n with
  | zero => intro m y2 w h; cases h
  | succ n ih0 =>
    intro m y2 w h
    have ih : ∀ mq : MM, Kr fW_X12_stops 0 0 mb mq → ∀ {z2 : Int}, fl_X12_stops_49 y1 n z2 mq = some (rz, rm) → P := fun mq b => by intros; exact ih0 b ‹_›
    unfold fl_X12_stops_49 at h
    rcases it_s h with ⟨hp_102, h⟩ | ⟨hp_102, h⟩
    · cases h
      exact hQ w
    · obtain ⟨g_108, h⟩ := gd_s h
      obtain ⟨x_110, e_111, h⟩ := lx_s h
      rcases it_s h with ⟨hp_112, h⟩ | ⟨hp_112, h⟩
      · obtain ⟨x_124, m_125, hc_123, h⟩ := bd_s h
        have w_132 := (kw_X12_removesTimer (Kr.fix w) hc_123)
        have E_130 := Kr.ext w_132
        have w_133 := Kr.tr0 w w_132 (by decide +kernel)
        obtain ⟨x_140, e_141, h⟩ := lx_s h
        exact ih m_125 w_133 h
      · obtain ⟨x_118, e_119, h⟩ := lx_s h
        exact ih m w h
set_option maxHeartbeats 4000000 in
theorem kw_X12_stops {m0 : MM} {p1 : Int} {rz : Int} {rm : MM} (hF : Fix m0)
  (h : fm_X12_stops p1 m0 = some (rz, rm)) : Kr fW_X12_stops 0 0 m0 rm := by
  have hQ : Kr fW_X12_stops 0 0 m0 rm → Kr fW_X12_stops 0 0 m0 rm := id
  unfold fm_X12_stops at h
  refine kwl_X12_stops_2 hF ?_ hQ BIG (Kr.rf hF) h
  intro m_80 w_83
  intro h
  have E_81 := Kr.ext w_83
  have w_84 := w_83
  obtain ⟨x_88, e_89, h⟩ := lx_s h
  obtain ⟨x_94, e_95, h⟩ := lx_s h
  refine kwl_X12_stops_49 (Kr.fix w_84)  (fun f => hQ (Kr.trS w_84 f)) BIG (Kr.rf (Kr.fix w_84)) h
set_option maxHeartbeats 4000000 in
theorem kwl_X12_drops_2 {P : Prop} {mb : MM} {y1 y2 : Int} {k52 : MM → Option (Int × MM)} {rz : Int} {rm : MM} (hF0 : Fix mb)
  (hk52 : ∀ mq : MM, Kr fW_X12_drops 0 0 mb mq → k52 mq = some (rz, rm) → P) (hQ : Kr fW_X12_drops 0 0 mb rm → P) :
  ∀ (n : Nat) {m : MM} {y3 : Int} , Kr fW_X12_drops 0 0 mb m → fl_X12_drops_2 y1 y2 k52 n y3 m = some (rz, rm) → P := by
  intro n
  induction n with
  | zero => intro m y3 w h; cases h
  | succ n ih0 =>
    intro m y3 w h
    have ih : ∀ mq : MM, Kr fW_X12_drops 0 0 mb mq → ∀ {z3 : Int}, fl_X12_drops_2 y1 y2 k52 n z3 mq = some (rz, rm) → P := fun mq b => by intros; exact ih0 b ‹_›
    unfold fl_X12_drops_2 at h
    obtain ⟨x_12, e_13, h⟩ := lx_s h
    rcases it_s h with ⟨hp_14, h⟩ | ⟨hp_14, h⟩
    · obtain ⟨g_23, h⟩ := gd_s h
      obtain ⟨x_25, e_26, h⟩ := lx_s h
      rcases it_s h with ⟨hp_27, h⟩ | ⟨hp_27, h⟩
      · obtain ⟨x_60, e_61, h⟩ := lx_s h
        rcases it_s h with ⟨hp_62, h⟩ | ⟨hp_62, h⟩
        · obtain ⟨m_91, e_92, h⟩ := up_s h
          have E_95 := ext_up e_92 (And.left (fx_kF (c := 100) (Kr.fix w) (by decide +kernel))) (And.left g_23)
          have w_96 := Kr.upC (y := (-9)) w e_92 (ext_up e_92 (And.left (fx_kF (c := 100) (Kr.fix w) (by decide +kernel))) (And.left g_23)) (And.left (fx_kF (c := 100) (Kr.fix w) (by decide +kernel))) (fx_a (Kr.fix w) (fx_kF (c := 100) (Kr.fix w) (by decide +kernel)) (And.left g_23) (by decide +kernel)) (Or.inl rfl) (by decide +kernel) (fx_kF (c := 100) (Kr.fix w) (by decide +kernel)) (And.left g_23) (by first | exact Or.inl (by decide) | exact Or.inr (by decide))
          obtain ⟨x_103, e_104, h⟩ := lx_s h
          exact ih m_91 w_96 h
        · obtain ⟨x_69, e_70, h⟩ := lx_s h
          obtain ⟨m_71, e_72, h⟩ := up_s h
          have E_75 := ext_up e_72 (And.left (fx_kF (c := 100) (Kr.fix w) (by decide +kernel))) (And.left g_23)
          have w_76 := Kr.upC (y := (-9)) w e_72 (ext_up e_72 (And.left (fx_kF (c := 100) (Kr.fix w) (by decide +kernel))) (And.left g_23)) (And.left (fx_kF (c := 100) (Kr.fix w) (by decide +kernel))) (fx_a (Kr.fix w) (fx_kF (c := 100) (Kr.fix w) (by decide +kernel)) (And.left g_23) (by decide +kernel)) (Or.inl rfl) (by decide +kernel) (fx_kF (c := 100) (Kr.fix w) (by decide +kernel)) (And.left g_23) (by first | exact Or.inl (by decide) | exact Or.inr (by decide))
          obtain ⟨x_83, e_84, h⟩ := lx_s h
          exact ih m_71 w_76 h
      · obtain ⟨x_34, e_35, h⟩ := lx_s h
        obtain ⟨m_36, e_37, h⟩ := up_s h
        have E_40 := ext_up e_37 (And.left (fx_kF (c := 100) (Kr.fix w) (by decide +kernel))) (And.left g_23)
        have w_41 := Kr.upC (y := (-9)) w e_37 (ext_up e_37 (And.left (fx_kF (c := 100) (Kr.fix w) (by decide +kernel))) (And.left g_23)) (And.left (fx_kF (c := 100) (Kr.fix w) (by decide +kernel))) (fx_a (Kr.fix w) (fx_kF (c := 100) (Kr.fix w) (by decide +kernel)) (And.left g_23) (by decide +kernel)) (Or.inl rfl) (by decide +kernel) (fx_kF (c := 100) (Kr.fix w) (by decide +kernel)) (And.left g_23) (by first | exact Or.inl (by decide) | exact Or.inr (by decide))
        obtain ⟨x_48, e_49, h⟩ := lx_s h
        exact ih m_36 w_41 h
    · exact hk52 m w h
set_option maxHeartbeats 4000000 in
theorem kwl_X12_drops_59 {P : Prop} {mb : MM} {y1 y2 : Int} {k94 : MM → Option (Int × MM)} {rz : Int} {rm : MM} (hF0 : Fix mb)
  (hk94 : ∀ mq : MM, Kr fW_X12_drops 0 0 mb mq → k94 mq = some (rz, rm) → P) (hQ : Kr fW_X12_drops 0 0 mb rm → P) :
  ∀ (n : Nat) {m : MM} {y3 : Int} , Kr fW_X12_drops 0 0 mb m → fl_X12_drops_59 y1 y2 k94 n y3 m = some (rz, rm) → P := by
  intro n
  induction n with
  | zero => intro m y3 w h; cases h
  | succ n ih0 =>
    intro m y3 w h
    have ih : ∀ mq : MM, Kr fW_X12_drops 0 0 mb mq → ∀ {z3 : Int}, fl_X12_drops_59 y1 y2 k94 n z3 mq = some (rz, rm) → P := fun mq b => by intros; exact ih0 b ‹_›
    unfold fl_X12_drops_59 at h
    rcases it_s h with ⟨hp_144, h⟩ | ⟨hp_144, h⟩
    · exact hk94 m w h
    · obtain ⟨g_150, h⟩ := gd_s h
      obtain ⟨x_152, e_153, h⟩ := lx_s h
      rcases it_s h with ⟨hp_154, h⟩ | ⟨hp_154, h⟩
      · obtain ⟨x_172, e_173, h⟩ := lx_s h
        rcases it_s h with ⟨hp_174, h⟩ | ⟨hp_174, h⟩
        · obtain ⟨x_187, m_188, hc_186, h⟩ := bd_s h
          have w_195 := (kw_X12_removesTimer (Kr.fix w) hc_186)
          have E_193 := Kr.ext w_195
          have w_196 := Kr.tr0 w w_195 (by decide +kernel)
          obtain ⟨x_203, e_204, h⟩ := lx_s h
          exact ih m_188 w_196 h
        · obtain ⟨x_180, e_181, h⟩ := lx_s h
          exact ih m w h
      · obtain ⟨x_160, e_161, h⟩ := lx_s h
        exact ih m w h
set_option maxHeartbeats 4000000 in
theorem kwl_X12_drops_96 {P : Prop} {mb : MM} {y1 y2 : Int} {rz : Int} {rm : MM} (hF0 : Fix mb) (hQ : Kr fW_X12_drops 0 0 mb rm → P) :
  ∀ (n : Nat) {m : MM} {y3 : Int} , Kr fW_X12_drops 0 0 mb m → fl_X12_drops_96 y1 y2 n y3 m = some (rz, rm) → P := by
  intro n
  induction n with
  | zero => intro m y3 w h; cases h
  | succ n ih0 =>
    intro m y3 w h
    have ih : ∀ mq : MM, Kr fW_X12_drops 0 0 mb mq → ∀ {z3 : Int}, fl_X12_drops_96 y1 y2 n z3 mq = some (rz, rm) → P := fun mq b => by intros; exact ih0 b ‹_›
    unfold fl_X12_drops_96 at h
    obtain ⟨x_237, e_238, h⟩ := lx_s h
    rcases it_s h with ⟨hp_239, h⟩ | ⟨hp_239, h⟩
    · obtain ⟨g_245, h⟩ := gd_s h
      obtain ⟨x_247, e_248, h⟩ := lx_s h
      rcases it_s h with ⟨hp_249, h⟩ | ⟨hp_249, h⟩
      · obtain ⟨x_267, e_268, h⟩ := lx_s h
        rcases it_s h with ⟨hp_269, h⟩ | ⟨hp_269, h⟩
        · obtain ⟨m_286, e_287, h⟩ := up_s h
          have E_290 := ext_up e_287 (And.left (fx_kF (c := 100) (Kr.fix w) (by decide +kernel))) (And.left g_245)
          have w_291 := Kr.upC (y := (-9)) w e_287 (ext_up e_287 (And.left (fx_kF (c := 100) (Kr.fix w) (by decide +kernel))) (And.left g_245)) (And.left (fx_kF (c := 100) (Kr.fix w) (by decide +kernel))) (fx_a (Kr.fix w) (fx_kF (c := 100) (Kr.fix w) (by decide +kernel)) (And.left g_245) (by decide +kernel)) (Or.inl rfl) (by decide +kernel) (fx_kF (c := 100) (Kr.fix w) (by decide +kernel)) (And.left g_245) (by first | exact Or.inl (by decide) | exact Or.inr (by decide))
          obtain ⟨x_299, e_300, h⟩ := lx_s h
          rcases it_s h with ⟨hp_301, h⟩ | ⟨hp_301, h⟩
          · obtain ⟨x_314, m_315, hc_313, h⟩ := bd_s h
            have w_322 := (kw_X12_cancels (Kr.fix w_291) hc_313)
            have E_320 := Kr.ext w_322
            have w_323 := Kr.tr0 w_291 w_322 (by decide +kernel)
            obtain ⟨x_330, e_331, h⟩ := lx_s h
            exact ih m_315 w_323 h
          · obtain ⟨x_307, e_308, h⟩ := lx_s h
            exact ih m_286 w_291 h
        · obtain ⟨x_275, e_276, h⟩ := lx_s h
          exact ih m w h
      · obtain ⟨x_255, e_256, h⟩ := lx_s h
        exact ih m w h
    · cases h
      exact hQ w
set_option maxHeartbeats 4000000 in
theorem kw_X12_drops {m0 : MM} {p1 p2 : Int} {rz : Int} {rm : MM} (hF : Fix m0)
  (h : fm_X12_drops p1 p2 m0 = some (rz, rm)) : Kr fW_X12_drops 0 0 m0 rm := by
  have hQ : Kr fW_X12_drops 0 0 m0 rm → Kr fW_X12_drops 0 0 m0 rm := id
  unfold fm_X12_drops at h
  refine kwl_X12_drops_2 hF ?_ hQ BIG (Kr.rf hF) h
  intro m_121 w_124
  intro h
  have E_122 := Kr.ext w_124
  have w_125 := w_124
  obtain ⟨x_129, e_130, h⟩ := lx_s h
  obtain ⟨x_135, e_136, h⟩ := lx_s h
  refine kwl_X12_drops_59 (Kr.fix w_125) ?_ (fun f => hQ (Kr.trS w_125 f)) BIG (Kr.rf (Kr.fix w_125)) h
  intro m_221 w_224
  intro h
  have E_222 := Kr.ext w_224
  have w_225 := Kr.trS w_125 w_224
  refine kwl_X12_drops_96 (Kr.fix w_225)  (fun f => hQ (Kr.trS w_225 f)) BIG (Kr.rf (Kr.fix w_225)) h
end KW08
