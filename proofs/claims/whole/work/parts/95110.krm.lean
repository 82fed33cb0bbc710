/-! THE ROOM: how many objects there are: what each method makes (written by wip/whole/gen/gen951.py), 10. -/
section KW10
set_option maxHeartbeats 4000000 in
theorem kwj_X12_die_70 {P : Prop} {m : MM} {y1 y3 y4 s0 s1 : Int} {rz : Int} {rm : MM} {c : Int → Int → MM → Option (Int × MM)} {k103 : Int → MM → Option (Int × MM)} (hF : Fix m)
  (hc : ∀ mq : MM, Kr fW_X12_die 0 0 m mq → ∀ {z2 z3 : Int}, c z2 z3 mq = some (rz, rm) → P)
  (hk103 : ∀ mq : MM, Kr fW_X12_die 0 0 m mq → ∀ {z2 : Int}, k103 z2 mq = some (rz, rm) → P) (hQ : Kr fW_X12_die 0 0 m rm → P)
  (h : fj_X12_die_70 c k103 y1 y3 y4 s0 s1 m = some (rz, rm)) : P := by
  unfold fj_X12_die_70 at h
  obtain ⟨x_71, e_72, h⟩ := lx_s h
  obtain ⟨g_89, h⟩ := gd_s h
  obtain ⟨x_91, e_92, h⟩ := lx_s h
  rcases it_s h with ⟨hp_93, h⟩ | ⟨hp_93, h⟩
  · rcases it_s h with ⟨hp_114, h⟩ | ⟨hp_114, h⟩
    · obtain ⟨m_117, e_118, h⟩ := up_s h
      have E_121 := ext_up e_118 (And.left (fx_kF (c := 102) hF (by decide +kernel))) (And.left g_89)
      have w_122 := Kr.upC (y := (-9)) (Kr.rf (W := fW_X12_die) (e := 0) hF) e_118 (ext_up e_118 (And.left (fx_kF (c := 102) hF (by decide +kernel))) (And.left g_89)) (And.left (fx_kF (c := 102) hF (by decide +kernel))) (fx_a hF (fx_kF (c := 102) hF (by decide +kernel)) (And.left g_89) (by decide +kernel)) (Or.inl rfl) (by decide +kernel) (fx_kF (c := 102) hF (by decide +kernel)) (And.left g_89) (by first | exact Or.inl (by decide) | exact Or.inr (by decide))
      obtain ⟨x_129, e_130, h⟩ := lx_s h
      exact hc m_117 w_122 h
    · obtain ⟨m_137, e_138, h⟩ := up_s h
      have E_141 := ext_up e_138 (And.left (fx_kF (c := 102) hF (by decide +kernel))) (And.left g_89)
      have w_142 := Kr.upC (y := (-9)) (Kr.rf (W := fW_X12_die) (e := 0) hF) e_138 (ext_up e_138 (And.left (fx_kF (c := 102) hF (by decide +kernel))) (And.left g_89)) (And.left (fx_kF (c := 102) hF (by decide +kernel))) (fx_a hF (fx_kF (c := 102) hF (by decide +kernel)) (And.left g_89) (by decide +kernel)) (Or.inl rfl) (by decide +kernel) (fx_kF (c := 102) hF (by decide +kernel)) (And.left g_89) (by first | exact Or.inl (by decide) | exact Or.inr (by decide))
      obtain ⟨x_149, e_150, h⟩ := lx_s h
      exact hc m_137 w_142 h
  · obtain ⟨m_96, e_97, h⟩ := up_s h
    have E_100 := ext_up e_97 (And.left (fx_kF (c := 102) hF (by decide +kernel))) (And.left g_89)
    have w_101 := Kr.upC (y := (-9)) (Kr.rf (W := fW_X12_die) (e := 0) hF) e_97 (ext_up e_97 (And.left (fx_kF (c := 102) hF (by decide +kernel))) (And.left g_89)) (And.left (fx_kF (c := 102) hF (by decide +kernel))) (fx_a hF (fx_kF (c := 102) hF (by decide +kernel)) (And.left g_89) (by decide +kernel)) (Or.inl rfl) (by decide +kernel) (fx_kF (c := 102) hF (by decide +kernel)) (And.left g_89) (by first | exact Or.inl (by decide) | exact Or.inr (by decide))
    obtain ⟨x_108, e_109, h⟩ := lx_s h
    exact hc m_96 w_101 h
set_option maxHeartbeats 4000000 in
theorem kwj_X12_die_57 {P : Prop} {m : MM} {y1 y2 y3 s0 : Int} {rz : Int} {rm : MM} {c : Int → Int → MM → Option (Int × MM)} {k103 : Int → MM → Option (Int × MM)} (hF : Fix m)
  (hc : ∀ mq : MM, Kr fW_X12_die 0 0 m mq → ∀ {z2 z3 : Int}, c z2 z3 mq = some (rz, rm) → P)
  (hk103 : ∀ mq : MM, Kr fW_X12_die 0 0 m mq → ∀ {z2 : Int}, k103 z2 mq = some (rz, rm) → P) (hQ : Kr fW_X12_die 0 0 m rm → P)
  (h : fj_X12_die_57 c k103 y1 y2 y3 s0 m = some (rz, rm)) : P := by
  unfold fj_X12_die_57 at h
  rcases it_s h with ⟨hp_66, h⟩ | ⟨hp_66, h⟩
  · exact kwj_X12_die_70 hF hc hk103 hQ h
  · exact kwj_X12_die_70 hF hc hk103 hQ h
set_option maxHeartbeats 4000000 in
theorem kwl_X12_die_25 {P : Prop} {mb : MM} {y1 : Int} {k103 : Int → MM → Option (Int × MM)} {rz : Int} {rm : MM} (hF0 : Fix mb)
  (hk103 : ∀ mq : MM, Kr fW_X12_die 0 0 mb mq → ∀ {z2 : Int}, k103 z2 mq = some (rz, rm) → P) (hQ : Kr fW_X12_die 0 0 mb rm → P) :
  ∀ (n : Nat) {m : MM} {y2 y3 : Int} , Kr fW_X12_die 0 0 mb m → fl_X12_die_25 y1 k103 n y2 y3 m = some (rz, rm) → P := by
  intro n
  induction n with
  | zero => intro m y2 y3 w h; cases h
  | succ n ih0 =>
    intro m y2 y3 w h
    have ih : ∀ mq : MM, Kr fW_X12_die 0 0 mb mq → ∀ {z2 z3 : Int}, fl_X12_die_25 y1 k103 n z2 z3 mq = some (rz, rm) → P := fun mq b => by intros; exact ih0 b ‹_›
    unfold fl_X12_die_25 at h
    obtain ⟨x_44, e_45, h⟩ := lx_s h
    rcases it_s h with ⟨hp_46, h⟩ | ⟨hp_46, h⟩
    · obtain ⟨g_52, h⟩ := gd_s h
      obtain ⟨x_54, e_55, h⟩ := lx_s h
      rcases it_s h with ⟨hp_56, h⟩ | ⟨hp_56, h⟩
      · obtain ⟨x_163, e_164, h⟩ := lx_s h
        rcases it_s h with ⟨hp_165, h⟩ | ⟨hp_165, h⟩
        · exact kwj_X12_die_57 (Kr.fix w) (fun mq f => ih mq (Kr.trS w f)) (fun mq f => hk103 mq (Kr.trS w f)) (fun f => hQ (Kr.trS w f)) h
        · exact kwj_X12_die_57 (Kr.fix w) (fun mq f => ih mq (Kr.trS w f)) (fun mq f => hk103 mq (Kr.trS w f)) (fun f => hQ (Kr.trS w f)) h
      · exact kwj_X12_die_57 (Kr.fix w) (fun mq f => ih mq (Kr.trS w f)) (fun mq f => hk103 mq (Kr.trS w f)) (fun f => hQ (Kr.trS w f)) h
    · exact hk103 m w h
set_option maxHeartbeats 4000000 in
theorem kwl_X12_die_108 {P : Prop} {mb : MM} {y1 y2 : Int} {rz : Int} {rm : MM} (hF0 : Fix mb) (hQ : Kr fW_X12_die 0 0 mb rm → P) :
  ∀ (n : Nat) {m : MM} {y3 : Int} , Kr fW_X12_die 0 0 mb m → fl_X12_die_108 y1 y2 n y3 m = some (rz, rm) → P := by
  intro n
  induction n with
  | zero => intro m y3 w h; cases h
  | succ n ih0 =>
    intro m y3 w h
    have ih : ∀ mq : MM, Kr fW_X12_die 0 0 mb mq → ∀ {z3 : Int}, fl_X12_die_108 y1 y2 n z3 mq = some (rz, rm) → P := fun mq b => by intros; exact ih0 b ‹_›
    unfold fl_X12_die_108 at h
    rcases it_s h with ⟨hp_209, h⟩ | ⟨hp_209, h⟩
    · obtain ⟨g_215, h⟩ := gd_s h
      obtain ⟨m_216, e_217, h⟩ := up_s h
      have E_220 := ext_up e_217 (And.left (fx_kF (c := 100) (Kr.fix w) (by decide +kernel))) (And.left g_215)
      have w_221 := Kr.upC (y := (-9)) w e_217 (ext_up e_217 (And.left (fx_kF (c := 100) (Kr.fix w) (by decide +kernel))) (And.left g_215)) (And.left (fx_kF (c := 100) (Kr.fix w) (by decide +kernel))) (fx_a (Kr.fix w) (fx_kF (c := 100) (Kr.fix w) (by decide +kernel)) (And.left g_215) (by decide +kernel)) (Or.inl rfl) (by decide +kernel) (fx_kF (c := 100) (Kr.fix w) (by decide +kernel)) (And.left g_215) (by first | exact Or.inl (by decide) | exact Or.inr (by decide))
      obtain ⟨x_228, e_229, h⟩ := lx_s h
      exact ih m_216 w_221 h
    · cases h
      exact hQ w
set_option maxHeartbeats 4000000 in
theorem kwj_X12_die_13 {P : Prop} {m : MM} {y1 s0 : Int} {rz : Int} {rm : MM} (hF : Fix m) (hQ : Kr fW_X12_die 0 0 m rm → P)
  (h : fj_X12_die_13 y1 s0 m = some (rz, rm)) : P := by
  unfold fj_X12_die_13 at h
  obtain ⟨x_14, m_15, hc_13, h⟩ := bd_s h
  have w_22 := (kw_X12_fails hF hc_13)
  have E_20 := Kr.ext w_22
  have w_23 := Kr.tr0 (Kr.rf (W := fW_X12_die) (e := 0) hF) w_22 (by decide +kernel)
  rcases it_s h with ⟨hp_25, h⟩ | ⟨hp_25, h⟩
  · refine kwl_X12_die_25 (Kr.fix w_23) ?_ (fun f => hQ (Kr.trS w_23 f)) BIG (Kr.rf (Kr.fix w_23)) h
    intro m_183 w_186
    intro x_170
    intro h
    have E_184 := Kr.ext w_186
    have w_187 := Kr.trS w_23 w_186
    obtain ⟨x_192, e_193, h⟩ := lx_s h
    refine kwl_X12_die_108 (Kr.fix w_187)  (fun f => hQ (Kr.trS w_187 f)) BIG (Kr.rf (Kr.fix w_187)) h
  · cases h
    exact hQ w_23
set_option maxHeartbeats 4000000 in
theorem kw_X12_die {m0 : MM} {p1 : Int} {rz : Int} {rm : MM} (hF : Fix m0)
  (h : fm_X12_die p1 m0 = some (rz, rm)) : Kr fW_X12_die 0 0 m0 rm := by
  have hQ : Kr fW_X12_die 0 0 m0 rm → Kr fW_X12_die 0 0 m0 rm := id
  unfold fm_X12_die at h
  obtain ⟨x_2, hc_1, h⟩ := bp_s h
  rcases it_s h with ⟨hp_10, h⟩ | ⟨hp_10, h⟩
  · exact kwj_X12_die_13 hF hQ h
  · exact kwj_X12_die_13 hF hQ h
set_option maxHeartbeats 4000000 in
theorem kwj_X12_replays_13 {P : Prop} {m : MM} {y1 s0 : Int} {rz : Int} {rm : MM} (hF : Fix m) (hQ : Kr fW_X12_replays 0 0 m rm → P)
  (h : fj_X12_replays_13 y1 s0 m = some (rz, rm)) : P := by
  unfold fj_X12_replays_13 at h
  obtain ⟨x_14, m_15, hc_13, h⟩ := bd_s h
  have w_22 := (kw_X12_fails hF hc_13)
  have E_20 := Kr.ext w_22
  have w_23 := Kr.tr0 (Kr.rf (W := fW_X12_replays) (e := 0) hF) w_22 (by decide +kernel)
  rcases it_s h with ⟨hp_25, h⟩ | ⟨hp_25, h⟩
  · obtain ⟨g_31, h⟩ := gd_s h
    obtain ⟨x_33, e_34, h⟩ := lx_s h
    cases h
    exact hQ w_23
  · cases h
    exact hQ w_23
set_option maxHeartbeats 4000000 in
theorem kw_X12_replays {m0 : MM} {p1 : Int} {rz : Int} {rm : MM} (hF : Fix m0)
  (h : fm_X12_replays p1 m0 = some (rz, rm)) : Kr fW_X12_replays 0 0 m0 rm := by
  have hQ : Kr fW_X12_replays 0 0 m0 rm → Kr fW_X12_replays 0 0 m0 rm := id
  unfold fm_X12_replays at h
  obtain ⟨x_2, hc_1, h⟩ := bp_s h
  rcases it_s h with ⟨hp_10, h⟩ | ⟨hp_10, h⟩
  · exact kwj_X12_replays_13 hF hQ h
  · exact kwj_X12_replays_13 hF hQ h
set_option maxHeartbeats 4000000 in
theorem kwl_X12_take_25 {P : Prop} {m : MM} {y1 : Int} {k65 : Int → Option (Int × MM)} {rz : Int} {rm : MM} (hF : Fix m)
  (hk65 : ∀ {z2 : Int}, k65 z2 = some (rz, rm) → P) (hQ : Kr fW_X12_take 0 0 m rm → P) :
  ∀ (n : Nat) {y2 : Int} , fl_X12_take_25 y1 m k65 n y2 = some (rz, rm) → P := by
  intro n
  induction n with
  | zero => intro y2 h; cases h
  | succ n ih0 =>
    intro y2 h
    have ih : ∀ {z2 : Int}, fl_X12_take_25 y1 m k65 n z2 = some (rz, rm) → P := by intros; exact ih0 ‹_›
    unfold fl_X12_take_25 at h
    obtain ⟨x_40, e_41, h⟩ := lx_s h
    rcases it_s h with ⟨hp_42, h⟩ | ⟨hp_42, h⟩
    · obtain ⟨g_50, h⟩ := gd_s h
      obtain ⟨x_52, e_53, h⟩ := lx_s h
      rcases it_s h with ⟨hp_54, h⟩ | ⟨hp_54, h⟩
      · obtain ⟨x_71, e_72, h⟩ := lx_s h
        rcases it_s h with ⟨hp_73, h⟩ | ⟨hp_73, h⟩
        · obtain ⟨x_90, e_91, h⟩ := lx_s h
          obtain ⟨x_95, e_96, h⟩ := lx_s h
          rcases it_s h with ⟨hp_97, h⟩ | ⟨hp_97, h⟩
          · obtain ⟨x_103, e_104, h⟩ := lx_s h
            exact ih h
          · exact hk65 h
        · obtain ⟨x_79, e_80, h⟩ := lx_s h
          exact ih h
      · obtain ⟨x_60, e_61, h⟩ := lx_s h
        exact ih h
    · cases h
      exact hQ (Kr.rf (W := fW_X12_take) (e := 0) hF)
set_option maxHeartbeats 4000000 in
theorem kwj_X12_take_15 {P : Prop} {m : MM} {y1 s0 : Int} {rz : Int} {rm : MM} (hF : Fix m) (hQ : Kr fW_X12_take 0 0 m rm → P)
  (h : fj_X12_take_15 y1 s0 m = some (rz, rm)) : P := by
  unfold fj_X12_take_15 at h
  obtain ⟨x_18, m_19, hc_17, h⟩ := bd_s h
  have w_26 := (kw_X12_fails hF hc_17)
  have E_24 := Kr.ext w_26
  have w_27 := Kr.tr0 (Kr.rf (W := fW_X12_take) (e := 0) hF) w_26 (by decide +kernel)
  rcases it_s h with ⟨hp_29, h⟩ | ⟨hp_29, h⟩
  · refine kwl_X12_take_25 (Kr.fix w_27) ?_ (fun f => hQ (Kr.trS w_27 f)) BIG h
    intro x_108
    intro h
    obtain ⟨g_123, h⟩ := gd_s h
    obtain ⟨m_124, e_125, h⟩ := up_s h
    have E_128 := ext_up e_125 (And.left (fx_kF (c := 100) (Kr.fix w_27) (by decide +kernel))) (And.left g_123)
    have w_129 := Kr.upC (y := (-9)) w_27 e_125 (ext_up e_125 (And.left (fx_kF (c := 100) (Kr.fix w_27) (by decide +kernel))) (And.left g_123)) (And.left (fx_kF (c := 100) (Kr.fix w_27) (by decide +kernel))) (fx_a (Kr.fix w_27) (fx_kF (c := 100) (Kr.fix w_27) (by decide +kernel)) (And.left g_123) (by decide +kernel)) (Or.inl rfl) (by decide +kernel) (fx_kF (c := 100) (Kr.fix w_27) (by decide +kernel)) (And.left g_123) (by first | exact Or.inl (by decide) | exact Or.inr (by decide))
    obtain ⟨x_137, e_138, h⟩ := lx_s h
    obtain ⟨m_143, e_144, h⟩ := up_s h
    have E_147 := ext_up e_144 (And.left (fx_kF (c := 100) (Kr.fix w_129) (by decide +kernel))) (And.left g_123)
    have w_148 := Kr.upC (y := (-9)) w_129 e_144 (ext_up e_144 (And.left (fx_kF (c := 100) (Kr.fix w_129) (by decide +kernel))) (And.left g_123)) (And.left (fx_kF (c := 100) (Kr.fix w_129) (by decide +kernel))) (fx_a (Kr.fix w_129) (fx_kF (c := 100) (Kr.fix w_129) (by decide +kernel)) (And.left g_123) (by decide +kernel)) (Or.inl rfl) (by decide +kernel) (fx_kF (c := 100) (Kr.fix w_129) (by decide +kernel)) (And.left g_123) (by first | exact Or.inl (by decide) | exact Or.inr (by decide))
    obtain ⟨x_156, e_157, h⟩ := lx_s h
    obtain ⟨m_158, e_159, h⟩ := up_s h
    have E_162 := ext_up e_159 (And.left (fx_kF (c := 100) (Kr.fix w_148) (by decide +kernel))) (And.left g_123)
    have w_163 := Kr.upC (y := (-9)) w_148 e_159 (ext_up e_159 (And.left (fx_kF (c := 100) (Kr.fix w_148) (by decide +kernel))) (And.left g_123)) (And.left (fx_kF (c := 100) (Kr.fix w_148) (by decide +kernel))) (fx_a (Kr.fix w_148) (fx_kF (c := 100) (Kr.fix w_148) (by decide +kernel)) (And.left g_123) (by decide +kernel)) (Or.inl rfl) (by decide +kernel) (fx_kF (c := 100) (Kr.fix w_148) (by decide +kernel)) (And.left g_123) (by first | exact Or.inl (by decide) | exact Or.inr (by decide))
    obtain ⟨x_171, e_172, h⟩ := lx_s h
    obtain ⟨m_173, e_174, h⟩ := up_s h
    have E_177 := ext_up e_174 (And.left (fx_kF (c := 100) (Kr.fix w_163) (by decide +kernel))) (And.left g_123)
    have w_178 := Kr.upC (y := (-9)) w_163 e_174 (ext_up e_174 (And.left (fx_kF (c := 100) (Kr.fix w_163) (by decide +kernel))) (And.left g_123)) (And.left (fx_kF (c := 100) (Kr.fix w_163) (by decide +kernel))) (fx_a (Kr.fix w_163) (fx_kF (c := 100) (Kr.fix w_163) (by decide +kernel)) (And.left g_123) (by decide +kernel)) (Or.inl rfl) (by decide +kernel) (fx_kF (c := 100) (Kr.fix w_163) (by decide +kernel)) (And.left g_123) (by first | exact Or.inl (by decide) | exact Or.inr (by decide))
    obtain ⟨x_190, e_191, h⟩ := lx_s h
    cases h
    exact hQ w_178
  · cases h
    exact hQ w_27
set_option maxHeartbeats 4000000 in
theorem kw_X12_take {m0 : MM} {p1 : Int} {rz : Int} {rm : MM} (hF : Fix m0)
  (h : fm_X12_take p1 m0 = some (rz, rm)) : Kr fW_X12_take 0 0 m0 rm := by
  have hQ : Kr fW_X12_take 0 0 m0 rm → Kr fW_X12_take 0 0 m0 rm := id
  unfold fm_X12_take at h
  obtain ⟨x_6, hc_5, h⟩ := bp_s h
  rcases it_s h with ⟨hp_14, h⟩ | ⟨hp_14, h⟩
  · exact kwj_X12_take_15 hF hQ h
  · exact kwj_X12_take_15 hF hQ h
set_option maxHeartbeats 4000000 in
theorem kwj_X12_answer_27 {P : Prop} {m : MM} {y1 y2 s0 : Int} {rz : Int} {rm : MM} (hF : Fix m) (hQ : Kr fW_X12_answer 0 0 m rm → P)
  (h : fj_X12_answer_27 y1 y2 s0 m = some (rz, rm)) : P := by
  unfold fj_X12_answer_27 at h
  obtain ⟨x_30, m_31, hc_29, h⟩ := bd_s h
  have w_38 := (kw_X12_fails hF hc_29)
  have E_36 := Kr.ext w_38
  have w_39 := Kr.tr0 (Kr.rf (W := fW_X12_answer) (e := 0) hF) w_38 (by decide +kernel)
  rcases it_s h with ⟨hp_41, h⟩ | ⟨hp_41, h⟩
  · obtain ⟨g_49, h⟩ := gd_s h
    obtain ⟨x_51, e_52, h⟩ := lx_s h
    rcases it_s h with ⟨hp_55, h⟩ | ⟨hp_55, h⟩
    · obtain ⟨m_61, e_62, h⟩ := up_s h
      have E_65 := ext_up e_62 (And.left (fx_kF (c := 100) (Kr.fix w_39) (by decide +kernel))) (And.left g_49)
      have w_66 := Kr.upC (y := (-9)) w_39 e_62 (ext_up e_62 (And.left (fx_kF (c := 100) (Kr.fix w_39) (by decide +kernel))) (And.left g_49)) (And.left (fx_kF (c := 100) (Kr.fix w_39) (by decide +kernel))) (fx_a (Kr.fix w_39) (fx_kF (c := 100) (Kr.fix w_39) (by decide +kernel)) (And.left g_49) (by decide +kernel)) (Or.inl rfl) (by decide +kernel) (fx_kF (c := 100) (Kr.fix w_39) (by decide +kernel)) (And.left g_49) (by first | exact Or.inl (by decide) | exact Or.inr (by decide))
      obtain ⟨x_74, e_75, h⟩ := lx_s h
      obtain ⟨x_84, e_85, h⟩ := lx_s h
      obtain ⟨x_87, m_88, hc_86, h⟩ := bd_s h
      have w_95 := (kw_X12_puts (Kr.fix w_66) hc_86)
      have E_93 := Kr.ext w_95
      have w_96 := Kr.tr0 w_66 w_95 (by decide +kernel)
      cases h
      exact hQ w_96
    · cases h
      exact hQ w_39
  · cases h
    exact hQ w_39
set_option maxHeartbeats 4000000 in
theorem kw_X12_answer {m0 : MM} {p1 p2 : Int} {rz : Int} {rm : MM} (hF : Fix m0)
  (h : fm_X12_answer p1 p2 m0 = some (rz, rm)) : Kr fW_X12_answer 0 0 m0 rm := by
  have hQ : Kr fW_X12_answer 0 0 m0 rm → Kr fW_X12_answer 0 0 m0 rm := id
  unfold fm_X12_answer at h
  obtain ⟨x_2, hc_1, h⟩ := bp_s h
  rcases it_s h with ⟨hp_16, h⟩ | ⟨hp_16, h⟩
  · exact kwj_X12_answer_27 hF hQ h
  · obtain ⟨x_18, hc_17, h⟩ := bp_s h
    rcases it_s h with ⟨hp_26, h⟩ | ⟨hp_26, h⟩
    · exact kwj_X12_answer_27 hF hQ h
    · exact kwj_X12_answer_27 hF hQ h
set_option maxHeartbeats 4000000 in
theorem kwj_X12_misses_56 {P : Prop} {m : MM} {y1 : Int} {rz : Int} {rm : MM} (hF : Fix m) (hQ : Kr fW_X12_misses 0 0 m rm → P)
  (h : fj_X12_misses_56 y1 m = some (rz, rm)) : P := by
  unfold fj_X12_misses_56 at h
  obtain ⟨g_7, h⟩ := gd_s h
  obtain ⟨m_8, e_9, h⟩ := up_s h
  have E_12 := ext_up e_9 (And.left (fx_kF (c := 100) hF (by decide +kernel))) (And.left g_7)
  have w_13 := Kr.upC (y := (-9)) (Kr.rf (W := fW_X12_misses) (e := 0) hF) e_9 (ext_up e_9 (And.left (fx_kF (c := 100) hF (by decide +kernel))) (And.left g_7)) (And.left (fx_kF (c := 100) hF (by decide +kernel))) (fx_a hF (fx_kF (c := 100) hF (by decide +kernel)) (And.left g_7) (by decide +kernel)) (Or.inl rfl) (by decide +kernel) (fx_kF (c := 100) hF (by decide +kernel)) (And.left g_7) (by first | exact Or.inl (by decide) | exact Or.inr (by decide))
  obtain ⟨x_21, e_22, h⟩ := lx_s h
  obtain ⟨x_31, e_32, h⟩ := lx_s h
  obtain ⟨x_36, m_37, hc_35, h⟩ := bd_s h
  have w_44 := (kw_X12_puts (Kr.fix w_13) hc_35)
  have E_42 := Kr.ext w_44
  have w_45 := Kr.tr0 w_13 w_44 (by decide +kernel)
  cases h
  exact hQ w_45
set_option maxHeartbeats 4000000 in
theorem kw_X12_misses {m0 : MM} {p1 p2 : Int} {rz : Int} {rm : MM} (hF : Fix m0)
  (h : fm_X12_misses p1 p2 m0 = some (rz, rm)) : Kr fW_X12_misses 0 0 m0 rm := by
  have hQ : Kr fW_X12_misses 0 0 m0 rm → Kr fW_X12_misses 0 0 m0 rm := id
  unfold fm_X12_misses at h
  rcases it_s h with ⟨hp_1, h⟩ | ⟨hp_1, h⟩
  · obtain ⟨g_52, h⟩ := gd_s h
    obtain ⟨x_54, e_55, h⟩ := lx_s h
    obtain ⟨x_65, e_66, h⟩ := lx_s h
    obtain ⟨g_69, h⟩ := gd_s h
    obtain ⟨x_71, e_72, h⟩ := lx_s h
    rcases it_s h with ⟨hp_73, h⟩ | ⟨hp_73, h⟩
    · obtain ⟨m_79, e_80, h⟩ := up_s h
      have E_83 := ext_up e_80 (And.left (fx_kF (c := 100) hF (by decide +kernel))) (And.left g_52)
      have w_84 := Kr.upC (y := (-9)) (Kr.rf (W := fW_X12_misses) (e := 0) hF) e_80 (ext_up e_80 (And.left (fx_kF (c := 100) hF (by decide +kernel))) (And.left g_52)) (And.left (fx_kF (c := 100) hF (by decide +kernel))) (fx_a hF (fx_kF (c := 100) hF (by decide +kernel)) (And.left g_52) (by decide +kernel)) (Or.inl rfl) (by decide +kernel) (fx_kF (c := 100) hF (by decide +kernel)) (And.left g_52) (by first | exact Or.inl (by decide) | exact Or.inr (by decide))
      obtain ⟨x_92, e_93, h⟩ := lx_s h
      obtain ⟨x_103, e_104, h⟩ := lx_s h
      obtain ⟨g_107, h⟩ := gd_s h
      obtain ⟨x_109, e_110, h⟩ := lx_s h
      obtain ⟨m_113, e_114, h⟩ := up_s h
      have E_117 := ext_up e_114 (And.left (fx_kF (c := 100) (Kr.fix w_84) (by decide +kernel))) (And.left g_52)
      have w_118 := Kr.upC (y := (-9)) w_84 e_114 (ext_up e_114 (And.left (fx_kF (c := 100) (Kr.fix w_84) (by decide +kernel))) (And.left g_52)) (And.left (fx_kF (c := 100) (Kr.fix w_84) (by decide +kernel))) (fx_a (Kr.fix w_84) (fx_kF (c := 100) (Kr.fix w_84) (by decide +kernel)) (And.left g_52) (by decide +kernel)) (Or.inl rfl) (by decide +kernel) (fx_kF (c := 100) (Kr.fix w_84) (by decide +kernel)) (And.left g_52) (by first | exact Or.inl (by decide) | exact Or.inr (by decide))
      cases h
      exact hQ w_118
    · exact kwj_X12_misses_56 hF hQ h
  · exact kwj_X12_misses_56 hF hQ h
set_option maxHeartbeats 4000000 in
theorem kwj_X12_fail_14 {P : Prop} {m : MM} {y1 y2 s0 : Int} {rz : Int} {rm : MM} (hF : Fix m) (hQ : Kr fW_X12_fail 0 0 m rm → P)
  (h : fj_X12_fail_14 y1 y2 s0 m = some (rz, rm)) : P := by
  unfold fj_X12_fail_14 at h
  obtain ⟨x_14, m_15, hc_13, h⟩ := bd_s h
  have w_22 := (kw_X12_fails hF hc_13)
  have E_20 := Kr.ext w_22
  have w_23 := Kr.tr0 (Kr.rf (W := fW_X12_fail) (e := 0) hF) w_22 (by decide +kernel)
  rcases it_s h with ⟨hp_25, h⟩ | ⟨hp_25, h⟩
  · obtain ⟨g_33, h⟩ := gd_s h
    obtain ⟨x_35, e_36, h⟩ := lx_s h
    rcases it_s h with ⟨hp_39, h⟩ | ⟨hp_39, h⟩
    · obtain ⟨x_41, m_42, hc_40, h⟩ := bd_s h
      have w_49 := (kw_X12_misses (Kr.fix w_23) hc_40)
      have E_47 := Kr.ext w_49
      have w_50 := Kr.tr0 w_23 w_49 (by decide +kernel)
      cases h
      exact hQ w_50
    · cases h
      exact hQ w_23
  · cases h
    exact hQ w_23
set_option maxHeartbeats 4000000 in
theorem kw_X12_fail {m0 : MM} {p1 p2 : Int} {rz : Int} {rm : MM} (hF : Fix m0)
  (h : fm_X12_fail p1 p2 m0 = some (rz, rm)) : Kr fW_X12_fail 0 0 m0 rm := by
  have hQ : Kr fW_X12_fail 0 0 m0 rm → Kr fW_X12_fail 0 0 m0 rm := id
  unfold fm_X12_fail at h
  obtain ⟨x_2, hc_1, h⟩ := bp_s h
  rcases it_s h with ⟨hp_10, h⟩ | ⟨hp_10, h⟩
  · exact kwj_X12_fail_14 hF hQ h
  · exact kwj_X12_fail_14 hF hQ h
set_option maxHeartbeats 4000000 in
theorem kwj_X12_beat_27 {P : Prop} {m : MM} {y1 y2 s0 : Int} {rz : Int} {rm : MM} (hF : Fix m) (hQ : Kr fW_X12_beat 0 0 m rm → P)
  (h : fj_X12_beat_27 y1 y2 s0 m = some (rz, rm)) : P := by
  unfold fj_X12_beat_27 at h
  obtain ⟨x_30, m_31, hc_29, h⟩ := bd_s h
  have w_38 := (kw_X12_fails hF hc_29)
  have E_36 := Kr.ext w_38
  have w_39 := Kr.tr0 (Kr.rf (W := fW_X12_beat) (e := 0) hF) w_38 (by decide +kernel)
  rcases it_s h with ⟨hp_41, h⟩ | ⟨hp_41, h⟩
  · obtain ⟨g_47, h⟩ := gd_s h
    obtain ⟨x_49, e_50, h⟩ := lx_s h
    rcases it_s h with ⟨hp_53, h⟩ | ⟨hp_53, h⟩
    · obtain ⟨x_60, e_61, h⟩ := lx_s h
      obtain ⟨m_71, e_72, h⟩ := up_s h
      have E_75 := ext_up e_72 (And.left (fx_kF (c := 100) (Kr.fix w_39) (by decide +kernel))) (And.left g_47)
      have w_76 := Kr.upC (y := (-9)) w_39 e_72 (ext_up e_72 (And.left (fx_kF (c := 100) (Kr.fix w_39) (by decide +kernel))) (And.left g_47)) (And.left (fx_kF (c := 100) (Kr.fix w_39) (by decide +kernel))) (fx_a (Kr.fix w_39) (fx_kF (c := 100) (Kr.fix w_39) (by decide +kernel)) (And.left g_47) (by decide +kernel)) (Or.inl rfl) (by decide +kernel) (fx_kF (c := 100) (Kr.fix w_39) (by decide +kernel)) (And.left g_47) (by first | exact Or.inl (by decide) | exact Or.inr (by decide))
      obtain ⟨x_84, e_85, h⟩ := lx_s h
      obtain ⟨m_86, e_87, h⟩ := up_s h
      have E_90 := ext_up e_87 (And.left (fx_kF (c := 100) (Kr.fix w_76) (by decide +kernel))) (And.left g_47)
      have w_91 := Kr.upC (y := (-9)) w_76 e_87 (ext_up e_87 (And.left (fx_kF (c := 100) (Kr.fix w_76) (by decide +kernel))) (And.left g_47)) (And.left (fx_kF (c := 100) (Kr.fix w_76) (by decide +kernel))) (fx_a (Kr.fix w_76) (fx_kF (c := 100) (Kr.fix w_76) (by decide +kernel)) (And.left g_47) (by decide +kernel)) (Or.inl rfl) (by decide +kernel) (fx_kF (c := 100) (Kr.fix w_76) (by decide +kernel)) (And.left g_47) (by first | exact Or.inl (by decide) | exact Or.inr (by decide))
      cases h
      exact hQ w_91
    · cases h
      exact hQ w_39
  · cases h
    exact hQ w_39
set_option maxHeartbeats 4000000 in
theorem kw_X12_beat {m0 : MM} {p1 p2 : Int} {rz : Int} {rm : MM} (hF : Fix m0)
  (h : fm_X12_beat p1 p2 m0 = some (rz, rm)) : Kr fW_X12_beat 0 0 m0 rm := by
  have hQ : Kr fW_X12_beat 0 0 m0 rm → Kr fW_X12_beat 0 0 m0 rm := id
  unfold fm_X12_beat at h
  obtain ⟨x_2, hc_1, h⟩ := bp_s h
  rcases it_s h with ⟨hp_16, h⟩ | ⟨hp_16, h⟩
  · exact kwj_X12_beat_27 hF hQ h
  · obtain ⟨x_18, hc_17, h⟩ := bp_s h
    rcases it_s h with ⟨hp_26, h⟩ | ⟨hp_26, h⟩
    · exact kwj_X12_beat_27 hF hQ h
    · exact kwj_X12_beat_27 hF hQ h
set_option maxHeartbeats 4000000 in
theorem kwj_X12_activity_14 {P : Prop} {m : MM} {y1 s0 : Int} {rz : Int} {rm : MM} (hF : Fix m) (hQ : Kr fW_X12_activity 0 0 m rm → P)
  (h : fj_X12_activity_14 y1 s0 m = some (rz, rm)) : P := by
  unfold fj_X12_activity_14 at h
  obtain ⟨x_14, m_15, hc_13, h⟩ := bd_s h
  have w_22 := (kw_X12_fails hF hc_13)
  have E_20 := Kr.ext w_22
  have w_23 := Kr.tr0 (Kr.rf (W := fW_X12_activity) (e := 0) hF) w_22 (by decide +kernel)
  rcases it_s h with ⟨hp_25, h⟩ | ⟨hp_25, h⟩
  · obtain ⟨g_33, h⟩ := gd_s h
    obtain ⟨x_35, e_36, h⟩ := lx_s h
    obtain ⟨x_47, e_48, h⟩ := lx_s h
    obtain ⟨x_59, e_60, h⟩ := lx_s h
    cases h
    exact hQ w_23
  · cases h
    exact hQ w_23
set_option maxHeartbeats 4000000 in
theorem kw_X12_activity {m0 : MM} {p1 : Int} {rz : Int} {rm : MM} (hF : Fix m0)
  (h : fm_X12_activity p1 m0 = some (rz, rm)) : Kr fW_X12_activity 0 0 m0 rm := by
  have hQ : Kr fW_X12_activity 0 0 m0 rm → Kr fW_X12_activity 0 0 m0 rm := id
  unfold fm_X12_activity at h
  obtain ⟨x_2, hc_1, h⟩ := bp_s h
  rcases it_s h with ⟨hp_10, h⟩ | ⟨hp_10, h⟩
  · exact kwj_X12_activity_14 hF hQ h
  · exact kwj_X12_activity_14 hF hQ h
set_option maxHeartbeats 4000000 in
theorem kwj_X12_fires_73 {P : Prop} {m : MM} {y2 y3 s0 : Int} {rz : Int} {rm : MM} {c : Int → Int → Option (Int × MM)} {k105 : Int → Option (Int × MM)} (hF : Fix m)
  (hc : ∀ {z2 z3 : Int}, c z2 z3 = some (rz, rm) → P)
  (hk105 : ∀ {z2 : Int}, k105 z2 = some (rz, rm) → P) (hQ : Kr fW_X12_fires 0 0 m rm → P)
  (h : fj_X12_fires_73 c k105 y2 y3 s0 m = some (rz, rm)) : P := by
  unfold fj_X12_fires_73 at h
  obtain ⟨g_43, h⟩ := gd_s h
  obtain ⟨x_45, e_46, h⟩ := lx_s h
  obtain ⟨x_50, e_51, h⟩ := lx_s h
  rcases it_s h with ⟨hp_52, h⟩ | ⟨hp_52, h⟩
  · obtain ⟨x_63, e_64, h⟩ := lx_s h
    exact hc h
  · rcases it_s h with ⟨hp_68, h⟩ | ⟨hp_68, h⟩
    · obtain ⟨x_79, e_80, h⟩ := lx_s h
      exact hc h
    · obtain ⟨x_94, e_95, h⟩ := lx_s h
      exact hc h
set_option maxHeartbeats 4000000 in
theorem kwl_X12_fires_10 {P : Prop} {m : MM} {k105 : Int → Option (Int × MM)} {rz : Int} {rm : MM} (hF : Fix m)
  (hk105 : ∀ {z2 : Int}, k105 z2 = some (rz, rm) → P) (hQ : Kr fW_X12_fires 0 0 m rm → P) :
  ∀ (n : Nat) {y2 y3 : Int} , fl_X12_fires_10 m k105 n y2 y3 = some (rz, rm) → P := by
  intro n
  induction n with
  | zero => intro y2 y3 h; cases h
  | succ n ih0 =>
    intro y2 y3 h
    have ih : ∀ {z2 z3 : Int}, fl_X12_fires_10 m k105 n z2 z3 = some (rz, rm) → P := by intros; exact ih0 ‹_›
    unfold fl_X12_fires_10 at h
    obtain ⟨x_24, e_25, h⟩ := lx_s h
    rcases it_s h with ⟨hp_26, h⟩ | ⟨hp_26, h⟩
    · rcases it_s h with ⟨hp_29, h⟩ | ⟨hp_29, h⟩
      · exact kwj_X12_fires_73 hF ih hk105 hQ h
      · obtain ⟨g_104, h⟩ := gd_s h
        obtain ⟨x_106, e_107, h⟩ := lx_s h
        obtain ⟨g_113, h⟩ := gd_s h
        obtain ⟨x_115, e_116, h⟩ := lx_s h
        rcases it_s h with ⟨hp_117, h⟩ | ⟨hp_117, h⟩
        · exact kwj_X12_fires_73 hF ih hk105 hQ h
        · rcases it_s h with ⟨hp_132, h⟩ | ⟨hp_132, h⟩
          · obtain ⟨x_141, e_142, h⟩ := lx_s h
            obtain ⟨x_149, e_150, h⟩ := lx_s h
            rcases it_s h with ⟨hp_151, h⟩ | ⟨hp_151, h⟩
            · exact kwj_X12_fires_73 hF ih hk105 hQ h
            · exact kwj_X12_fires_73 hF ih hk105 hQ h
          · exact kwj_X12_fires_73 hF ih hk105 hQ h
    · exact hk105 h
set_option maxHeartbeats 4000000 in
theorem kwj_X12_fires_115 {P : Prop} {m : MM} {y2 s0 : Int} {rz : Int} {rm : MM} {c : Int → MM → Option (Int × MM)} (hF : Fix m)
  (hc : ∀ mq : MM, Kr fW_X12_fires 0 0 m mq → ∀ {z1 : Int}, c z1 mq = some (rz, rm) → P) (hQ : Kr fW_X12_fires 0 0 m rm → P)
  (h : fj_X12_fires_115 c y2 s0 m = some (rz, rm)) : P := by
  unfold fj_X12_fires_115 at h
  rcases it_s h with ⟨hp_176, h⟩ | ⟨hp_176, h⟩
  · exact hc m (Kr.rf (W := fW_X12_fires) (e := 0) hF) h
  · obtain ⟨g_182, h⟩ := gd_s h
    obtain ⟨x_184, e_185, h⟩ := lx_s h
    obtain ⟨x_194, e_195, h⟩ := lx_s h
    obtain ⟨x_199, m_200, hc_198, h⟩ := bd_s h
    have w_207 := (kw_X12_puts hF hc_198)
    have E_205 := Kr.ext w_207
    have w_208 := Kr.tr0 (Kr.rf (W := fW_X12_fires) (e := 0) hF) w_207 (by decide +kernel)
    obtain ⟨x_211, m_212, hc_210, h⟩ := bd_s h
    have w_219 := (kw_X12_removesTimer (Kr.fix w_208) hc_210)
    have E_217 := Kr.ext w_219
    have w_220 := Kr.tr0 w_208 w_219 (by decide +kernel)
    exact hc m_212 w_220 h
set_option maxHeartbeats 4000000 in
theorem kwl_X12_fires_2 {P : Prop} {mb : MM} {rz : Int} {rm : MM} (hF0 : Fix mb) (hQ : Kr fW_X12_fires 0 0 mb rm → P) :
  ∀ (n : Nat) {m : MM} {y1 : Int} , Kr fW_X12_fires 0 0 mb m → fl_X12_fires_2 n y1 m = some (rz, rm) → P := by
  intro n
  induction n with
  | zero => intro m y1 w h; cases h
  | succ n ih0 =>
    intro m y1 w h
    have ih : ∀ mq : MM, Kr fW_X12_fires 0 0 mb mq → ∀ {z1 : Int}, fl_X12_fires_2 n z1 mq = some (rz, rm) → P := fun mq b => by intros; exact ih0 b ‹_›
    unfold fl_X12_fires_2 at h
    rcases it_s h with ⟨hp_7, h⟩ | ⟨hp_7, h⟩
    · cases h
      exact hQ w
    · refine kwl_X12_fires_10 (Kr.fix w) ?_ (fun f => hQ (Kr.trS w f)) BIG h
      intro x_156
      intro h
      rcases it_s h with ⟨hp_168, h⟩ | ⟨hp_168, h⟩
      · exact kwj_X12_fires_115 (Kr.fix w) (fun mq f => ih mq (Kr.trS w f)) (fun f => hQ (Kr.trS w f)) h
      · exact kwj_X12_fires_115 (Kr.fix w) (fun mq f => ih mq (Kr.trS w f)) (fun f => hQ (Kr.trS w f)) h
set_option maxHeartbeats 4000000 in
theorem kw_X12_fires {m0 : MM} {rz : Int} {rm : MM} (hF : Fix m0)
  (h : fm_X12_fires m0 = some (rz, rm)) : Kr fW_X12_fires 0 0 m0 rm := by
  have hQ : Kr fW_X12_fires 0 0 m0 rm → Kr fW_X12_fires 0 0 m0 rm := id
  unfold fm_X12_fires at h
  refine kwl_X12_fires_2 hF  hQ BIG (Kr.rf hF) h
set_option maxHeartbeats 4000000 in
theorem kwj_X12_looksAtActivities_205 {P : Prop} {m : MM} {y1 : Int} {rz : Int} {rm : MM} {c : Int → MM → Option (Int × MM)} (hF : Fix m)
  (hc : ∀ mq : MM, Kr fW_X12_looksAtActivities 0 0 m mq → ∀ {z1 : Int}, c z1 mq = some (rz, rm) → P) (hQ : Kr fW_X12_looksAtActivities 0 0 m rm → P)
  (h : fj_X12_looksAtActivities_205 c y1 m = some (rz, rm)) : P := by
  unfold fj_X12_looksAtActivities_205 at h
  obtain ⟨x_91, m_92, hc_90, h⟩ := bd_s h
  have w_99 := (kw_X12_misses hF hc_90)
  have E_97 := Kr.ext w_99
  have w_100 := Kr.tr0 (Kr.rf (W := fW_X12_looksAtActivities) (e := 0) hF) w_99 (by decide +kernel)
  obtain ⟨x_107, e_108, h⟩ := lx_s h
  exact hc m_92 w_100 h
set_option maxHeartbeats 4000000 in
theorem kwj_X12_looksAtActivities_160 {P : Prop} {m : MM} {y1 y3 y4 s0 : Int} {rz : Int} {rm : MM} {c : Int → MM → Option (Int × MM)} (hF : Fix m)
  (hc : ∀ mq : MM, Kr fW_X12_looksAtActivities 0 0 m mq → ∀ {z1 : Int}, c z1 mq = some (rz, rm) → P) (hQ : Kr fW_X12_looksAtActivities 0 0 m rm → P)
  (h : fj_X12_looksAtActivities_160 c y1 y3 y4 s0 m = some (rz, rm)) : P := by
  unfold fj_X12_looksAtActivities_160 at h
  rcases it_s h with ⟨hp_86, h⟩ | ⟨hp_86, h⟩
  · rcases it_s h with ⟨hp_87, h⟩ | ⟨hp_87, h⟩
    · rcases it_s h with ⟨hp_111, h⟩ | ⟨hp_111, h⟩
      · obtain ⟨x_117, e_118, h⟩ := lx_s h
        exact hc m (Kr.rf (W := fW_X12_looksAtActivities) (e := 0) hF) h
      · exact kwj_X12_looksAtActivities_205 hF hc hQ h
    · exact kwj_X12_looksAtActivities_205 hF hc hQ h
  · obtain ⟨g_126, h⟩ := gd_s h
    obtain ⟨m_127, e_128, h⟩ := up_s h
    have E_131 := ext_up e_128 (And.left (fx_kF (c := 100) hF (by decide +kernel))) (And.left g_126)
    have w_132 := Kr.upC (y := (-9)) (Kr.rf (W := fW_X12_looksAtActivities) (e := 0) hF) e_128 (ext_up e_128 (And.left (fx_kF (c := 100) hF (by decide +kernel))) (And.left g_126)) (And.left (fx_kF (c := 100) hF (by decide +kernel))) (fx_a hF (fx_kF (c := 100) hF (by decide +kernel)) (And.left g_126) (by decide +kernel)) (Or.inl rfl) (by decide +kernel) (fx_kF (c := 100) hF (by decide +kernel)) (And.left g_126) (by first | exact Or.inl (by decide) | exact Or.inr (by decide))
    obtain ⟨x_140, e_141, h⟩ := lx_s h
    obtain ⟨x_150, e_151, h⟩ := lx_s h
    obtain ⟨x_155, m_156, hc_154, h⟩ := bd_s h
    have w_163 := (kw_X12_puts (Kr.fix w_132) hc_154)
    have E_161 := Kr.ext w_163
    have w_164 := Kr.tr0 w_132 w_163 (by decide +kernel)
    obtain ⟨x_171, e_172, h⟩ := lx_s h
    exact hc m_156 w_164 h
set_option maxHeartbeats 4000000 in
theorem kwj_X12_looksAtActivities_114 {P : Prop} {m : MM} {y1 y2 y3 s0 : Int} {rz : Int} {rm : MM} {c : Int → MM → Option (Int × MM)} (hF : Fix m)
  (hc : ∀ mq : MM, Kr fW_X12_looksAtActivities 0 0 m mq → ∀ {z1 : Int}, c z1 mq = some (rz, rm) → P) (hQ : Kr fW_X12_looksAtActivities 0 0 m rm → P)
  (h : fj_X12_looksAtActivities_114 c y1 y2 y3 s0 m = some (rz, rm)) : P := by
  unfold fj_X12_looksAtActivities_114 at h
  obtain ⟨g_70, h⟩ := gd_s h
  obtain ⟨x_72, e_73, h⟩ := lx_s h
  rcases it_s h with ⟨hp_76, h⟩ | ⟨hp_76, h⟩
  · obtain ⟨g_180, h⟩ := gd_s h
    obtain ⟨x_182, e_183, h⟩ := lx_s h
    rcases it_s h with ⟨hp_184, h⟩ | ⟨hp_184, h⟩
    · obtain ⟨x_190, e_191, h⟩ := lx_s h
      obtain ⟨x_198, e_199, h⟩ := lx_s h
      rcases it_s h with ⟨hp_208, h⟩ | ⟨hp_208, h⟩
      · exact kwj_X12_looksAtActivities_160 hF hc hQ h
      · exact kwj_X12_looksAtActivities_160 hF hc hQ h
    · exact kwj_X12_looksAtActivities_160 hF hc hQ h
  · exact kwj_X12_looksAtActivities_160 hF hc hQ h
set_option maxHeartbeats 4000000 in
theorem kwj_X12_looksAtActivities_69 {P : Prop} {m : MM} {y1 y2 s0 : Int} {rz : Int} {rm : MM} {c : Int → MM → Option (Int × MM)} (hF : Fix m)
  (hc : ∀ mq : MM, Kr fW_X12_looksAtActivities 0 0 m mq → ∀ {z1 : Int}, c z1 mq = some (rz, rm) → P) (hQ : Kr fW_X12_looksAtActivities 0 0 m rm → P)
  (h : fj_X12_looksAtActivities_69 c y1 y2 s0 m = some (rz, rm)) : P := by
  unfold fj_X12_looksAtActivities_69 at h
  obtain ⟨g_49, h⟩ := gd_s h
  obtain ⟨x_51, e_52, h⟩ := lx_s h
  rcases it_s h with ⟨hp_55, h⟩ | ⟨hp_55, h⟩
  · obtain ⟨g_218, h⟩ := gd_s h
    obtain ⟨x_220, e_221, h⟩ := lx_s h
    rcases it_s h with ⟨hp_222, h⟩ | ⟨hp_222, h⟩
    · obtain ⟨x_228, e_229, h⟩ := lx_s h
      obtain ⟨x_236, e_237, h⟩ := lx_s h
      rcases it_s h with ⟨hp_246, h⟩ | ⟨hp_246, h⟩
      · exact kwj_X12_looksAtActivities_114 hF hc hQ h
      · exact kwj_X12_looksAtActivities_114 hF hc hQ h
    · exact kwj_X12_looksAtActivities_114 hF hc hQ h
  · exact kwj_X12_looksAtActivities_114 hF hc hQ h
set_option maxHeartbeats 4000000 in
theorem kwl_X12_looksAtActivities_2 {P : Prop} {mb : MM} {rz : Int} {rm : MM} (hF0 : Fix mb) (hQ : Kr fW_X12_looksAtActivities 0 0 mb rm → P) :
  ∀ (n : Nat) {m : MM} {y1 : Int} , Kr fW_X12_looksAtActivities 0 0 mb m → fl_X12_looksAtActivities_2 n y1 m = some (rz, rm) → P := by
  intro n
  induction n with
  | zero => intro m y1 w h; cases h
  | succ n ih0 =>
    intro m y1 w h
    have ih : ∀ mq : MM, Kr fW_X12_looksAtActivities 0 0 mb mq → ∀ {z1 : Int}, fl_X12_looksAtActivities_2 n z1 mq = some (rz, rm) → P := fun mq b => by intros; exact ih0 b ‹_›
    unfold fl_X12_looksAtActivities_2 at h
    obtain ⟨x_10, e_11, h⟩ := lx_s h
    rcases it_s h with ⟨hp_12, h⟩ | ⟨hp_12, h⟩
    · obtain ⟨g_18, h⟩ := gd_s h
      obtain ⟨x_20, e_21, h⟩ := lx_s h
      obtain ⟨x_33, e_34, h⟩ := lx_s h
      rcases it_s h with ⟨hp_35, h⟩ | ⟨hp_35, h⟩
      · obtain ⟨x_257, e_258, h⟩ := lx_s h
        rcases it_s h with ⟨hp_259, h⟩ | ⟨hp_259, h⟩
        · obtain ⟨g_267, h⟩ := gd_s h
          obtain ⟨x_269, e_270, h⟩ := lx_s h
          rcases it_s h with ⟨hp_271, h⟩ | ⟨hp_271, h⟩
          · obtain ⟨x_277, e_278, h⟩ := lx_s h
            obtain ⟨x_285, e_286, h⟩ := lx_s h
            rcases it_s h with ⟨hp_295, h⟩ | ⟨hp_295, h⟩
            · exact kwj_X12_looksAtActivities_69 (Kr.fix w) (fun mq f => ih mq (Kr.trS w f)) (fun f => hQ (Kr.trS w f)) h
            · exact kwj_X12_looksAtActivities_69 (Kr.fix w) (fun mq f => ih mq (Kr.trS w f)) (fun f => hQ (Kr.trS w f)) h
          · exact kwj_X12_looksAtActivities_69 (Kr.fix w) (fun mq f => ih mq (Kr.trS w f)) (fun f => hQ (Kr.trS w f)) h
        · exact kwj_X12_looksAtActivities_69 (Kr.fix w) (fun mq f => ih mq (Kr.trS w f)) (fun f => hQ (Kr.trS w f)) h
      · exact kwj_X12_looksAtActivities_69 (Kr.fix w) (fun mq f => ih mq (Kr.trS w f)) (fun f => hQ (Kr.trS w f)) h
    · cases h
      exact hQ w
set_option maxHeartbeats 4000000 in
theorem kw_X12_looksAtActivities {m0 : MM} {rz : Int} {rm : MM} (hF : Fix m0)
  (h : fm_X12_looksAtActivities m0 = some (rz, rm)) : Kr fW_X12_looksAtActivities 0 0 m0 rm := by
  have hQ : Kr fW_X12_looksAtActivities 0 0 m0 rm → Kr fW_X12_looksAtActivities 0 0 m0 rm := id
  unfold fm_X12_looksAtActivities at h
  refine kwl_X12_looksAtActivities_2 hF  hQ BIG (Kr.rf hF) h
set_option maxHeartbeats 4000000 in
theorem kw_X12_beginsFor {m0 : MM} {p1 p2 : Int} {rz : Int} {rm : MM} (hF : Fix m0)
  (h : fm_X12_beginsFor p1 p2 m0 = some (rz, rm)) : Kr fW_X12_beginsFor 0 0 m0 rm := by
  have hQ : Kr fW_X12_beginsFor 0 0 m0 rm → Kr fW_X12_beginsFor 0 0 m0 rm := id
  unfold fm_X12_beginsFor at h
  obtain ⟨g_6, h⟩ := gd_s h
  obtain ⟨x_8, e_9, h⟩ := lx_s h
  obtain ⟨x_19, e_20, h⟩ := lx_s h
  rcases it_s h with ⟨hp_23, h⟩ | ⟨hp_23, h⟩
  · cases h
    exact hQ (Kr.rf (W := fW_X12_beginsFor) (e := 0) hF)
  · obtain ⟨x_30, e_31, h⟩ := lx_s h
    obtain ⟨g_37, h⟩ := gd_s h
    obtain ⟨x_39, e_40, h⟩ := lx_s h
    obtain ⟨x_50, m_51, hc_49, h⟩ := bd_s h
    have w_58 := (kw_X12_makes hF hc_49)
    have E_56 := Kr.ext w_58
    have w_59 := Kr.tr0 (Kr.rf (W := fW_X12_beginsFor) (e := 0) hF) w_58 (by decide +kernel)
    cases h
    exact hQ w_59
set_option maxHeartbeats 4000000 in
theorem kw_X12_comes {m0 : MM} {p1 p2 : Int} {rz : Int} {rm : MM} (hF : Fix m0)
  (h : fm_X12_comes p1 p2 m0 = some (rz, rm)) : Kr fW_X12_comes 0 0 m0 rm := by
  have hQ : Kr fW_X12_comes 0 0 m0 rm → Kr fW_X12_comes 0 0 m0 rm := id
  unfold fm_X12_comes at h
  obtain ⟨x_2, m_3, hc_1, h⟩ := bd_s h
  have w_10 := (kw_X12_beginsFor hF hc_1)
  have E_8 := Kr.ext w_10
  have w_11 := Kr.tr0 (Kr.rf (W := fW_X12_comes) (e := 0) hF) w_10 (by decide +kernel)
  rcases it_s h with ⟨hp_23, h⟩ | ⟨hp_23, h⟩
  · obtain ⟨g_37, h⟩ := gd_s h
    obtain ⟨x_39, e_40, h⟩ := lx_s h
    obtain ⟨m_41, e_42, h⟩ := up_s h
    have E_45 := ext_up e_42 (And.left (fx_kF (c := 100) (Kr.fix w_11) (by decide +kernel))) (And.left g_37)
    have w_46 := Kr.upC (y := (-9)) w_11 e_42 (ext_up e_42 (And.left (fx_kF (c := 100) (Kr.fix w_11) (by decide +kernel))) (And.left g_37)) (And.left (fx_kF (c := 100) (Kr.fix w_11) (by decide +kernel))) (fx_a (Kr.fix w_11) (fx_kF (c := 100) (Kr.fix w_11) (by decide +kernel)) (And.left g_37) (by decide +kernel)) (Or.inl rfl) (by decide +kernel) (fx_kF (c := 100) (Kr.fix w_11) (by decide +kernel)) (And.left g_37) (by first | exact Or.inl (by decide) | exact Or.inr (by decide))
    cases h
    exact hQ w_46
  · obtain ⟨g_24, h⟩ := gd_s h
    obtain ⟨m_25, e_26, h⟩ := up_s h
    have E_29 := ext_up e_26 (And.left (fx_kF (c := 100) (Kr.fix w_11) (by decide +kernel))) (And.left g_24)
    have w_30 := Kr.upC (y := (-9)) w_11 e_26 (ext_up e_26 (And.left (fx_kF (c := 100) (Kr.fix w_11) (by decide +kernel))) (And.left g_24)) (And.left (fx_kF (c := 100) (Kr.fix w_11) (by decide +kernel))) (fx_a (Kr.fix w_11) (fx_kF (c := 100) (Kr.fix w_11) (by decide +kernel)) (And.left g_24) (by decide +kernel)) (Or.inl rfl) (by decide +kernel) (fx_kF (c := 100) (Kr.fix w_11) (by decide +kernel)) (And.left g_24) (by first | exact Or.inl (by decide) | exact Or.inr (by decide))
    cases h
    exact hQ w_30
set_option maxHeartbeats 4000000 in
theorem kwj_X12_point_18 {P : Prop} {m : MM} {y1 y2 : Int} {rz : Int} {rm : MM} (hF : Fix m) (hQ : Kr fW_X12_point 0 0 m rm → P)
  (h : fj_X12_point_18 y1 y2 m = some (rz, rm)) : P := by
  unfold fj_X12_point_18 at h
  obtain ⟨x_12, m_13, hc_11, h⟩ := bd_s h
  have w_20 := (kw_X12_comes hF hc_11)
  have E_18 := Kr.ext w_20
  have w_21 := Kr.tr0 (Kr.rf (W := fW_X12_point) (e := 0) hF) w_20 (by decide +kernel)
  cases h
  exact hQ w_21
set_option maxHeartbeats 4000000 in
theorem kwj_X12_point_63 {P : Prop} {m : MM} {y1 y2 : Int} {rz : Int} {rm : MM} (hF : Fix m) (hQ : Kr fW_X12_point 0 0 m rm → P)
  (h : fj_X12_point_63 y1 y2 m = some (rz, rm)) : P := by
  unfold fj_X12_point_63 at h
  obtain ⟨g_49, h⟩ := gd_s h
  obtain ⟨x_51, e_52, h⟩ := lx_s h
  rcases it_s h with ⟨hp_55, h⟩ | ⟨hp_55, h⟩
  · obtain ⟨x_62, e_63, h⟩ := lx_s h
    obtain ⟨x_65, m_66, hc_64, h⟩ := bd_s h
    have w_73 := (kw_X12_cancels hF hc_64)
    have E_71 := Kr.ext w_73
    have w_74 := Kr.tr0 (Kr.rf (W := fW_X12_point) (e := 0) hF) w_73 (by decide +kernel)
    obtain ⟨x_77, m_78, hc_76, h⟩ := bd_s h
    have w_85 := (kw_X12_comes (Kr.fix w_74) hc_76)
    have E_83 := Kr.ext w_85
    have w_86 := Kr.tr0 w_74 w_85 (by decide +kernel)
    cases h
    exact hQ w_86
  · cases h
    exact hQ (Kr.rf (W := fW_X12_point) (e := 0) hF)
set_option maxHeartbeats 4000000 in
theorem kw_X12_point {m0 : MM} {p1 p2 : Int} {rz : Int} {rm : MM} (hF : Fix m0)
  (h : fm_X12_point p1 p2 m0 = some (rz, rm)) : Kr fW_X12_point 0 0 m0 rm := by
  have hQ : Kr fW_X12_point 0 0 m0 rm → Kr fW_X12_point 0 0 m0 rm := id
  unfold fm_X12_point at h
  obtain ⟨x_2, hc_1, h⟩ := bp_s h
  rcases it_s h with ⟨hp_10, h⟩ | ⟨hp_10, h⟩
  · exact kwj_X12_point_18 hF hQ h
  · obtain ⟨g_28, h⟩ := gd_s h
    obtain ⟨x_30, e_31, h⟩ := lx_s h
    rcases it_s h with ⟨hp_34, h⟩ | ⟨hp_34, h⟩
    · exact kwj_X12_point_18 hF hQ h
    · rcases it_s h with ⟨hp_43, h⟩ | ⟨hp_43, h⟩
      · obtain ⟨x_94, e_95, h⟩ := lx_s h
        rcases it_s h with ⟨hp_96, h⟩ | ⟨hp_96, h⟩
        · obtain ⟨m_102, e_103, h⟩ := up_s h
          have E_106 := ext_up e_103 (And.left (fx_kF (c := 102) hF (by decide +kernel))) (And.left g_28)
          have w_107 := Kr.upC (y := (-9)) (Kr.rf (W := fW_X12_point) (e := 0) hF) e_103 (ext_up e_103 (And.left (fx_kF (c := 102) hF (by decide +kernel))) (And.left g_28)) (And.left (fx_kF (c := 102) hF (by decide +kernel))) (fx_a hF (fx_kF (c := 102) hF (by decide +kernel)) (And.left g_28) (by decide +kernel)) (Or.inl rfl) (by decide +kernel) (fx_kF (c := 102) hF (by decide +kernel)) (And.left g_28) (by first | exact Or.inl (by decide) | exact Or.inr (by decide))
          obtain ⟨m_112, e_113, h⟩ := up_s h
          have E_116 := ext_up e_113 (And.left (fx_kF (c := 100) (Kr.fix w_107) (by decide +kernel))) (And.left g_28)
          have w_117 := Kr.upC (y := (-9)) w_107 e_113 (ext_up e_113 (And.left (fx_kF (c := 100) (Kr.fix w_107) (by decide +kernel))) (And.left g_28)) (And.left (fx_kF (c := 100) (Kr.fix w_107) (by decide +kernel))) (fx_a (Kr.fix w_107) (fx_kF (c := 100) (Kr.fix w_107) (by decide +kernel)) (And.left g_28) (by decide +kernel)) (Or.inl rfl) (by decide +kernel) (fx_kF (c := 100) (Kr.fix w_107) (by decide +kernel)) (And.left g_28) (by first | exact Or.inl (by decide) | exact Or.inr (by decide))
          cases h
          exact hQ w_117
        · exact kwj_X12_point_63 hF hQ h
      · exact kwj_X12_point_63 hF hQ h
set_option maxHeartbeats 4000000 in
theorem kwl_X12_looksAtSchedule_54 {P : Prop} {mb : MM} {y1 y2 : Int} {k94 : MM → Option (Int × MM)} {rz : Int} {rm : MM} (hF0 : Fix mb)
  (hk94 : ∀ mq : MM, Kr fW_X12_looksAtSchedule 0 0 mb mq → k94 mq = some (rz, rm) → P) (hQ : Kr fW_X12_looksAtSchedule 0 0 mb rm → P) :
  ∀ (n : Nat) {m : MM} {y3 : Int} , Kr fW_X12_looksAtSchedule 0 0 mb m → fl_X12_looksAtSchedule_54 y1 y2 k94 n y3 m = some (rz, rm) → P := by
  intro n
  induction n with
  | zero => intro m y3 w h; cases h
  | succ n ih0 =>
    intro m y3 w h
    have ih : ∀ mq : MM, Kr fW_X12_looksAtSchedule 0 0 mb mq → ∀ {z3 : Int}, fl_X12_looksAtSchedule_54 y1 y2 k94 n z3 mq = some (rz, rm) → P := fun mq b => by intros; exact ih0 b ‹_›
    unfold fl_X12_looksAtSchedule_54 at h
    rcases it_s h with ⟨hp_53, h⟩ | ⟨hp_53, h⟩
    · exact hk94 m w h
    · obtain ⟨g_59, h⟩ := gd_s h
      obtain ⟨x_61, e_62, h⟩ := lx_s h
      obtain ⟨g_65, h⟩ := gd_s h
      rcases it_s h with ⟨hp_66, h⟩ | ⟨hp_66, h⟩
      · obtain ⟨x_84, e_85, h⟩ := lx_s h
        rcases it_s h with ⟨hp_86, h⟩ | ⟨hp_86, h⟩
        · obtain ⟨x_99, hc_98, h⟩ := bp_s h
          obtain ⟨x_108, m_109, hc_107, h⟩ := bd_s h
          have w_116 := (kw_X12_point (Kr.fix w) hc_107)
          have E_114 := Kr.ext w_116
          have w_117 := Kr.tr0 w w_116 (by decide +kernel)
          obtain ⟨x_124, e_125, h⟩ := lx_s h
          exact ih m_109 w_117 h
        · obtain ⟨x_92, e_93, h⟩ := lx_s h
          exact ih m w h
      · obtain ⟨x_72, e_73, h⟩ := lx_s h
        exact ih m w h
set_option maxHeartbeats 4000000 in
theorem kwj_X12_looksAtSchedule_35 {P : Prop} {m : MM} {y1 : Int} {rz : Int} {rm : MM} (hF : Fix m) (hQ : Kr fW_X12_looksAtSchedule 0 0 m rm → P)
  (h : fj_X12_looksAtSchedule_35 y1 m = some (rz, rm)) : P := by
  unfold fj_X12_looksAtSchedule_35 at h
  obtain ⟨x_14, e_15, h⟩ := lx_s h
  obtain ⟨x_19, e_20, h⟩ := lx_s h
  obtain ⟨x_23, e_24, h⟩ := lx_s h
  obtain ⟨g_36, h⟩ := gd_s h
  obtain ⟨x_38, e_39, h⟩ := lx_s h
  obtain ⟨x_44, e_45, h⟩ := lx_s h
  refine kwl_X12_looksAtSchedule_54 hF ?_ hQ BIG (Kr.rf hF) h
  intro m_142 w_145
  intro h
  have E_143 := Kr.ext w_145
  have w_146 := w_145
  obtain ⟨x_156, e_157, h⟩ := lx_s h
  obtain ⟨x_159, hc_158, h⟩ := bp_s h
  obtain ⟨m_167, e_168, h⟩ := up_s h
  have E_171 := ext_up e_168 (And.left (fx_kF (c := 100) (Kr.fix w_146) (by decide +kernel))) (And.left g_36)
  have w_172 := Kr.upC (y := (-9)) w_146 e_168 (ext_up e_168 (And.left (fx_kF (c := 100) (Kr.fix w_146) (by decide +kernel))) (And.left g_36)) (And.left (fx_kF (c := 100) (Kr.fix w_146) (by decide +kernel))) (fx_a (Kr.fix w_146) (fx_kF (c := 100) (Kr.fix w_146) (by decide +kernel)) (And.left g_36) (by decide +kernel)) (Or.inl rfl) (by decide +kernel) (fx_kF (c := 100) (Kr.fix w_146) (by decide +kernel)) (And.left g_36) (by first | exact Or.inl (by decide) | exact Or.inr (by decide))
  cases h
  exact hQ w_172
set_option maxHeartbeats 4000000 in
theorem kw_X12_looksAtSchedule {m0 : MM} {p1 : Int} {rz : Int} {rm : MM} (hF : Fix m0)
  (h : fm_X12_looksAtSchedule p1 m0 = some (rz, rm)) : Kr fW_X12_looksAtSchedule 0 0 m0 rm := by
  have hQ : Kr fW_X12_looksAtSchedule 0 0 m0 rm → Kr fW_X12_looksAtSchedule 0 0 m0 rm := id
  unfold fm_X12_looksAtSchedule at h
  obtain ⟨g_6, h⟩ := gd_s h
  obtain ⟨x_8, e_9, h⟩ := lx_s h
  rcases it_s h with ⟨hp_10, h⟩ | ⟨hp_10, h⟩
  · exact kwj_X12_looksAtSchedule_35 hF hQ h
  · obtain ⟨x_175, hc_174, h⟩ := bp_s h
    rcases it_s h with ⟨hp_183, h⟩ | ⟨hp_183, h⟩
    · obtain ⟨m_189, e_190, h⟩ := up_s h
      have E_193 := ext_up e_190 (And.left (fx_kF (c := 102) hF (by decide +kernel))) (And.left g_6)
      have w_194 := Kr.upC (y := (-9)) (Kr.rf (W := fW_X12_looksAtSchedule) (e := 0) hF) e_190 (ext_up e_190 (And.left (fx_kF (c := 102) hF (by decide +kernel))) (And.left g_6)) (And.left (fx_kF (c := 102) hF (by decide +kernel))) (fx_a hF (fx_kF (c := 102) hF (by decide +kernel)) (And.left g_6) (by decide +kernel)) (Or.inl rfl) (by decide +kernel) (fx_kF (c := 102) hF (by decide +kernel)) (And.left g_6) (by first | exact Or.inl (by decide) | exact Or.inr (by decide))
      obtain ⟨x_202, e_203, h⟩ := lx_s h
      obtain ⟨x_205, m_206, hc_204, h⟩ := bd_s h
      have w_213 := (kw_X12_comes (Kr.fix w_194) hc_204)
      have E_211 := Kr.ext w_213
      have w_214 := Kr.tr0 w_194 w_213 (by decide +kernel)
      exact kwj_X12_looksAtSchedule_35 (Kr.fix w_214) (fun f => hQ (Kr.trS w_214 f)) h
    · exact kwj_X12_looksAtSchedule_35 hF hQ h
set_option maxHeartbeats 4000000 in
theorem kwl_X12_pass_43 {P : Prop} {mb : MM} {y1 y2 : Int} {k61 : MM → Option (Int × MM)} {rz : Int} {rm : MM} (hF0 : Fix mb)
  (hk61 : ∀ mq : MM, Kr fW_X12_pass 0 0 mb mq → k61 mq = some (rz, rm) → P) (hQ : Kr fW_X12_pass 0 0 mb rm → P) :
  ∀ (n : Nat) {m : MM} {y3 : Int} , Kr fW_X12_pass 0 0 mb m → fl_X12_pass_43 y1 y2 k61 n y3 m = some (rz, rm) → P := by
  intro n
  induction n with
  | zero => intro m y3 w h; cases h
  | succ n ih0 =>
    intro m y3 w h
    have ih : ∀ mq : MM, Kr fW_X12_pass 0 0 mb mq → ∀ {z3 : Int}, fl_X12_pass_43 y1 y2 k61 n z3 mq = some (rz, rm) → P := fun mq b => by intros; exact ih0 b ‹_›
    unfold fl_X12_pass_43 at h
    rcases it_s h with ⟨hp_69, h⟩ | ⟨hp_69, h⟩
    · obtain ⟨g_75, h⟩ := gd_s h
      obtain ⟨m_76, e_77, h⟩ := up_s h
      have E_80 := ext_up e_77 (And.left (fx_kF (c := 100) (Kr.fix w) (by decide +kernel))) (And.left g_75)
      have w_81 := Kr.upC (y := (-9)) w e_77 (ext_up e_77 (And.left (fx_kF (c := 100) (Kr.fix w) (by decide +kernel))) (And.left g_75)) (And.left (fx_kF (c := 100) (Kr.fix w) (by decide +kernel))) (fx_a (Kr.fix w) (fx_kF (c := 100) (Kr.fix w) (by decide +kernel)) (And.left g_75) (by decide +kernel)) (Or.inl rfl) (by decide +kernel) (fx_kF (c := 100) (Kr.fix w) (by decide +kernel)) (And.left g_75) (by first | exact Or.inl (by decide) | exact Or.inr (by decide))
      obtain ⟨x_88, e_89, h⟩ := lx_s h
      exact ih m_76 w_81 h
    · exact hk61 m w h
set_option maxHeartbeats 4000000 in
theorem kwl_X12_pass_71 {P : Prop} {mb : MM} {y1 y2 : Int} {k90 : MM → Option (Int × MM)} {rz : Int} {rm : MM} (hF0 : Fix mb)
  (hk90 : ∀ mq : MM, Kr fW_X12_pass 0 0 mb mq → k90 mq = some (rz, rm) → P) (hQ : Kr fW_X12_pass 0 0 mb rm → P) :
  ∀ (n : Nat) {m : MM} {y3 : Int} , Kr fW_X12_pass 0 0 mb m → fl_X12_pass_71 y1 y2 k90 n y3 m = some (rz, rm) → P := by
  intro n
  induction n with
  | zero => intro m y3 w h; cases h
  | succ n ih0 =>
    intro m y3 w h
    have ih : ∀ mq : MM, Kr fW_X12_pass 0 0 mb mq → ∀ {z3 : Int}, fl_X12_pass_71 y1 y2 k90 n z3 mq = some (rz, rm) → P := fun mq b => by intros; exact ih0 b ‹_›
    unfold fl_X12_pass_71 at h
    obtain ⟨x_146, e_147, h⟩ := lx_s h
    rcases it_s h with ⟨hp_148, h⟩ | ⟨hp_148, h⟩
    · obtain ⟨x_150, m_151, hc_149, h⟩ := bd_s h
      have w_158 := (kw_X12_looksAtSchedule (Kr.fix w) hc_149)
      have E_156 := Kr.ext w_158
      have w_159 := Kr.tr0 w w_158 (by decide +kernel)
      obtain ⟨x_166, e_167, h⟩ := lx_s h
      exact ih m_151 w_159 h
    · exact hk90 m w h
set_option maxHeartbeats 4000000 in
theorem kwl_X12_pass_26 {P : Prop} {mb : MM} {y1 : Int} {rz : Int} {rm : MM} (hF0 : Fix mb) (hQ : Kr fW_X12_pass 0 0 mb rm → P) :
  ∀ (n : Nat) {m : MM} {y2 : Int} , Kr fW_X12_pass 0 0 mb m → fl_X12_pass_26 y1 n y2 m = some (rz, rm) → P := by
  intro n
  induction n with
  | zero => intro m y2 w h; cases h
  | succ n ih0 =>
    intro m y2 w h
    have ih : ∀ mq : MM, Kr fW_X12_pass 0 0 mb mq → ∀ {z2 : Int}, fl_X12_pass_26 y1 n z2 mq = some (rz, rm) → P := fun mq b => by intros; exact ih0 b ‹_›
    unfold fl_X12_pass_26 at h
    rcases it_s h with ⟨hp_37, h⟩ | ⟨hp_37, h⟩
    · obtain ⟨x_46, e_47, h⟩ := lx_s h
      obtain ⟨m_52, e_53, h⟩ := up_s h
      have E_56 := ext_up e_53 (And.left (fx_kF (c := 13) (Kr.fix w) (by decide +kernel))) (by decide)
      have w_57 := Kr.upC (y := 0) w e_53 (ext_up e_53 (And.left (fx_kF (c := 13) (Kr.fix w) (by decide +kernel))) (by decide)) (And.left (fx_kF (c := 13) (Kr.fix w) (by decide +kernel))) (fx_f (j := 0) (Kr.fix w) (fx_kF (c := 13) (Kr.fix w) (by decide +kernel)) (by decide +kernel)) (Or.inr rfl) (by decide +kernel) (fx_kF (c := 13) (Kr.fix w) (by decide +kernel)) (by decide) (by first | exact Or.inl (by decide) | exact Or.inr (by decide))
      refine kwl_X12_pass_43 (Kr.fix w_57) ?_ (fun f => hQ (Kr.trS w_57 f)) BIG (Kr.rf (Kr.fix w_57)) h
      intro m_106 w_109
      intro h
      have E_107 := Kr.ext w_109
      have w_110 := Kr.trS w_57 w_109
      obtain ⟨x_112, m_113, hc_111, h⟩ := bd_s h
      have w_120 := (kw_X12_fires (Kr.fix w_110) hc_111)
      have E_118 := Kr.ext w_120
      have w_121 := Kr.tr0 w_110 w_120 (by decide +kernel)
      obtain ⟨x_124, m_125, hc_123, h⟩ := bd_s h
      have w_132 := (kw_X12_looksAtActivities (Kr.fix w_121) hc_123)
      have E_130 := Kr.ext w_132
      have w_133 := Kr.tr0 w_121 w_132 (by decide +kernel)
      refine kwl_X12_pass_71 (Kr.fix w_133) ?_ (fun f => hQ (Kr.trS w_133 f)) BIG (Kr.rf (Kr.fix w_133)) h
      intro m_184 w_187
      intro h
      have E_185 := Kr.ext w_187
      have w_188 := Kr.trS w_133 w_187
      obtain ⟨x_194, e_195, h⟩ := lx_s h
      exact ih m_184 w_188 h
    · obtain ⟨x_41, e_42, h⟩ := lx_s h
      cases h
      exact hQ w
set_option maxHeartbeats 4000000 in
theorem kwj_X12_pass_16 {P : Prop} {m : MM} {y1 s0 : Int} {rz : Int} {rm : MM} (hF : Fix m) (hQ : Kr fW_X12_pass 0 0 m rm → P)
  (h : fj_X12_pass_16 y1 s0 m = some (rz, rm)) : P := by
  unfold fj_X12_pass_16 at h
  obtain ⟨x_18, m_19, hc_17, h⟩ := bd_s h
  have w_26 := (kw_X12_fails hF hc_17)
  have E_24 := Kr.ext w_26
  have w_27 := Kr.tr0 (Kr.rf (W := fW_X12_pass) (e := 0) hF) w_26 (by decide +kernel)
  rcases it_s h with ⟨hp_29, h⟩ | ⟨hp_29, h⟩
  · refine kwl_X12_pass_26 (Kr.fix w_27)  (fun f => hQ (Kr.trS w_27 f)) BIG (Kr.rf (Kr.fix w_27)) h
  · cases h
    exact hQ w_27
set_option maxHeartbeats 4000000 in
theorem kw_X12_pass {m0 : MM} {p1 : Int} {rz : Int} {rm : MM} (hF : Fix m0)
  (h : fm_X12_pass p1 m0 = some (rz, rm)) : Kr fW_X12_pass 0 0 m0 rm := by
  have hQ : Kr fW_X12_pass 0 0 m0 rm → Kr fW_X12_pass 0 0 m0 rm := id
  unfold fm_X12_pass at h
  obtain ⟨x_6, hc_5, h⟩ := bp_s h
  rcases it_s h with ⟨hp_14, h⟩ | ⟨hp_14, h⟩
  · exact kwj_X12_pass_16 hF hQ h
  · exact kwj_X12_pass_16 hF hQ h
set_option maxHeartbeats 4000000 in
theorem kwl_X12_unsafe_28 {P : Prop} {mb : MM} {y1 y2 : Int} {rz : Int} {rm : MM} (hF0 : Fix mb) (hQ : Kr fW_X12_unsafe 0 0 mb rm → P) :
  ∀ (n : Nat) {m : MM} {y3 y4 : Int} , Kr fW_X12_unsafe 0 0 mb m → fl_X12_unsafe_28 y1 y2 n y3 y4 m = some (rz, rm) → P := by
  intro n
  induction n with
  | zero => intro m y3 y4 w h; cases h
  | succ n ih0 =>
    intro m y3 y4 w h
    have ih : ∀ mq : MM, Kr fW_X12_unsafe 0 0 mb mq → ∀ {z3 z4 : Int}, fl_X12_unsafe_28 y1 y2 n z3 z4 mq = some (rz, rm) → P := fun mq b => by intros; exact ih0 b ‹_›
    unfold fl_X12_unsafe_28 at h
    obtain ⟨x_46, e_47, h⟩ := lx_s h
    rcases it_s h with ⟨hp_48, h⟩ | ⟨hp_48, h⟩
    · obtain ⟨g_54, h⟩ := gd_s h
      obtain ⟨x_56, e_57, h⟩ := lx_s h
      rcases it_s h with ⟨hp_58, h⟩ | ⟨hp_58, h⟩
      · obtain ⟨x_91, e_92, h⟩ := lx_s h
        rcases it_s h with ⟨hp_93, h⟩ | ⟨hp_93, h⟩
        · obtain ⟨x_121, m_122, hc_120, h⟩ := bd_s h
          have w_129 := (kw_X12_isSafe (Kr.fix w) hc_120)
          have E_127 := Kr.ext w_129
          have w_130 := Kr.tr0 w w_129 (by decide +kernel)
          rcases it_s h with ⟨hp_132, h⟩ | ⟨hp_132, h⟩
          · obtain ⟨x_163, e_164, h⟩ := lx_s h
            obtain ⟨x_178, e_179, h⟩ := lx_s h
            exact ih m_122 w_130 h
          · obtain ⟨x_137, e_138, h⟩ := lx_s h
            obtain ⟨x_152, e_153, h⟩ := lx_s h
            exact ih m_122 w_130 h
        · obtain ⟨x_98, e_99, h⟩ := lx_s h
          obtain ⟨x_113, e_114, h⟩ := lx_s h
          exact ih m w h
      · obtain ⟨x_63, e_64, h⟩ := lx_s h
        obtain ⟨x_78, e_79, h⟩ := lx_s h
        exact ih m w h
    · cases h
      exact hQ w
set_option maxHeartbeats 4000000 in
theorem kwj_X12_unsafe_15 {P : Prop} {m : MM} {y1 y2 s0 : Int} {rz : Int} {rm : MM} (hF : Fix m) (hQ : Kr fW_X12_unsafe 0 0 m rm → P)
  (h : fj_X12_unsafe_15 y1 y2 s0 m = some (rz, rm)) : P := by
  unfold fj_X12_unsafe_15 at h
  obtain ⟨x_14, m_15, hc_13, h⟩ := bd_s h
  have w_22 := (kw_X12_fails hF hc_13)
  have E_20 := Kr.ext w_22
  have w_23 := Kr.tr0 (Kr.rf (W := fW_X12_unsafe) (e := 0) hF) w_22 (by decide +kernel)
  rcases it_s h with ⟨hp_25, h⟩ | ⟨hp_25, h⟩
  · refine kwl_X12_unsafe_28 (Kr.fix w_23)  (fun f => hQ (Kr.trS w_23 f)) BIG (Kr.rf (Kr.fix w_23)) h
  · cases h
    exact hQ w_23
set_option maxHeartbeats 4000000 in
theorem kw_X12_unsafe {m0 : MM} {p1 p2 : Int} {rz : Int} {rm : MM} (hF : Fix m0)
  (h : fm_X12_unsafe p1 p2 m0 = some (rz, rm)) : Kr fW_X12_unsafe 0 0 m0 rm := by
  have hQ : Kr fW_X12_unsafe 0 0 m0 rm → Kr fW_X12_unsafe 0 0 m0 rm := id
  unfold fm_X12_unsafe at h
  obtain ⟨x_2, hc_1, h⟩ := bp_s h
  rcases it_s h with ⟨hp_10, h⟩ | ⟨hp_10, h⟩
  · exact kwj_X12_unsafe_15 hF hQ h
  · exact kwj_X12_unsafe_15 hF hQ h
set_option maxHeartbeats 4000000 in
theorem kwj_X12_move_50 {P : Prop} {m : MM} {y1 y2 s0 : Int} {rz : Int} {rm : MM} (hF : Fix m) (hQ : Kr fW_X12_move 0 0 m rm → P)
  (h : fj_X12_move_50 y1 y2 s0 m = some (rz, rm)) : P := by
  unfold fj_X12_move_50 at h
  obtain ⟨x_33, m_34, hc_32, h⟩ := bd_s h
  have w_41 := (kw_X12_fails hF hc_32)
  have E_39 := Kr.ext w_41
  have w_42 := Kr.tr0 (Kr.rf (W := fW_X12_move) (e := 0) hF) w_41 (by decide +kernel)
  rcases it_s h with ⟨hp_44, h⟩ | ⟨hp_44, h⟩
  · obtain ⟨g_48, h⟩ := gd_s h
    obtain ⟨m_49, e_50, h⟩ := up_s h
    have E_53 := ext_up e_50 (And.left (fx_kF (c := 100) (Kr.fix w_42) (by decide +kernel))) (And.left g_48)
    have w_54 := Kr.upC (y := (-9)) w_42 e_50 (ext_up e_50 (And.left (fx_kF (c := 100) (Kr.fix w_42) (by decide +kernel))) (And.left g_48)) (And.left (fx_kF (c := 100) (Kr.fix w_42) (by decide +kernel))) (fx_a (Kr.fix w_42) (fx_kF (c := 100) (Kr.fix w_42) (by decide +kernel)) (And.left g_48) (by decide +kernel)) (Or.inl rfl) (by decide +kernel) (fx_kF (c := 100) (Kr.fix w_42) (by decide +kernel)) (And.left g_48) (by first | exact Or.inl (by decide) | exact Or.inr (by decide))
    obtain ⟨m_61, e_62, h⟩ := up_s h
    have E_65 := ext_up e_62 (And.left (fx_kF (c := 100) (Kr.fix w_54) (by decide +kernel))) (And.left g_48)
    have w_66 := Kr.upC (y := (-9)) w_54 e_62 (ext_up e_62 (And.left (fx_kF (c := 100) (Kr.fix w_54) (by decide +kernel))) (And.left g_48)) (And.left (fx_kF (c := 100) (Kr.fix w_54) (by decide +kernel))) (fx_a (Kr.fix w_54) (fx_kF (c := 100) (Kr.fix w_54) (by decide +kernel)) (And.left g_48) (by decide +kernel)) (Or.inl rfl) (by decide +kernel) (fx_kF (c := 100) (Kr.fix w_54) (by decide +kernel)) (And.left g_48) (by first | exact Or.inl (by decide) | exact Or.inr (by decide))
    obtain ⟨x_69, m_70, hc_68, h⟩ := bd_s h
    have w_77 := (kw_X12_isSafe (Kr.fix w_66) hc_68)
    have E_75 := Kr.ext w_77
    have w_78 := Kr.tr0 w_66 w_77 (by decide +kernel)
    obtain ⟨g_80, h⟩ := gd_s h
    cases h
    exact hQ w_78
  · cases h
    exact hQ w_42
set_option maxHeartbeats 4000000 in
theorem kwj_X12_move_27 {P : Prop} {m : MM} {y1 y2 s0 : Int} {rz : Int} {rm : MM} (hF : Fix m) (hQ : Kr fW_X12_move 0 0 m rm → P)
  (h : fj_X12_move_27 y1 y2 s0 m = some (rz, rm)) : P := by
  unfold fj_X12_move_27 at h
  rcases it_s h with ⟨hp_19, h⟩ | ⟨hp_19, h⟩
  · exact kwj_X12_move_50 hF hQ h
  · obtain ⟨x_21, hc_20, h⟩ := bp_s h
    rcases it_s h with ⟨hp_29, h⟩ | ⟨hp_29, h⟩
    · exact kwj_X12_move_50 hF hQ h
    · exact kwj_X12_move_50 hF hQ h
set_option maxHeartbeats 4000000 in
theorem kw_X12_move {m0 : MM} {p1 p2 : Int} {rz : Int} {rm : MM} (hF : Fix m0)
  (h : fm_X12_move p1 p2 m0 = some (rz, rm)) : Kr fW_X12_move 0 0 m0 rm := by
  have hQ : Kr fW_X12_move 0 0 m0 rm → Kr fW_X12_move 0 0 m0 rm := id
  unfold fm_X12_move at h
  obtain ⟨x_2, hc_1, h⟩ := bp_s h
  rcases it_s h with ⟨hp_10, h⟩ | ⟨hp_10, h⟩
  · exact kwj_X12_move_27 hF hQ h
  · obtain ⟨g_92, h⟩ := gd_s h
    obtain ⟨x_94, e_95, h⟩ := lx_s h
    obtain ⟨x_97, hc_96, h⟩ := bp_s h
    rcases it_s h with ⟨hp_105, h⟩ | ⟨hp_105, h⟩
    · exact kwj_X12_move_27 hF hQ h
    · exact kwj_X12_move_27 hF hQ h
set_option maxHeartbeats 4000000 in
theorem kwl_X12_marks_2 {P : Prop} {mb : MM} {y1 : Int} {k28 : MM → Option (Int × MM)} {rz : Int} {rm : MM} (hF0 : Fix mb)
  (hk28 : ∀ mq : MM, Kr fW_X12_marks 0 0 mb mq → k28 mq = some (rz, rm) → P) (hQ : Kr fW_X12_marks 0 0 mb rm → P) :
  ∀ (n : Nat) {m : MM} {y2 : Int} , Kr fW_X12_marks 0 0 mb m → fl_X12_marks_2 y1 k28 n y2 m = some (rz, rm) → P := by
  intro n
  induction n with
  | zero => intro m y2 w h; cases h
  | succ n ih0 =>
    intro m y2 w h
    have ih : ∀ mq : MM, Kr fW_X12_marks 0 0 mb mq → ∀ {z2 : Int}, fl_X12_marks_2 y1 k28 n z2 mq = some (rz, rm) → P := fun mq b => by intros; exact ih0 b ‹_›
    unfold fl_X12_marks_2 at h
    obtain ⟨g_13, h⟩ := gd_s h
    obtain ⟨x_15, e_16, h⟩ := lx_s h
    rcases it_s h with ⟨hp_21, h⟩ | ⟨hp_21, h⟩
    · exact hk28 m w h
    · obtain ⟨g_27, h⟩ := gd_s h
      obtain ⟨m_28, e_29, h⟩ := up_s h
      have E_32 := ext_up e_29 (And.left (fx_kF (c := 100) (Kr.fix w) (by decide +kernel))) (And.left g_27)
      have w_33 := Kr.upC (y := (-9)) w e_29 (ext_up e_29 (And.left (fx_kF (c := 100) (Kr.fix w) (by decide +kernel))) (And.left g_27)) (And.left (fx_kF (c := 100) (Kr.fix w) (by decide +kernel))) (fx_a (Kr.fix w) (fx_kF (c := 100) (Kr.fix w) (by decide +kernel)) (And.left g_27) (by decide +kernel)) (Or.inl rfl) (by decide +kernel) (fx_kF (c := 100) (Kr.fix w) (by decide +kernel)) (And.left g_27) (by first | exact Or.inl (by decide) | exact Or.inr (by decide))
      obtain ⟨x_40, e_41, h⟩ := lx_s h
      exact ih m_28 w_33 h
set_option maxHeartbeats 4000000 in
theorem kwj_X12_marks_68 {P : Prop} {m : MM} {y1 y2 : Int} {rz : Int} {rm : MM} {c : Int → MM → Option (Int × MM)} (hF : Fix m)
  (hc : ∀ mq : MM, Kr fW_X12_marks 0 0 m mq → ∀ {z2 : Int}, c z2 mq = some (rz, rm) → P) (hQ : Kr fW_X12_marks 0 0 m rm → P)
  (h : fj_X12_marks_68 c y1 y2 m = some (rz, rm)) : P := by
  unfold fj_X12_marks_68 at h
  obtain ⟨x_95, hc_94, h⟩ := bp_s h
  obtain ⟨x_116, e_117, h⟩ := lx_s h
  obtain ⟨g_121, h⟩ := gd_s h
  obtain ⟨x_123, e_124, h⟩ := lx_s h
  obtain ⟨m_135, e_136, h⟩ := up_s h
  have E_139 := ext_up e_136 (And.left (fx_kF (c := 100) hF (by decide +kernel))) (And.left g_121)
  have w_140 := Kr.upC (y := (-9)) (Kr.rf (W := fW_X12_marks) (e := 0) hF) e_136 (ext_up e_136 (And.left (fx_kF (c := 100) hF (by decide +kernel))) (And.left g_121)) (And.left (fx_kF (c := 100) hF (by decide +kernel))) (fx_a hF (fx_kF (c := 100) hF (by decide +kernel)) (And.left g_121) (by decide +kernel)) (Or.inl rfl) (by decide +kernel) (fx_kF (c := 100) hF (by decide +kernel)) (And.left g_121) (by first | exact Or.inl (by decide) | exact Or.inr (by decide))
  obtain ⟨x_147, e_148, h⟩ := lx_s h
  exact hc m_135 w_140 h
set_option maxHeartbeats 4000000 in
theorem kwl_X12_marks_30 {P : Prop} {mb : MM} {y1 : Int} {rz : Int} {rm : MM} (hF0 : Fix mb) (hQ : Kr fW_X12_marks 0 0 mb rm → P) :
  ∀ (n : Nat) {m : MM} {y2 : Int} , Kr fW_X12_marks 0 0 mb m → fl_X12_marks_30 y1 n y2 m = some (rz, rm) → P := by
  intro n
  induction n with
  | zero => intro m y2 w h; cases h
  | succ n ih0 =>
    intro m y2 w h
    have ih : ∀ mq : MM, Kr fW_X12_marks 0 0 mb mq → ∀ {z2 : Int}, fl_X12_marks_30 y1 n z2 mq = some (rz, rm) → P := fun mq b => by intros; exact ih0 b ‹_›
    unfold fl_X12_marks_30 at h
    obtain ⟨g_71, h⟩ := gd_s h
    obtain ⟨x_73, e_74, h⟩ := lx_s h
    rcases it_s h with ⟨hp_75, h⟩ | ⟨hp_75, h⟩
    · obtain ⟨x_77, hc_76, h⟩ := bp_s h
      rcases it_s h with ⟨hp_93, h⟩ | ⟨hp_93, h⟩
      · exact kwj_X12_marks_68 (Kr.fix w) (fun mq f => ih mq (Kr.trS w f)) (fun f => hQ (Kr.trS w f)) h
      · rcases it_s h with ⟨hp_154, h⟩ | ⟨hp_154, h⟩
        · exact kwj_X12_marks_68 (Kr.fix w) (fun mq f => ih mq (Kr.trS w f)) (fun f => hQ (Kr.trS w f)) h
        · rcases it_s h with ⟨hp_157, h⟩ | ⟨hp_157, h⟩
          · exact kwj_X12_marks_68 (Kr.fix w) (fun mq f => ih mq (Kr.trS w f)) (fun f => hQ (Kr.trS w f)) h
          · rcases it_s h with ⟨hp_160, h⟩ | ⟨hp_160, h⟩
            · exact kwj_X12_marks_68 (Kr.fix w) (fun mq f => ih mq (Kr.trS w f)) (fun f => hQ (Kr.trS w f)) h
            · obtain ⟨x_166, e_167, h⟩ := lx_s h
              exact ih m w h
    · cases h
      exact hQ w
set_option maxHeartbeats 4000000 in
theorem kw_X12_marks {m0 : MM} {p1 : Int} {rz : Int} {rm : MM} (hF : Fix m0)
  (h : fm_X12_marks p1 m0 = some (rz, rm)) : Kr fW_X12_marks 0 0 m0 rm := by
  have hQ : Kr fW_X12_marks 0 0 m0 rm → Kr fW_X12_marks 0 0 m0 rm := id
  unfold fm_X12_marks at h
  refine kwl_X12_marks_2 hF ?_ hQ BIG (Kr.rf hF) h
  intro m_54 w_57
  intro h
  have E_55 := Kr.ext w_57
  have w_58 := w_57
  refine kwl_X12_marks_30 (Kr.fix w_58)  (fun f => hQ (Kr.trS w_58 f)) BIG (Kr.rf (Kr.fix w_58)) h
set_option maxHeartbeats 4000000 in
theorem kwj_X12_beginsAnew_63 {P : Prop} {m : MM} {y1 y2 y3 y4 : Int} {rz : Int} {rm : MM} {c : Int → MM → Option (Int × MM)} (hF : Fix m)
  (hc : ∀ mq : MM, Kr fW_X12_beginsAnew 0 0 m mq → ∀ {z3 : Int}, c z3 mq = some (rz, rm) → P) (hQ : Kr fW_X12_beginsAnew 0 0 m rm → P)
  (h : fj_X12_beginsAnew_63 c y1 y2 y3 y4 m = some (rz, rm)) : P := by
  unfold fj_X12_beginsAnew_63 at h
  rcases it_s h with ⟨hp_57, h⟩ | ⟨hp_57, h⟩
  · obtain ⟨x_70, hc_69, h⟩ := bp_s h
    rcases it_s h with ⟨hp_78, h⟩ | ⟨hp_78, h⟩
    · obtain ⟨x_91, hc_90, h⟩ := bp_s h
      obtain ⟨x_100, hc_99, h⟩ := bp_s h
      obtain ⟨x_113, e_114, h⟩ := lx_s h
      obtain ⟨x_120, hc_119, h⟩ := bp_s h
      obtain ⟨x_129, m_130, hc_128, h⟩ := bd_s h
      have w_137 := (kw_X12_makesTimer hF hc_128)
      have E_135 := Kr.ext w_137
      have w_138 := Kr.tr0 (Kr.rf (W := fW_X12_beginsAnew) (e := 0) hF) w_137 (by decide +kernel)
      obtain ⟨x_145, e_146, h⟩ := lx_s h
      exact hc m_130 w_138 h
    · obtain ⟨x_84, e_85, h⟩ := lx_s h
      exact hc m (Kr.rf (W := fW_X12_beginsAnew) (e := 0) hF) h
  · obtain ⟨x_63, e_64, h⟩ := lx_s h
    exact hc m (Kr.rf (W := fW_X12_beginsAnew) (e := 0) hF) h
set_option maxHeartbeats 4000000 in
theorem kwl_X12_beginsAnew_14 {P : Prop} {mb : MM} {y1 y2 : Int} {rz : Int} {rm : MM} (hF0 : Fix mb) (hQ : Kr fW_X12_beginsAnew 0 0 mb rm → P) :
  ∀ (n : Nat) {m : MM} {y3 : Int} , Kr fW_X12_beginsAnew 0 0 mb m → fl_X12_beginsAnew_14 y1 y2 n y3 m = some (rz, rm) → P := by
  intro n
  induction n with
  | zero => intro m y3 w h; cases h
  | succ n ih0 =>
    intro m y3 w h
    have ih : ∀ mq : MM, Kr fW_X12_beginsAnew 0 0 mb mq → ∀ {z3 : Int}, fl_X12_beginsAnew_14 y1 y2 n z3 mq = some (rz, rm) → P := fun mq b => by intros; exact ih0 b ‹_›
    unfold fl_X12_beginsAnew_14 at h
    rcases it_s h with ⟨hp_35, h⟩ | ⟨hp_35, h⟩
    · obtain ⟨x_37, hc_36, h⟩ := bp_s h
      rcases it_s h with ⟨hp_54, h⟩ | ⟨hp_54, h⟩
      · obtain ⟨x_152, hc_151, h⟩ := bp_s h
        rcases it_s h with ⟨hp_160, h⟩ | ⟨hp_160, h⟩
        · obtain ⟨x_162, hc_161, h⟩ := bp_s h
          obtain ⟨x_171, hc_170, h⟩ := bp_s h
          obtain ⟨x_180, m_181, hc_179, h⟩ := bd_s h
          have w_188 := (kw_X12_makesActivity (Kr.fix w) hc_179)
          have E_186 := Kr.ext w_188
          have w_189 := Kr.tr0 w w_188 (by decide +kernel)
          obtain ⟨x_196, e_197, h⟩ := lx_s h
          exact ih m_181 w_189 h
        · exact kwj_X12_beginsAnew_63 (Kr.fix w) (fun mq f => ih mq (Kr.trS w f)) (fun f => hQ (Kr.trS w f)) h
      · exact kwj_X12_beginsAnew_63 (Kr.fix w) (fun mq f => ih mq (Kr.trS w f)) (fun f => hQ (Kr.trS w f)) h
    · cases h
      exact hQ w
set_option maxHeartbeats 4000000 in
theorem kw_X12_beginsAnew {m0 : MM} {p1 : Int} {rz : Int} {rm : MM} (hF : Fix m0)
  (h : fm_X12_beginsAnew p1 m0 = some (rz, rm)) : Kr fW_X12_beginsAnew 0 0 m0 rm := by
  have hQ : Kr fW_X12_beginsAnew 0 0 m0 rm → Kr fW_X12_beginsAnew 0 0 m0 rm := id
  unfold fm_X12_beginsAnew at h
  obtain ⟨g_6, h⟩ := gd_s h
  obtain ⟨x_8, e_9, h⟩ := lx_s h
  obtain ⟨x_16, m_17, hc_15, h⟩ := bd_s h
  have w_24 := (kw_X12_marks hF hc_15)
  have E_22 := Kr.ext w_24
  have w_25 := Kr.tr0 (Kr.rf (W := fW_X12_beginsAnew) (e := 0) hF) w_24 (by decide +kernel)
  refine kwl_X12_beginsAnew_14 (Kr.fix w_25)  (fun f => hQ (Kr.trS w_25 f)) BIG (Kr.rf (Kr.fix w_25)) h
end KW10
