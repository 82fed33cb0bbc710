/-! THE ROOM: how many objects there are: what each method makes (written by wip/whole/gen/gen951.py), 05. -/
section KW05
set_option maxHeartbeats 4000000 in
theorem kw_X11_replays {m0 : MM} {p1 : Int} {rr : Int ⊕ Nat} {rm : MM} (hF : Fix m0)
  (h : fm_X11_replays p1 m0 = some (rr, rm)) : Kr fW_X11_replays 0 (tn rr) m0 rm := by
  have hQ : Kr fW_X11_replays 0 (tn rr) m0 rm → Kr fW_X11_replays 0 (tn rr) m0 rm := id
  unfold fm_X11_replays at h
  obtain ⟨rr5, m_3, hc_1, h⟩ := bx_s h
  rcases h with ⟨q_10, rfl, h⟩ | ⟨x_2, rfl, h⟩
  · cases h
    have w_12 := (kw_X11_checkWorker hF hc_1)
    have E_8 := Kr.ext w_12
    have w_13 := Kr.tr0 (Kr.rf (W := fW_X11_replays) (e := 0) hF) w_12 (by decide +kernel)
    exact hQ w_13
  have w_14 := (kw_X11_checkWorker hF hc_1)
  have E_8 := Kr.ext w_14
  have w_15 := Kr.tr0 (Kr.rf (W := fW_X11_replays) (e := 0) hF) w_14 (by decide +kernel)
  obtain ⟨g_22, h⟩ := gd_s h
  obtain ⟨x_24, e_25, h⟩ := lx_s h
  cases h
  exact hQ w_15
set_option maxHeartbeats 4000000 in
theorem kwl_X11_take_8 {P : Prop} {m : MM} {y1 : Int} {k57 : Int → Int → Option ((Int ⊕ Nat) × MM)} {rr : Int ⊕ Nat} {rm : MM} (hF : Fix m)
  (hk57 : ∀ {z2 z3 : Int}, k57 z2 z3 = some (rr, rm) → P) (hQ : Kr fW_X11_take 0 (tn rr) m rm → P) :
  ∀ (n : Nat) {y2 : Int} , fl_X11_take_8 y1 m k57 n y2 = some (rr, rm) → P := by
  intro n
  induction n with
  | zero => intro y2 h; cases h
  | succ n ih0 =>
    intro y2 h
    have ih : ∀ {z2 : Int}, fl_X11_take_8 y1 m k57 n z2 = some (rr, rm) → P := by intros; exact ih0 ‹_›
    unfold fl_X11_take_8 at h
    obtain ⟨x_28, hc_27, h⟩ := bp_s h
    rcases it_s h with ⟨hp_36, h⟩ | ⟨hp_36, h⟩
    · obtain ⟨x_43, hc_42, h⟩ := bp_s h
      obtain ⟨g_51, h⟩ := gd_s h
      obtain ⟨x_61, e_62, h⟩ := lx_s h
      rcases it_s h with ⟨hp_63, h⟩ | ⟨hp_63, h⟩
      · obtain ⟨x_77, e_78, h⟩ := lx_s h
        rcases it_s h with ⟨hp_79, h⟩ | ⟨hp_79, h⟩
        · obtain ⟨x_93, e_94, h⟩ := lx_s h
          obtain ⟨x_98, e_99, h⟩ := lx_s h
          rcases it_s h with ⟨hp_100, h⟩ | ⟨hp_100, h⟩
          · obtain ⟨x_106, e_107, h⟩ := lx_s h
            exact ih h
          · exact hk57 h
        · obtain ⟨x_85, e_86, h⟩ := lx_s h
          exact ih h
      · obtain ⟨x_69, e_70, h⟩ := lx_s h
        exact ih h
    · cases h
      exact hQ (Kr.rf (W := fW_X11_take) (e := 0) hF)
set_option maxHeartbeats 4000000 in
theorem kw_X11_take {m0 : MM} {p1 : Int} {rr : Int ⊕ Nat} {rm : MM} (hF : Fix m0)
  (h : fm_X11_take p1 m0 = some (rr, rm)) : Kr fW_X11_take 0 (tn rr) m0 rm := by
  have hQ : Kr fW_X11_take 0 (tn rr) m0 rm → Kr fW_X11_take 0 (tn rr) m0 rm := id
  unfold fm_X11_take at h
  obtain ⟨rr5, m_3, hc_1, h⟩ := bx_s h
  rcases h with ⟨q_10, rfl, h⟩ | ⟨x_2, rfl, h⟩
  · cases h
    have w_12 := (kw_X11_kindAt hF hc_1)
    have E_8 := Kr.ext w_12
    have w_13 := Kr.tr0 (Kr.rf (W := fW_X11_take) (e := 0) hF) w_12 (by decide +kernel)
    exact hQ w_13
  have w_14 := (kw_X11_kindAt hF hc_1)
  have E_8 := Kr.ext w_14
  have w_15 := Kr.tr0 (Kr.rf (W := fW_X11_take) (e := 0) hF) w_14 (by decide +kernel)
  refine kwl_X11_take_8 (Kr.fix w_15) ?_ (fun f => hQ (Kr.trS w_15 f)) BIG h
  intro x_111 x_112
  intro h
  obtain ⟨x_128, e_129, h⟩ := lx_s h
  obtain ⟨g_130, h⟩ := gd_s h
  obtain ⟨x_132, m_133, hc_131, h⟩ := bd_s h
  have w_140 := (kw_X0_beTaken (Kr.fix w_15) g_130 hc_131)
  have E_138 := Kr.ext w_140
  have w_141 := Kr.tr0 w_15 w_140 (by decide +kernel)
  have g_149 := Ext.ok E_138 g_130
  obtain ⟨x_151, e_152, h⟩ := lx_s h
  cases h
  exact hQ w_141
set_option maxHeartbeats 4000000 in
theorem kw_X11_activityAt {m0 : MM} {p1 : Int} {rr : Int ⊕ Nat} {rm : MM} (hF : Fix m0)
  (h : fm_X11_activityAt p1 m0 = some (rr, rm)) : Kr fW_X11_activityAt 0 (tn rr) m0 rm := by
  have hQ : Kr fW_X11_activityAt 0 (tn rr) m0 rm → Kr fW_X11_activityAt 0 (tn rr) m0 rm := id
  unfold fm_X11_activityAt at h
  rcases it_s h with ⟨hp_1, h⟩ | ⟨hp_1, h⟩
  · cases h
    exact hQ (Kr.thr (Kr.rf (W := fW_X11_activityAt) (e := 0) hF) (by decide +kernel))
  · obtain ⟨x_6, hc_5, h⟩ := bp_s h
    rcases it_s h with ⟨hp_14, h⟩ | ⟨hp_14, h⟩
    · obtain ⟨x_19, hc_18, h⟩ := bp_s h
      obtain ⟨g_27, h⟩ := gd_s h
      cases h
      exact hQ (Kr.rf (W := fW_X11_activityAt) (e := 0) hF)
    · cases h
      exact hQ (Kr.thr (Kr.rf (W := fW_X11_activityAt) (e := 0) hF) (by decide +kernel))
set_option maxHeartbeats 4000000 in
theorem kw_X11_answer {m0 : MM} {p1 p2 : Int} {rr : Int ⊕ Nat} {rm : MM} (hF : Fix m0)
  (h : fm_X11_answer p1 p2 m0 = some (rr, rm)) : Kr fW_X11_answer 0 (tn rr) m0 rm := by
  have hQ : Kr fW_X11_answer 0 (tn rr) m0 rm → Kr fW_X11_answer 0 (tn rr) m0 rm := id
  unfold fm_X11_answer at h
  obtain ⟨rr5, m_3, hc_1, h⟩ := bx_s h
  rcases h with ⟨q_10, rfl, h⟩ | ⟨x_2, rfl, h⟩
  · cases h
    have w_12 := (kw_X11_activityAt hF hc_1)
    have E_8 := Kr.ext w_12
    have w_13 := Kr.tr0 (Kr.rf (W := fW_X11_answer) (e := 0) hF) w_12 (by decide +kernel)
    exact hQ w_13
  have w_14 := (kw_X11_activityAt hF hc_1)
  have E_8 := Kr.ext w_14
  have w_15 := Kr.tr0 (Kr.rf (W := fW_X11_answer) (e := 0) hF) w_14 (by decide +kernel)
  obtain ⟨rr5, m_24, hc_22, h⟩ := bx_s h
  rcases h with ⟨q_31, rfl, h⟩ | ⟨x_23, rfl, h⟩
  · cases h
    have w_33 := (kw_X11_checkValue (Kr.fix w_15) hc_22)
    have E_29 := Kr.ext w_33
    have w_34 := Kr.tr0 w_15 w_33 (by decide +kernel)
    exact hQ w_34
  have w_35 := (kw_X11_checkValue (Kr.fix w_15) hc_22)
  have E_29 := Kr.ext w_35
  have w_36 := Kr.tr0 w_15 w_35 (by decide +kernel)
  obtain ⟨g_40, h⟩ := gd_s h
  obtain ⟨x_42, e_43, h⟩ := lx_s h
  rcases it_s h with ⟨hp_46, h⟩ | ⟨hp_46, h⟩
  · obtain ⟨m_49, e_50, h⟩ := up_s h
    have E_53 := ext_up e_50 (And.left g_40) (by decide)
    have w_54 := Kr.upK (y := 5) w_36 e_50 (ext_up e_50 (And.left g_40) (by decide)) (And.left g_40) (fx_f (j := 5) (Kr.fix w_36) g_40 (by decide +kernel)) g_40 (Or.inr rfl) (by decide +kernel) g_40 (by decide) (by first | exact Or.inl (by decide) | exact Or.inr (by decide))
    have g_58 := Ext.ok E_53 g_40
    obtain ⟨x_60, e_61, h⟩ := lx_s h
    obtain ⟨x_67, e_68, h⟩ := lx_s h
    obtain ⟨x_70, m_71, hc_69, h⟩ := bd_s h
    have w_78 := (kw_X11_arrive (Kr.fix w_54) hc_69)
    have E_76 := Kr.ext w_78
    have w_79 := Kr.tr0 w_54 w_78 (by decide +kernel)
    cases h
    exact hQ w_79
  · cases h
    exact hQ w_36
set_option maxHeartbeats 4000000 in
theorem kwj_X11_failAttempt_54 {P : Prop} {m : MM} {y1 : Int} {rz : Int} {rm : MM} (hF : Fix m) (hQ : Kr fW_X11_failAttempt 0 0 m rm → P)
  (h : fj_X11_failAttempt_54 y1 m = some (rz, rm)) : P := by
  unfold fj_X11_failAttempt_54 at h
  obtain ⟨g_40, h⟩ := gd_s h
  obtain ⟨m_41, e_42, h⟩ := up_s h
  have E_45 := ext_up e_42 (And.left g_40) (by decide)
  have w_46 := Kr.upK (y := 5) (Kr.rf (W := fW_X11_failAttempt) (e := 0) hF) e_42 (ext_up e_42 (And.left g_40) (by decide)) (And.left g_40) (fx_f (j := 5) hF g_40 (by decide +kernel)) g_40 (Or.inr rfl) (by decide +kernel) g_40 (by decide) (by first | exact Or.inl (by decide) | exact Or.inr (by decide))
  have g_50 := Ext.ok E_45 g_40
  obtain ⟨x_52, e_53, h⟩ := lx_s h
  obtain ⟨x_59, e_60, h⟩ := lx_s h
  obtain ⟨x_64, m_65, hc_63, h⟩ := bd_s h
  have w_72 := (kw_X11_arrive (Kr.fix w_46) hc_63)
  have E_70 := Kr.ext w_72
  have w_73 := Kr.tr0 w_46 w_72 (by decide +kernel)
  cases h
  exact hQ w_73
set_option maxHeartbeats 4000000 in
theorem kw_X11_failAttempt {m0 : MM} {p1 p2 : Int} {rz : Int} {rm : MM} (hF : Fix m0)
  (h : fm_X11_failAttempt p1 p2 m0 = some (rz, rm)) : Kr fW_X11_failAttempt 0 0 m0 rm := by
  have hQ : Kr fW_X11_failAttempt 0 0 m0 rm → Kr fW_X11_failAttempt 0 0 m0 rm := id
  unfold fm_X11_failAttempt at h
  obtain ⟨g_6, h⟩ := gd_s h
  obtain ⟨x_8, e_9, h⟩ := lx_s h
  obtain ⟨x_17, hc_16, h⟩ := bp_s h
  obtain ⟨g_27, h⟩ := gd_s h
  obtain ⟨x_29, e_30, h⟩ := lx_s h
  rcases it_s h with ⟨hp_37, h⟩ | ⟨hp_37, h⟩
  · obtain ⟨x_78, e_79, h⟩ := lx_s h
    obtain ⟨g_82, h⟩ := gd_s h
    obtain ⟨x_84, e_85, h⟩ := lx_s h
    rcases it_s h with ⟨hp_86, h⟩ | ⟨hp_86, h⟩
    · obtain ⟨m_89, e_90, h⟩ := up_s h
      have E_93 := ext_up e_90 (And.left g_6) (by decide)
      have w_94 := Kr.upK (y := 5) (Kr.rf (W := fW_X11_failAttempt) (e := 0) hF) e_90 (ext_up e_90 (And.left g_6) (by decide)) (And.left g_6) (fx_f (j := 5) hF g_6 (by decide +kernel)) g_6 (Or.inr rfl) (by decide +kernel) g_6 (by decide) (by first | exact Or.inl (by decide) | exact Or.inr (by decide))
      obtain ⟨x_99, e_100, h⟩ := lx_s h
      have g_103 := Ext.ok E_93 g_82
      obtain ⟨x_105, e_106, h⟩ := lx_s h
      have g_109 := Ext.ok E_93 g_6
      obtain ⟨m_110, e_111, h⟩ := up_s h
      have E_114 := ext_up e_111 (And.left g_109) (by decide)
      have w_115 := Kr.upK (y := 7) w_94 e_111 (ext_up e_111 (And.left g_109) (by decide)) (And.left g_109) (fx_f (j := 7) (Kr.fix w_94) g_109 (by decide +kernel)) g_109 (Or.inr rfl) (by decide +kernel) g_109 (by decide) (by first | exact Or.inl (by decide) | exact Or.inr (by decide))
      cases h
      exact hQ w_115
    · exact kwj_X11_failAttempt_54 hF hQ h
  · exact kwj_X11_failAttempt_54 hF hQ h
set_option maxHeartbeats 4000000 in
theorem kw_X11_fail {m0 : MM} {p1 p2 : Int} {rr : Int ⊕ Nat} {rm : MM} (hF : Fix m0)
  (h : fm_X11_fail p1 p2 m0 = some (rr, rm)) : Kr fW_X11_fail 0 (tn rr) m0 rm := by
  have hQ : Kr fW_X11_fail 0 (tn rr) m0 rm → Kr fW_X11_fail 0 (tn rr) m0 rm := id
  unfold fm_X11_fail at h
  obtain ⟨rr5, m_3, hc_1, h⟩ := bx_s h
  rcases h with ⟨q_10, rfl, h⟩ | ⟨x_2, rfl, h⟩
  · cases h
    have w_12 := (kw_X11_activityAt hF hc_1)
    have E_8 := Kr.ext w_12
    have w_13 := Kr.tr0 (Kr.rf (W := fW_X11_fail) (e := 0) hF) w_12 (by decide +kernel)
    exact hQ w_13
  have w_14 := (kw_X11_activityAt hF hc_1)
  have E_8 := Kr.ext w_14
  have w_15 := Kr.tr0 (Kr.rf (W := fW_X11_fail) (e := 0) hF) w_14 (by decide +kernel)
  obtain ⟨g_24, h⟩ := gd_s h
  obtain ⟨x_26, e_27, h⟩ := lx_s h
  rcases it_s h with ⟨hp_30, h⟩ | ⟨hp_30, h⟩
  · obtain ⟨x_32, m_33, hc_31, h⟩ := bd_s h
    have w_40 := (kw_X11_failAttempt (Kr.fix w_15) hc_31)
    have E_38 := Kr.ext w_40
    have w_41 := Kr.tr0 w_15 w_40 (by decide +kernel)
    cases h
    exact hQ w_41
  · cases h
    exact hQ w_15
set_option maxHeartbeats 4000000 in
theorem kw_X11_beat {m0 : MM} {p1 p2 : Int} {rr : Int ⊕ Nat} {rm : MM} (hF : Fix m0)
  (h : fm_X11_beat p1 p2 m0 = some (rr, rm)) : Kr fW_X11_beat 0 (tn rr) m0 rm := by
  have hQ : Kr fW_X11_beat 0 (tn rr) m0 rm → Kr fW_X11_beat 0 (tn rr) m0 rm := id
  unfold fm_X11_beat at h
  obtain ⟨rr5, m_3, hc_1, h⟩ := bx_s h
  rcases h with ⟨q_10, rfl, h⟩ | ⟨x_2, rfl, h⟩
  · cases h
    have w_12 := (kw_X11_activityAt hF hc_1)
    have E_8 := Kr.ext w_12
    have w_13 := Kr.tr0 (Kr.rf (W := fW_X11_beat) (e := 0) hF) w_12 (by decide +kernel)
    exact hQ w_13
  have w_14 := (kw_X11_activityAt hF hc_1)
  have E_8 := Kr.ext w_14
  have w_15 := Kr.tr0 (Kr.rf (W := fW_X11_beat) (e := 0) hF) w_14 (by decide +kernel)
  obtain ⟨rr5, m_24, hc_22, h⟩ := bx_s h
  rcases h with ⟨q_31, rfl, h⟩ | ⟨x_23, rfl, h⟩
  · cases h
    have w_33 := (kw_X11_checkValue (Kr.fix w_15) hc_22)
    have E_29 := Kr.ext w_33
    have w_34 := Kr.tr0 w_15 w_33 (by decide +kernel)
    exact hQ w_34
  have w_35 := (kw_X11_checkValue (Kr.fix w_15) hc_22)
  have E_29 := Kr.ext w_35
  have w_36 := Kr.tr0 w_15 w_35 (by decide +kernel)
  obtain ⟨g_40, h⟩ := gd_s h
  obtain ⟨x_42, e_43, h⟩ := lx_s h
  rcases it_s h with ⟨hp_46, h⟩ | ⟨hp_46, h⟩
  · obtain ⟨x_50, e_51, h⟩ := lx_s h
    obtain ⟨m_58, e_59, h⟩ := up_s h
    have E_62 := ext_up e_59 (And.left g_40) (by decide)
    have w_63 := Kr.upK (y := 10) w_36 e_59 (ext_up e_59 (And.left g_40) (by decide)) (And.left g_40) (fx_f (j := 10) (Kr.fix w_36) g_40 (by decide +kernel)) g_40 (Or.inr rfl) (by decide +kernel) g_40 (by decide) (by first | exact Or.inl (by decide) | exact Or.inr (by decide))
    obtain ⟨x_68, e_69, h⟩ := lx_s h
    have g_70 := Ext.ok E_62 g_40
    obtain ⟨m_71, e_72, h⟩ := up_s h
    have E_75 := ext_up e_72 (And.left g_70) (by decide)
    have w_76 := Kr.upK (y := 9) w_63 e_72 (ext_up e_72 (And.left g_70) (by decide)) (And.left g_70) (fx_f (j := 9) (Kr.fix w_63) g_70 (by decide +kernel)) g_70 (Or.inr rfl) (by decide +kernel) g_70 (by decide) (by first | exact Or.inl (by decide) | exact Or.inr (by decide))
    cases h
    exact hQ w_76
  · cases h
    exact hQ w_36
set_option maxHeartbeats 4000000 in
theorem kw_X11_activity {m0 : MM} {p1 : Int} {rr : Int ⊕ Nat} {rm : MM} (hF : Fix m0)
  (h : fm_X11_activity p1 m0 = some (rr, rm)) : Kr fW_X11_activity 0 (tn rr) m0 rm := by
  have hQ : Kr fW_X11_activity 0 (tn rr) m0 rm → Kr fW_X11_activity 0 (tn rr) m0 rm := id
  unfold fm_X11_activity at h
  obtain ⟨rr5, m_3, hc_1, h⟩ := bx_s h
  rcases h with ⟨q_10, rfl, h⟩ | ⟨x_2, rfl, h⟩
  · cases h
    have w_12 := (kw_X11_activityAt hF hc_1)
    have E_8 := Kr.ext w_12
    have w_13 := Kr.tr0 (Kr.rf (W := fW_X11_activity) (e := 0) hF) w_12 (by decide +kernel)
    exact hQ w_13
  have w_14 := (kw_X11_activityAt hF hc_1)
  have E_8 := Kr.ext w_14
  have w_15 := Kr.tr0 (Kr.rf (W := fW_X11_activity) (e := 0) hF) w_14 (by decide +kernel)
  obtain ⟨g_24, h⟩ := gd_s h
  obtain ⟨x_26, e_27, h⟩ := lx_s h
  obtain ⟨g_30, h⟩ := gd_s h
  obtain ⟨x_32, e_33, h⟩ := lx_s h
  obtain ⟨x_41, e_42, h⟩ := lx_s h
  obtain ⟨x_50, e_51, h⟩ := lx_s h
  cases h
  exact hQ w_15
set_option maxHeartbeats 4000000 in
theorem kwl_X11_beginTick_12 {P : Prop} {mb : MM} {rz : Int} {rm : MM} (hF0 : Fix mb) (hQ : Kr fW_X11_beginTick 0 0 mb rm → P) :
  ∀ (n : Nat) {m : MM} {y1 : Int} , Kr fW_X11_beginTick 0 0 mb m → fl_X11_beginTick_12 n y1 m = some (rz, rm) → P := by
  intro n
  induction n with
  | zero => intro m y1 w h; cases h
  | succ n ih0 =>
    intro m y1 w h
    have ih : ∀ mq : MM, Kr fW_X11_beginTick 0 0 mb mq → ∀ {z1 : Int}, fl_X11_beginTick_12 n z1 mq = some (rz, rm) → P := fun mq b => by intros; exact ih0 b ‹_›
    unfold fl_X11_beginTick_12 at h
    rcases it_s h with ⟨hp_29, h⟩ | ⟨hp_29, h⟩
    · obtain ⟨g_35, h⟩ := gd_s h
      obtain ⟨m_36, e_37, h⟩ := up_s h
      have E_40 := ext_up e_37 (And.left (fx_kF (c := 100) (Kr.fix w) (by decide +kernel))) (And.left g_35)
      have w_41 := Kr.upC (y := (-9)) w e_37 (ext_up e_37 (And.left (fx_kF (c := 100) (Kr.fix w) (by decide +kernel))) (And.left g_35)) (And.left (fx_kF (c := 100) (Kr.fix w) (by decide +kernel))) (fx_a (Kr.fix w) (fx_kF (c := 100) (Kr.fix w) (by decide +kernel)) (And.left g_35) (by decide +kernel)) (Or.inl rfl) (by decide +kernel) (fx_kF (c := 100) (Kr.fix w) (by decide +kernel)) (And.left g_35) (by first | exact Or.inl (by decide) | exact Or.inr (by decide))
      obtain ⟨x_48, e_49, h⟩ := lx_s h
      exact ih m_36 w_41 h
    · cases h
      exact hQ w
set_option maxHeartbeats 4000000 in
theorem kw_X11_beginTick {m0 : MM} {rz : Int} {rm : MM} (hF : Fix m0)
  (h : fm_X11_beginTick m0 = some (rz, rm)) : Kr fW_X11_beginTick 0 0 m0 rm := by
  have hQ : Kr fW_X11_beginTick 0 0 m0 rm → Kr fW_X11_beginTick 0 0 m0 rm := id
  unfold fm_X11_beginTick at h
  obtain ⟨x_4, e_5, h⟩ := lx_s h
  obtain ⟨m_10, e_11, h⟩ := up_s h
  have E_14 := ext_up e_11 (And.left (fx_kF (c := 12) hF (by decide +kernel))) (by decide)
  have w_15 := Kr.upC (y := 14) (Kr.rf (W := fW_X11_beginTick) (e := 0) hF) e_11 (ext_up e_11 (And.left (fx_kF (c := 12) hF (by decide +kernel))) (by decide)) (And.left (fx_kF (c := 12) hF (by decide +kernel))) (fx_f (j := 14) hF (fx_kF (c := 12) hF (by decide +kernel)) (by decide +kernel)) (Or.inr rfl) (by decide +kernel) (fx_kF (c := 12) hF (by decide +kernel)) (by decide) (by first | exact Or.inl (by decide) | exact Or.inr (by decide))
  refine kwl_X11_beginTick_12 (Kr.fix w_15)  (fun f => hQ (Kr.trS w_15 f)) BIG (Kr.rf (Kr.fix w_15)) h
set_option maxHeartbeats 4000000 in
theorem kwl_X11_fireTimers_13 {P : Prop} {mb : MM} {y1 y2 : Int} {rz : Int} {rm : MM} (hF0 : Fix mb) (hQ : Kr fW_X11_fireTimers 0 0 mb rm → P) :
  ∀ (n : Nat) {m : MM} {y3 y4 : Int} , Kr fW_X11_fireTimers 0 0 mb m → fl_X11_fireTimers_13 y1 y2 n y3 y4 m = some (rz, rm) → P := by
  intro n
  induction n with
  | zero => intro m y3 y4 w h; cases h
  | succ n ih0 =>
    intro m y3 y4 w h
    have ih : ∀ mq : MM, Kr fW_X11_fireTimers 0 0 mb mq → ∀ {z3 z4 : Int}, fl_X11_fireTimers_13 y1 y2 n z3 z4 mq = some (rz, rm) → P := fun mq b => by intros; exact ih0 b ‹_›
    unfold fl_X11_fireTimers_13 at h
    rcases it_s h with ⟨hp_35, h⟩ | ⟨hp_35, h⟩
    · obtain ⟨g_38, h⟩ := gd_s h
      obtain ⟨x_40, e_41, h⟩ := lx_s h
      obtain ⟨g_42, h⟩ := gd_s h
      obtain ⟨x_44, hc_43, h⟩ := bp_s h
      obtain ⟨x_55, e_56, h⟩ := lx_s h
      rcases it_s h with ⟨hp_57, h⟩ | ⟨hp_57, h⟩
      · obtain ⟨x_144, e_145, h⟩ := lx_s h
        obtain ⟨x_156, e_157, h⟩ := lx_s h
        exact ih m w h
      · obtain ⟨x_63, e_64, h⟩ := lx_s h
        obtain ⟨g_65, h⟩ := gd_s h
        obtain ⟨x_67, hc_66, h⟩ := bp_s h
        obtain ⟨x_78, m_79, hc_77, h⟩ := bd_s h
        have w_86 := (kw_X11_arrive (Kr.fix w) hc_77)
        have E_84 := Kr.ext w_86
        have w_87 := Kr.tr0 w w_86 (by decide +kernel)
        have g_91 := Ext.ok E_84 g_38
        obtain ⟨x_93, e_94, h⟩ := lx_s h
        obtain ⟨g_95, h⟩ := gd_s h
        obtain ⟨x_97, m_98, hc_96, h⟩ := bd_s h
        have w_105 := (kw_X5_removeAt (Kr.fix w_87) g_95 hc_96)
        have E_103 := Kr.ext w_105
        have w_106 := Kr.tr0 w_87 w_105 (by decide +kernel)
        have g_110 := Ext.ok E_103 g_91
        obtain ⟨x_112, e_113, h⟩ := lx_s h
        obtain ⟨g_114, h⟩ := gd_s h
        obtain ⟨x_116, m_117, hc_115, h⟩ := bd_s h
        have w_124 := (kw_X5_removeAt (Kr.fix w_106) g_114 hc_115)
        have E_122 := Kr.ext w_124
        have w_125 := Kr.tr0 w_106 w_124 (by decide +kernel)
        obtain ⟨x_132, e_133, h⟩ := lx_s h
        exact ih m_117 w_125 h
    · cases h
      exact hQ w
set_option maxHeartbeats 4000000 in
theorem kw_X11_fireTimers {m0 : MM} {p1 : Int} {rz : Int} {rm : MM} (hF : Fix m0)
  (h : fm_X11_fireTimers p1 m0 = some (rz, rm)) : Kr fW_X11_fireTimers 0 0 m0 rm := by
  have hQ : Kr fW_X11_fireTimers 0 0 m0 rm → Kr fW_X11_fireTimers 0 0 m0 rm := id
  unfold fm_X11_fireTimers at h
  obtain ⟨g_3, h⟩ := gd_s h
  obtain ⟨x_5, e_6, h⟩ := lx_s h
  obtain ⟨g_9, h⟩ := gd_s h
  obtain ⟨x_11, e_12, h⟩ := lx_s h
  refine kwl_X11_fireTimers_13 hF  hQ BIG (Kr.rf hF) h
set_option maxHeartbeats 4000000 in
theorem kwj_X11_lookAtActivity_107 {P : Prop} {m : MM} {y1 : Int} {rz : Int} {rm : MM} (hF : Fix m) (hQ : Kr fW_X11_lookAtActivity 0 0 m rm → P)
  (h : fj_X11_lookAtActivity_107 y1 m = some (rz, rm)) : P := by
  unfold fj_X11_lookAtActivity_107 at h
  obtain ⟨x_75, m_76, hc_74, h⟩ := bd_s h
  have w_83 := (kw_X11_failAttempt hF hc_74)
  have E_81 := Kr.ext w_83
  have w_84 := Kr.tr0 (Kr.rf (W := fW_X11_lookAtActivity) (e := 0) hF) w_83 (by decide +kernel)
  cases h
  exact hQ w_84
set_option maxHeartbeats 4000000 in
theorem kwj_X11_lookAtActivity_69 {P : Prop} {m : MM} {y1 y2 : Int} {rz : Int} {rm : MM} (hF : Fix m) (hQ : Kr fW_X11_lookAtActivity 0 0 m rm → P)
  (h : fj_X11_lookAtActivity_69 y1 y2 m = some (rz, rm)) : P := by
  unfold fj_X11_lookAtActivity_69 at h
  obtain ⟨g_44, h⟩ := gd_s h
  obtain ⟨x_46, e_47, h⟩ := lx_s h
  rcases it_s h with ⟨hp_50, h⟩ | ⟨hp_50, h⟩
  · obtain ⟨g_53, h⟩ := gd_s h
    obtain ⟨x_55, e_56, h⟩ := lx_s h
    obtain ⟨x_60, e_61, h⟩ := lx_s h
    obtain ⟨x_63, hc_62, h⟩ := bp_s h
    rcases it_s h with ⟨hp_71, h⟩ | ⟨hp_71, h⟩
    · obtain ⟨x_89, e_90, h⟩ := lx_s h
      obtain ⟨x_94, e_95, h⟩ := lx_s h
      obtain ⟨x_97, hc_96, h⟩ := bp_s h
      rcases it_s h with ⟨hp_105, h⟩ | ⟨hp_105, h⟩
      · cases h
        exact hQ (Kr.rf (W := fW_X11_lookAtActivity) (e := 0) hF)
      · exact kwj_X11_lookAtActivity_107 hF hQ h
    · exact kwj_X11_lookAtActivity_107 hF hQ h
  · cases h
    exact hQ (Kr.rf (W := fW_X11_lookAtActivity) (e := 0) hF)
set_option maxHeartbeats 4000000 in
theorem kw_X11_lookAtActivity {m0 : MM} {p1 : Int} {rz : Int} {rm : MM} (hF : Fix m0)
  (h : fm_X11_lookAtActivity p1 m0 = some (rz, rm)) : Kr fW_X11_lookAtActivity 0 0 m0 rm := by
  have hQ : Kr fW_X11_lookAtActivity 0 0 m0 rm → Kr fW_X11_lookAtActivity 0 0 m0 rm := id
  unfold fm_X11_lookAtActivity at h
  obtain ⟨g_6, h⟩ := gd_s h
  obtain ⟨x_8, e_9, h⟩ := lx_s h
  obtain ⟨x_17, hc_16, h⟩ := bp_s h
  obtain ⟨g_27, h⟩ := gd_s h
  obtain ⟨x_29, e_30, h⟩ := lx_s h
  obtain ⟨x_39, e_40, h⟩ := lx_s h
  rcases it_s h with ⟨hp_41, h⟩ | ⟨hp_41, h⟩
  · obtain ⟨x_109, e_110, h⟩ := lx_s h
    rcases it_s h with ⟨hp_111, h⟩ | ⟨hp_111, h⟩
    · obtain ⟨g_114, h⟩ := gd_s h
      obtain ⟨x_116, e_117, h⟩ := lx_s h
      obtain ⟨x_121, e_122, h⟩ := lx_s h
      obtain ⟨x_124, hc_123, h⟩ := bp_s h
      rcases it_s h with ⟨hp_132, h⟩ | ⟨hp_132, h⟩
      · cases h
        exact hQ (Kr.rf (W := fW_X11_lookAtActivity) (e := 0) hF)
      · obtain ⟨m_135, e_136, h⟩ := up_s h
        have E_139 := ext_up e_136 (And.left g_6) (by decide)
        have w_140 := Kr.upK (y := 5) (Kr.rf (W := fW_X11_lookAtActivity) (e := 0) hF) e_136 (ext_up e_136 (And.left g_6) (by decide)) (And.left g_6) (fx_f (j := 5) hF g_6 (by decide +kernel)) g_6 (Or.inr rfl) (by decide +kernel) g_6 (by decide) (by first | exact Or.inl (by decide) | exact Or.inr (by decide))
        have g_144 := Ext.ok E_139 g_6
        obtain ⟨x_146, e_147, h⟩ := lx_s h
        obtain ⟨x_153, e_154, h⟩ := lx_s h
        obtain ⟨x_158, m_159, hc_157, h⟩ := bd_s h
        have w_166 := (kw_X11_arrive (Kr.fix w_140) hc_157)
        have E_164 := Kr.ext w_166
        have w_167 := Kr.tr0 w_140 w_166 (by decide +kernel)
        cases h
        exact hQ w_167
    · exact kwj_X11_lookAtActivity_69 hF hQ h
  · exact kwj_X11_lookAtActivity_69 hF hQ h
set_option maxHeartbeats 4000000 in
theorem kw_X11_startFor {m0 : MM} {p1 p2 : Int} {rz : Int} {rm : MM} (hF : Fix m0)
  (h : fm_X11_startFor p1 p2 m0 = some (rz, rm)) : Kr fW_X11_startFor 0 0 m0 rm := by
  have hQ : Kr fW_X11_startFor 0 0 m0 rm → Kr fW_X11_startFor 0 0 m0 rm := id
  unfold fm_X11_startFor at h
  obtain ⟨x_5, hc_4, h⟩ := bp_s h
  rcases it_s h with ⟨hp_15, h⟩ | ⟨hp_15, h⟩
  · obtain ⟨g_18, h⟩ := gd_s h
    obtain ⟨x_20, e_21, h⟩ := lx_s h
    obtain ⟨x_25, e_26, h⟩ := lx_s h
    obtain ⟨x_32, m_33, hc_31, h⟩ := bd_s h
    have w_40 := (kw_X11_startRun hF hc_31)
    have E_38 := Kr.ext w_40
    have w_41 := Kr.tr0 (Kr.rf (W := fW_X11_startFor) (e := 0) hF) w_40 (by decide +kernel)
    obtain ⟨g_45, h⟩ := gd_s h
    obtain ⟨x_47, e_48, h⟩ := lx_s h
    have g_49 := Ext.ok E_38 g_18
    obtain ⟨m_50, e_51, h⟩ := up_s h
    have E_54 := ext_up e_51 (And.left g_49) (by decide)
    have w_55 := Kr.upK (y := 6) w_41 e_51 (ext_up e_51 (And.left g_49) (by decide)) (And.left g_49) (fx_f (j := 6) (Kr.fix w_41) g_49 (by decide +kernel)) g_49 (Or.inr rfl) (by decide +kernel) g_49 (by decide) (by first | exact Or.inl (by decide) | exact Or.inr (by decide))
    cases h
    exact hQ w_55
  · cases h
    exact hQ (Kr.rf (W := fW_X11_startFor) (e := 0) hF)
set_option maxHeartbeats 4000000 in
theorem kwj_X11_meetPoint_16 {P : Prop} {m : MM} {y1 y2 : Int} {rz : Int} {rm : MM} (hF : Fix m) (hQ : Kr fW_X11_meetPoint 0 0 m rm → P)
  (h : fj_X11_meetPoint_16 y1 y2 m = some (rz, rm)) : P := by
  unfold fj_X11_meetPoint_16 at h
  obtain ⟨x_12, m_13, hc_11, h⟩ := bd_s h
  have w_20 := (kw_X11_startFor hF hc_11)
  have E_18 := Kr.ext w_20
  have w_21 := Kr.tr0 (Kr.rf (W := fW_X11_meetPoint) (e := 0) hF) w_20 (by decide +kernel)
  cases h
  exact hQ w_21
set_option maxHeartbeats 4000000 in
theorem kw_X11_meetPoint {m0 : MM} {p1 p2 : Int} {rz : Int} {rm : MM} (hF : Fix m0)
  (h : fm_X11_meetPoint p1 p2 m0 = some (rz, rm)) : Kr fW_X11_meetPoint 0 0 m0 rm := by
  have hQ : Kr fW_X11_meetPoint 0 0 m0 rm → Kr fW_X11_meetPoint 0 0 m0 rm := id
  unfold fm_X11_meetPoint at h
  obtain ⟨x_2, hc_1, h⟩ := bp_s h
  rcases it_s h with ⟨hp_10, h⟩ | ⟨hp_10, h⟩
  · exact kwj_X11_meetPoint_16 hF hQ h
  · obtain ⟨g_25, h⟩ := gd_s h
    obtain ⟨x_27, e_28, h⟩ := lx_s h
    rcases it_s h with ⟨hp_31, h⟩ | ⟨hp_31, h⟩
    · exact kwj_X11_meetPoint_16 hF hQ h
    · rcases it_s h with ⟨hp_37, h⟩ | ⟨hp_37, h⟩
      · obtain ⟨x_89, e_90, h⟩ := lx_s h
        rcases it_s h with ⟨hp_91, h⟩ | ⟨hp_91, h⟩
        · obtain ⟨m_94, e_95, h⟩ := up_s h
          have E_98 := ext_up e_95 (And.left g_25) (by decide)
          have w_99 := Kr.upK (y := 7) (Kr.rf (W := fW_X11_meetPoint) (e := 0) hF) e_95 (ext_up e_95 (And.left g_25) (by decide)) (And.left g_25) (fx_f (j := 7) hF g_25 (by decide +kernel)) g_25 (Or.inr rfl) (by decide +kernel) g_25 (by decide) (by first | exact Or.inl (by decide) | exact Or.inr (by decide))
          have g_101 := Ext.ok E_98 g_25
          obtain ⟨m_102, e_103, h⟩ := up_s h
          have E_106 := ext_up e_103 (And.left g_101) (by decide)
          have w_107 := Kr.upK (y := 8) w_99 e_103 (ext_up e_103 (And.left g_101) (by decide)) (And.left g_101) (fx_f (j := 8) (Kr.fix w_99) g_101 (by decide +kernel)) g_101 (Or.inr rfl) (by decide +kernel) g_101 (by decide) (by first | exact Or.inl (by decide) | exact Or.inr (by decide))
          cases h
          exact hQ w_107
        · cases h
          exact hQ (Kr.rf (W := fW_X11_meetPoint) (e := 0) hF)
      · rcases it_s h with ⟨hp_43, h⟩ | ⟨hp_43, h⟩
        · obtain ⟨x_50, e_51, h⟩ := lx_s h
          obtain ⟨x_53, hc_52, h⟩ := bp_s h
          obtain ⟨g_61, h⟩ := gd_s h
          obtain ⟨x_63, m_64, hc_62, h⟩ := bd_s h
          have w_71 := (kw_X11_cancelRun hF hc_62)
          have E_69 := Kr.ext w_71
          have w_72 := Kr.tr0 (Kr.rf (W := fW_X11_meetPoint) (e := 0) hF) w_71 (by decide +kernel)
          obtain ⟨x_75, m_76, hc_74, h⟩ := bd_s h
          have w_83 := (kw_X11_startFor (Kr.fix w_72) hc_74)
          have E_81 := Kr.ext w_83
          have w_84 := Kr.tr0 w_72 w_83 (by decide +kernel)
          cases h
          exact hQ w_84
        · cases h
          exact hQ (Kr.rf (W := fW_X11_meetPoint) (e := 0) hF)
set_option maxHeartbeats 4000000 in
theorem kwl_X11_lookAtSchedule_46 {P : Prop} {mb : MM} {y1 y2 : Int} {k84 : MM → Option (Int × MM)} {rz : Int} {rm : MM} (hF0 : Fix mb)
  (hk84 : ∀ mq : MM, Kr fW_X11_lookAtSchedule 0 0 mb mq → k84 mq = some (rz, rm) → P) (hQ : Kr fW_X11_lookAtSchedule 0 0 mb rm → P) :
  ∀ (n : Nat) {m : MM} {y3 : Int} , Kr fW_X11_lookAtSchedule 0 0 mb m → fl_X11_lookAtSchedule_46 y1 y2 k84 n y3 m = some (rz, rm) → P := by
  intro n
  induction n with
  | zero => intro m y3 w h; cases h
  | succ n ih0 =>
    intro m y3 w h
    have ih : ∀ mq : MM, Kr fW_X11_lookAtSchedule 0 0 mb mq → ∀ {z3 : Int}, fl_X11_lookAtSchedule_46 y1 y2 k84 n z3 mq = some (rz, rm) → P := fun mq b => by intros; exact ih0 b ‹_›
    unfold fl_X11_lookAtSchedule_46 at h
    rcases it_s h with ⟨hp_47, h⟩ | ⟨hp_47, h⟩
    · exact hk84 m w h
    · obtain ⟨g_48, h⟩ := gd_s h
      obtain ⟨x_50, hc_49, h⟩ := bp_s h
      rcases it_s h with ⟨hp_58, h⟩ | ⟨hp_58, h⟩
      · obtain ⟨x_64, e_65, h⟩ := lx_s h
        exact ih m w h
      · obtain ⟨x_73, e_74, h⟩ := lx_s h
        rcases it_s h with ⟨hp_75, h⟩ | ⟨hp_75, h⟩
        · obtain ⟨x_90, hc_89, h⟩ := bp_s h
          obtain ⟨x_99, m_100, hc_98, h⟩ := bd_s h
          have w_107 := (kw_X11_meetPoint (Kr.fix w) hc_98)
          have E_105 := Kr.ext w_107
          have w_108 := Kr.tr0 w w_107 (by decide +kernel)
          obtain ⟨x_115, e_116, h⟩ := lx_s h
          exact ih m_100 w_108 h
        · obtain ⟨x_81, e_82, h⟩ := lx_s h
          exact ih m w h
set_option maxHeartbeats 4000000 in
theorem kwj_X11_lookAtSchedule_29 {P : Prop} {m : MM} {y1 : Int} {rz : Int} {rm : MM} (hF : Fix m) (hQ : Kr fW_X11_lookAtSchedule 0 0 m rm → P)
  (h : fj_X11_lookAtSchedule_29 y1 m = some (rz, rm)) : P := by
  unfold fj_X11_lookAtSchedule_29 at h
  obtain ⟨x_11, e_12, h⟩ := lx_s h
  obtain ⟨x_16, e_17, h⟩ := lx_s h
  obtain ⟨x_20, e_21, h⟩ := lx_s h
  obtain ⟨g_30, h⟩ := gd_s h
  obtain ⟨x_32, e_33, h⟩ := lx_s h
  obtain ⟨x_38, e_39, h⟩ := lx_s h
  refine kwl_X11_lookAtSchedule_46 hF ?_ hQ BIG (Kr.rf hF) h
  intro m_130 w_133
  intro h
  have E_131 := Kr.ext w_133
  have w_134 := w_133
  have g_137 := Ext.ok E_131 g_30
  obtain ⟨x_139, e_140, h⟩ := lx_s h
  obtain ⟨x_142, hc_141, h⟩ := bp_s h
  obtain ⟨m_150, e_151, h⟩ := up_s h
  have E_154 := ext_up e_151 (And.left g_137) (by decide)
  have w_155 := Kr.upK (y := 4) w_134 e_151 (ext_up e_151 (And.left g_137) (by decide)) (And.left g_137) (fx_f (j := 4) (Kr.fix w_134) g_137 (by decide +kernel)) g_137 (Or.inr rfl) (by decide +kernel) g_137 (by decide) (by first | exact Or.inl (by decide) | exact Or.inr (by decide))
  cases h
  exact hQ w_155
set_option maxHeartbeats 4000000 in
theorem kw_X11_lookAtSchedule {m0 : MM} {p1 : Int} {rz : Int} {rm : MM} (hF : Fix m0)
  (h : fm_X11_lookAtSchedule p1 m0 = some (rz, rm)) : Kr fW_X11_lookAtSchedule 0 0 m0 rm := by
  have hQ : Kr fW_X11_lookAtSchedule 0 0 m0 rm → Kr fW_X11_lookAtSchedule 0 0 m0 rm := id
  unfold fm_X11_lookAtSchedule at h
  obtain ⟨g_3, h⟩ := gd_s h
  obtain ⟨x_5, e_6, h⟩ := lx_s h
  rcases it_s h with ⟨hp_7, h⟩ | ⟨hp_7, h⟩
  · exact kwj_X11_lookAtSchedule_29 hF hQ h
  · obtain ⟨x_158, hc_157, h⟩ := bp_s h
    rcases it_s h with ⟨hp_166, h⟩ | ⟨hp_166, h⟩
    · obtain ⟨m_169, e_170, h⟩ := up_s h
      have E_173 := ext_up e_170 (And.left g_3) (by decide)
      have w_174 := Kr.upK (y := 7) (Kr.rf (W := fW_X11_lookAtSchedule) (e := 0) hF) e_170 (ext_up e_170 (And.left g_3) (by decide)) (And.left g_3) (fx_f (j := 7) hF g_3 (by decide +kernel)) g_3 (Or.inr rfl) (by decide +kernel) g_3 (by decide) (by first | exact Or.inl (by decide) | exact Or.inr (by decide))
      have g_178 := Ext.ok E_173 g_3
      obtain ⟨x_180, e_181, h⟩ := lx_s h
      obtain ⟨x_183, m_184, hc_182, h⟩ := bd_s h
      have w_191 := (kw_X11_startFor (Kr.fix w_174) hc_182)
      have E_189 := Kr.ext w_191
      have w_192 := Kr.tr0 w_174 w_191 (by decide +kernel)
      exact kwj_X11_lookAtSchedule_29 (Kr.fix w_192) (fun f => hQ (Kr.trS w_192 f)) h
    · exact kwj_X11_lookAtSchedule_29 hF hQ h
set_option maxHeartbeats 4000000 in
theorem kwl_X11_pass_35 {P : Prop} {mb : MM} {y1 y2 : Int} {k67 : MM → Option ((Int ⊕ Nat) × MM)} {rr : Int ⊕ Nat} {rm : MM} (hF0 : Fix mb)
  (hk67 : ∀ mq : MM, Kr fW_X11_pass 0 0 mb mq → k67 mq = some (rr, rm) → P) (hQ : Kr fW_X11_pass 0 (tn rr) mb rm → P) :
  ∀ (n : Nat) {m : MM} {y3 : Int} , Kr fW_X11_pass 0 0 mb m → fl_X11_pass_35 y1 y2 k67 n y3 m = some (rr, rm) → P := by
  intro n
  induction n with
  | zero => intro m y3 w h; cases h
  | succ n ih0 =>
    intro m y3 w h
    have ih : ∀ mq : MM, Kr fW_X11_pass 0 0 mb mq → ∀ {z3 : Int}, fl_X11_pass_35 y1 y2 k67 n z3 mq = some (rr, rm) → P := fun mq b => by intros; exact ih0 b ‹_›
    unfold fl_X11_pass_35 at h
    obtain ⟨x_44, hc_43, h⟩ := bp_s h
    rcases it_s h with ⟨hp_52, h⟩ | ⟨hp_52, h⟩
    · obtain ⟨x_57, hc_56, h⟩ := bp_s h
      obtain ⟨g_65, h⟩ := gd_s h
      obtain ⟨x_67, m_68, hc_66, h⟩ := bd_s h
      have w_75 := (kw_X11_fireTimers (Kr.fix w) hc_66)
      have E_73 := Kr.ext w_75
      have w_76 := Kr.tr0 w w_75 (by decide +kernel)
      obtain ⟨x_83, e_84, h⟩ := lx_s h
      exact ih m_68 w_76 h
    · exact hk67 m w h
set_option maxHeartbeats 4000000 in
theorem kwl_X11_pass_69 {P : Prop} {mb : MM} {y1 y2 : Int} {k101 : MM → Option ((Int ⊕ Nat) × MM)} {rr : Int ⊕ Nat} {rm : MM} (hF0 : Fix mb)
  (hk101 : ∀ mq : MM, Kr fW_X11_pass 0 0 mb mq → k101 mq = some (rr, rm) → P) (hQ : Kr fW_X11_pass 0 (tn rr) mb rm → P) :
  ∀ (n : Nat) {m : MM} {y3 : Int} , Kr fW_X11_pass 0 0 mb m → fl_X11_pass_69 y1 y2 k101 n y3 m = some (rr, rm) → P := by
  intro n
  induction n with
  | zero => intro m y3 w h; cases h
  | succ n ih0 =>
    intro m y3 w h
    have ih : ∀ mq : MM, Kr fW_X11_pass 0 0 mb mq → ∀ {z3 : Int}, fl_X11_pass_69 y1 y2 k101 n z3 mq = some (rr, rm) → P := fun mq b => by intros; exact ih0 b ‹_›
    unfold fl_X11_pass_69 at h
    obtain ⟨x_118, hc_117, h⟩ := bp_s h
    rcases it_s h with ⟨hp_126, h⟩ | ⟨hp_126, h⟩
    · obtain ⟨x_131, hc_130, h⟩ := bp_s h
      obtain ⟨g_139, h⟩ := gd_s h
      obtain ⟨x_141, m_142, hc_140, h⟩ := bd_s h
      have w_149 := (kw_X11_lookAtActivity (Kr.fix w) hc_140)
      have E_147 := Kr.ext w_149
      have w_150 := Kr.tr0 w w_149 (by decide +kernel)
      obtain ⟨x_157, e_158, h⟩ := lx_s h
      exact ih m_142 w_150 h
    · exact hk101 m w h
set_option maxHeartbeats 4000000 in
theorem kwl_X11_pass_103 {P : Prop} {mb : MM} {y1 y2 : Int} {k135 : MM → Option ((Int ⊕ Nat) × MM)} {rr : Int ⊕ Nat} {rm : MM} (hF0 : Fix mb)
  (hk135 : ∀ mq : MM, Kr fW_X11_pass 0 0 mb mq → k135 mq = some (rr, rm) → P) (hQ : Kr fW_X11_pass 0 (tn rr) mb rm → P) :
  ∀ (n : Nat) {m : MM} {y3 : Int} , Kr fW_X11_pass 0 0 mb m → fl_X11_pass_103 y1 y2 k135 n y3 m = some (rr, rm) → P := by
  intro n
  induction n with
  | zero => intro m y3 w h; cases h
  | succ n ih0 =>
    intro m y3 w h
    have ih : ∀ mq : MM, Kr fW_X11_pass 0 0 mb mq → ∀ {z3 : Int}, fl_X11_pass_103 y1 y2 k135 n z3 mq = some (rr, rm) → P := fun mq b => by intros; exact ih0 b ‹_›
    unfold fl_X11_pass_103 at h
    obtain ⟨x_192, hc_191, h⟩ := bp_s h
    rcases it_s h with ⟨hp_200, h⟩ | ⟨hp_200, h⟩
    · obtain ⟨x_205, hc_204, h⟩ := bp_s h
      obtain ⟨g_213, h⟩ := gd_s h
      obtain ⟨x_215, m_216, hc_214, h⟩ := bd_s h
      have w_223 := (kw_X11_lookAtSchedule (Kr.fix w) hc_214)
      have E_221 := Kr.ext w_223
      have w_224 := Kr.tr0 w w_223 (by decide +kernel)
      obtain ⟨x_231, e_232, h⟩ := lx_s h
      exact ih m_216 w_224 h
    · exact hk135 m w h
set_option maxHeartbeats 4000000 in
theorem kwl_X11_pass_24 {P : Prop} {mb : MM} {y1 : Int} {rr : Int ⊕ Nat} {rm : MM} (hF0 : Fix mb) (hQ : Kr fW_X11_pass 0 (tn rr) mb rm → P) :
  ∀ (n : Nat) {m : MM} {y2 : Int} , Kr fW_X11_pass 0 0 mb m → fl_X11_pass_24 y1 n y2 m = some (rr, rm) → P := by
  intro n
  induction n with
  | zero => intro m y2 w h; cases h
  | succ n ih0 =>
    intro m y2 w h
    have ih : ∀ mq : MM, Kr fW_X11_pass 0 0 mb mq → ∀ {z2 : Int}, fl_X11_pass_24 y1 n z2 mq = some (rr, rm) → P := fun mq b => by intros; exact ih0 b ‹_›
    unfold fl_X11_pass_24 at h
    rcases it_s h with ⟨hp_14, h⟩ | ⟨hp_14, h⟩
    · obtain ⟨x_21, m_22, hc_20, h⟩ := bd_s h
      have w_29 := (kw_X11_beginTick (Kr.fix w) hc_20)
      have E_27 := Kr.ext w_29
      have w_30 := Kr.tr0 w w_29 (by decide +kernel)
      refine kwl_X11_pass_35 (Kr.fix w_30) ?_ (fun f => hQ (Kr.trS w_30 f)) BIG (Kr.rf (Kr.fix w_30)) h
      intro m_101 w_104
      intro h
      have E_102 := Kr.ext w_104
      have w_105 := Kr.trS w_30 w_104
      refine kwl_X11_pass_69 (Kr.fix w_105) ?_ (fun f => hQ (Kr.trS w_105 f)) BIG (Kr.rf (Kr.fix w_105)) h
      intro m_175 w_178
      intro h
      have E_176 := Kr.ext w_178
      have w_179 := Kr.trS w_105 w_178
      refine kwl_X11_pass_103 (Kr.fix w_179) ?_ (fun f => hQ (Kr.trS w_179 f)) BIG (Kr.rf (Kr.fix w_179)) h
      intro m_249 w_252
      intro h
      have E_250 := Kr.ext w_252
      have w_253 := Kr.trS w_179 w_252
      obtain ⟨x_259, e_260, h⟩ := lx_s h
      exact ih m_249 w_253 h
    · obtain ⟨x_18, e_19, h⟩ := lx_s h
      cases h
      exact hQ w
set_option maxHeartbeats 4000000 in
theorem kw_X11_pass {m0 : MM} {p1 : Int} {rr : Int ⊕ Nat} {rm : MM} (hF : Fix m0)
  (h : fm_X11_pass p1 m0 = some (rr, rm)) : Kr fW_X11_pass 0 (tn rr) m0 rm := by
  have hQ : Kr fW_X11_pass 0 (tn rr) m0 rm → Kr fW_X11_pass 0 (tn rr) m0 rm := id
  unfold fm_X11_pass at h
  rcases it_s h with ⟨hp_3, h⟩ | ⟨hp_3, h⟩
  · cases h
    exact hQ (Kr.thr (Kr.rf (W := fW_X11_pass) (e := 0) hF) (by decide +kernel))
  · rcases it_s h with ⟨hp_6, h⟩ | ⟨hp_6, h⟩
    · cases h
      exact hQ (Kr.thr (Kr.rf (W := fW_X11_pass) (e := 0) hF) (by decide +kernel))
    · refine kwl_X11_pass_24 hF  hQ BIG (Kr.rf hF) h
set_option maxHeartbeats 4000000 in
theorem kw_X11_checkVersion {m0 : MM} {p1 p2 : Int} {rr : Int ⊕ Nat} {rm : MM} (hF : Fix m0)
  (h : fm_X11_checkVersion p1 p2 m0 = some (rr, rm)) : Kr fW_X11_checkVersion 0 (tn rr) m0 rm := by
  have hQ : Kr fW_X11_checkVersion 0 (tn rr) m0 rm → Kr fW_X11_checkVersion 0 (tn rr) m0 rm := id
  unfold fm_X11_checkVersion at h
  rcases it_s h with ⟨hp_1, h⟩ | ⟨hp_1, h⟩
  · cases h
    exact hQ (Kr.thr (Kr.rf (W := fW_X11_checkVersion) (e := 0) hF) (by decide +kernel))
  · obtain ⟨g_4, h⟩ := gd_s h
    obtain ⟨x_6, e_7, h⟩ := lx_s h
    obtain ⟨g_8, h⟩ := gd_s h
    obtain ⟨x_10, hc_9, h⟩ := bp_s h
    rcases it_s h with ⟨hp_18, h⟩ | ⟨hp_18, h⟩
    · cases h
      exact hQ (Kr.rf (W := fW_X11_checkVersion) (e := 0) hF)
    · cases h
      exact hQ (Kr.thr (Kr.rf (W := fW_X11_checkVersion) (e := 0) hF) (by decide +kernel))
set_option maxHeartbeats 4000000 in
theorem kwl_X11_unsafe_15 {P : Prop} {mb : MM} {y1 y2 : Int} {rr : Int ⊕ Nat} {rm : MM} (hF0 : Fix mb) (hQ : Kr fW_X11_unsafe 0 (tn rr) mb rm → P) :
  ∀ (n : Nat) {m : MM} {y3 y4 : Int} , Kr fW_X11_unsafe 0 0 mb m → fl_X11_unsafe_15 y1 y2 n y3 y4 m = some (rr, rm) → P := by
  intro n
  induction n with
  | zero => intro m y3 y4 w h; cases h
  | succ n ih0 =>
    intro m y3 y4 w h
    have ih : ∀ mq : MM, Kr fW_X11_unsafe 0 0 mb mq → ∀ {z3 z4 : Int}, fl_X11_unsafe_15 y1 y2 n z3 z4 mq = some (rr, rm) → P := fun mq b => by intros; exact ih0 b ‹_›
    unfold fl_X11_unsafe_15 at h
    obtain ⟨x_54, hc_53, h⟩ := bp_s h
    rcases it_s h with ⟨hp_62, h⟩ | ⟨hp_62, h⟩
    · obtain ⟨x_67, hc_66, h⟩ := bp_s h
      obtain ⟨g_75, h⟩ := gd_s h
      obtain ⟨x_87, e_88, h⟩ := lx_s h
      rcases it_s h with ⟨hp_89, h⟩ | ⟨hp_89, h⟩
      · obtain ⟨x_105, e_106, h⟩ := lx_s h
        rcases it_s h with ⟨hp_107, h⟩ | ⟨hp_107, h⟩
        · obtain ⟨x_124, hc_123, h⟩ := bp_s h
          obtain ⟨x_135, e_136, h⟩ := lx_s h
          obtain ⟨g_139, h⟩ := gd_s h
          obtain ⟨x_141, e_142, h⟩ := lx_s h
          obtain ⟨x_146, m_147, hc_145, h⟩ := bd_s h
          have w_154 := (kw_X4_follow (Kr.fix w) hc_145)
          have E_152 := Kr.ext w_154
          have w_155 := Kr.tr0 w w_154 (by decide +kernel)
          rcases it_s h with ⟨hp_157, h⟩ | ⟨hp_157, h⟩
          · obtain ⟨x_175, e_176, h⟩ := lx_s h
            obtain ⟨x_187, e_188, h⟩ := lx_s h
            exact ih m_147 w_155 h
          · obtain ⟨x_163, e_164, h⟩ := lx_s h
            exact ih m_147 w_155 h
        · obtain ⟨x_113, e_114, h⟩ := lx_s h
          exact ih m w h
      · obtain ⟨x_95, e_96, h⟩ := lx_s h
        exact ih m w h
    · cases h
      exact hQ w
set_option maxHeartbeats 4000000 in
theorem kw_X11_unsafe {m0 : MM} {p1 p2 : Int} {rr : Int ⊕ Nat} {rm : MM} (hF : Fix m0)
  (h : fm_X11_unsafe p1 p2 m0 = some (rr, rm)) : Kr fW_X11_unsafe 0 (tn rr) m0 rm := by
  have hQ : Kr fW_X11_unsafe 0 (tn rr) m0 rm → Kr fW_X11_unsafe 0 (tn rr) m0 rm := id
  unfold fm_X11_unsafe at h
  obtain ⟨rr5, m_3, hc_1, h⟩ := bx_s h
  rcases h with ⟨q_10, rfl, h⟩ | ⟨x_2, rfl, h⟩
  · cases h
    have w_12 := (kw_X11_typeAt hF hc_1)
    have E_8 := Kr.ext w_12
    have w_13 := Kr.tr0 (Kr.rf (W := fW_X11_unsafe) (e := 0) hF) w_12 (by decide +kernel)
    exact hQ w_13
  have w_14 := (kw_X11_typeAt hF hc_1)
  have E_8 := Kr.ext w_14
  have w_15 := Kr.tr0 (Kr.rf (W := fW_X11_unsafe) (e := 0) hF) w_14 (by decide +kernel)
  obtain ⟨rr5, m_19, hc_17, h⟩ := bx_s h
  rcases h with ⟨q_26, rfl, h⟩ | ⟨x_18, rfl, h⟩
  · cases h
    have w_28 := (kw_X11_checkVersion (Kr.fix w_15) hc_17)
    have E_24 := Kr.ext w_28
    have w_29 := Kr.tr0 w_15 w_28 (by decide +kernel)
    exact hQ w_29
  have w_30 := (kw_X11_checkVersion (Kr.fix w_15) hc_17)
  have E_24 := Kr.ext w_30
  have w_31 := Kr.tr0 w_15 w_30 (by decide +kernel)
  refine kwl_X11_unsafe_15 (Kr.fix w_31)  (fun f => hQ (Kr.trS w_31 f)) BIG (Kr.rf (Kr.fix w_31)) h
set_option maxHeartbeats 4000000 in
theorem kw_X11_move {m0 : MM} {p1 p2 : Int} {rr : Int ⊕ Nat} {rm : MM} (hF : Fix m0)
  (h : fm_X11_move p1 p2 m0 = some (rr, rm)) : Kr fW_X11_move 0 (tn rr) m0 rm := by
  have hQ : Kr fW_X11_move 0 (tn rr) m0 rm → Kr fW_X11_move 0 (tn rr) m0 rm := id
  unfold fm_X11_move at h
  obtain ⟨rr5, m_3, hc_1, h⟩ := bx_s h
  rcases h with ⟨q_10, rfl, h⟩ | ⟨x_2, rfl, h⟩
  · cases h
    have w_12 := (kw_X11_runAt hF hc_1)
    have E_8 := Kr.ext w_12
    have w_13 := Kr.tr0 (Kr.rf (W := fW_X11_move) (e := 0) hF) w_12 (by decide +kernel)
    exact hQ w_13
  have w_14 := (kw_X11_runAt hF hc_1)
  have E_8 := Kr.ext w_14
  have w_15 := Kr.tr0 (Kr.rf (W := fW_X11_move) (e := 0) hF) w_14 (by decide +kernel)
  obtain ⟨g_24, h⟩ := gd_s h
  obtain ⟨x_26, e_27, h⟩ := lx_s h
  obtain ⟨rr5, m_30, hc_28, h⟩ := bx_s h
  rcases h with ⟨q_37, rfl, h⟩ | ⟨x_29, rfl, h⟩
  · cases h
    have w_39 := (kw_X11_typeAt (Kr.fix w_15) hc_28)
    have E_35 := Kr.ext w_39
    have w_40 := Kr.tr0 w_15 w_39 (by decide +kernel)
    exact hQ w_40
  have w_41 := (kw_X11_typeAt (Kr.fix w_15) hc_28)
  have E_35 := Kr.ext w_41
  have w_42 := Kr.tr0 w_15 w_41 (by decide +kernel)
  obtain ⟨rr5, m_46, hc_44, h⟩ := bx_s h
  rcases h with ⟨q_53, rfl, h⟩ | ⟨x_45, rfl, h⟩
  · cases h
    have w_55 := (kw_X11_checkVersion (Kr.fix w_42) hc_44)
    have E_51 := Kr.ext w_55
    have w_56 := Kr.tr0 w_42 w_55 (by decide +kernel)
    exact hQ w_56
  have w_57 := (kw_X11_checkVersion (Kr.fix w_42) hc_44)
  have E_51 := Kr.ext w_57
  have w_58 := Kr.tr0 w_42 w_57 (by decide +kernel)
  have g_60 := Ext.ok (Ext.tr E_35 E_51) g_24
  obtain ⟨x_62, hc_61, h⟩ := bp_s h
  rcases it_s h with ⟨hp_70, h⟩ | ⟨hp_70, h⟩
  · cases h
    exact hQ (Kr.thr w_58 (by decide +kernel))
  · obtain ⟨m_71, e_72, h⟩ := up_s h
    have E_75 := ext_up e_72 (And.left g_60) (by decide)
    have w_76 := Kr.upK (y := 3) w_58 e_72 (ext_up e_72 (And.left g_60) (by decide)) (And.left g_60) (fx_f (j := 3) (Kr.fix w_58) g_60 (by decide +kernel)) g_60 (Or.inr rfl) (by decide +kernel) g_60 (by decide) (by first | exact Or.inl (by decide) | exact Or.inr (by decide))
    have g_80 := Ext.ok E_75 g_60
    obtain ⟨m_81, e_82, h⟩ := up_s h
    have E_85 := ext_up e_82 (And.left g_80) (by decide)
    have w_86 := Kr.upK (y := 6) w_76 e_82 (ext_up e_82 (And.left g_80) (by decide)) (And.left g_80) (fx_f (j := 6) (Kr.fix w_76) g_80 (by decide +kernel)) g_80 (Or.inr rfl) (by decide +kernel) g_80 (by decide) (by first | exact Or.inl (by decide) | exact Or.inr (by decide))
    obtain ⟨x_92, hc_91, h⟩ := bp_s h
    have g_102 := Ext.ok E_85 g_80
    obtain ⟨x_104, e_105, h⟩ := lx_s h
    obtain ⟨g_108, h⟩ := gd_s h
    obtain ⟨x_110, e_111, h⟩ := lx_s h
    obtain ⟨x_115, m_116, hc_114, h⟩ := bd_s h
    have w_123 := (kw_X4_follow (Kr.fix w_86) hc_114)
    have E_121 := Kr.ext w_123
    have w_124 := Kr.tr0 w_86 w_123 (by decide +kernel)
    obtain ⟨g_126, h⟩ := gd_s h
    cases h
    exact hQ w_124
set_option maxHeartbeats 4000000 in
theorem kwl_X11_partFromChildren_2 {P : Prop} {mb : MM} {y1 y2 : Int} {rz : Int} {rm : MM} (hF0 : Fix mb) (hQ : Kr fW_X11_partFromChildren 0 0 mb rm → P) :
  ∀ (n : Nat) {m : MM} {y3 : Int} , Kr fW_X11_partFromChildren 0 0 mb m → fl_X11_partFromChildren_2 y1 y2 n y3 m = some (rz, rm) → P := by
  intro n
  induction n with
  | zero => intro m y3 w h; cases h
  | succ n ih0 =>
    intro m y3 w h
    have ih : ∀ mq : MM, Kr fW_X11_partFromChildren 0 0 mb mq → ∀ {z3 : Int}, fl_X11_partFromChildren_2 y1 y2 n z3 mq = some (rz, rm) → P := fun mq b => by intros; exact ih0 b ‹_›
    unfold fl_X11_partFromChildren_2 at h
    obtain ⟨x_13, hc_12, h⟩ := bp_s h
    rcases it_s h with ⟨hp_21, h⟩ | ⟨hp_21, h⟩
    · obtain ⟨x_26, hc_25, h⟩ := bp_s h
      obtain ⟨g_34, h⟩ := gd_s h
      obtain ⟨x_45, e_46, h⟩ := lx_s h
      rcases it_s h with ⟨hp_47, h⟩ | ⟨hp_47, h⟩
      · obtain ⟨x_62, e_63, h⟩ := lx_s h
        rcases it_s h with ⟨hp_64, h⟩ | ⟨hp_64, h⟩
        · obtain ⟨x_70, e_71, h⟩ := lx_s h
          exact ih m w h
        · obtain ⟨m_78, e_79, h⟩ := up_s h
          have E_82 := ext_up e_79 (And.left g_34) (by decide)
          have w_83 := Kr.upK (y := 4) w e_79 (ext_up e_79 (And.left g_34) (by decide)) (And.left g_34) (fx_f (j := 4) (Kr.fix w) g_34 (by decide +kernel)) g_34 (Or.inr rfl) (by decide +kernel) g_34 (by decide) (by first | exact Or.inl (by decide) | exact Or.inr (by decide))
          obtain ⟨x_90, e_91, h⟩ := lx_s h
          exact ih m_78 w_83 h
      · obtain ⟨x_53, e_54, h⟩ := lx_s h
        exact ih m w h
    · cases h
      exact hQ w
set_option maxHeartbeats 4000000 in
theorem kw_X11_partFromChildren {m0 : MM} {p1 p2 : Int} {rz : Int} {rm : MM} (hF : Fix m0)
  (h : fm_X11_partFromChildren p1 p2 m0 = some (rz, rm)) : Kr fW_X11_partFromChildren 0 0 m0 rm := by
  have hQ : Kr fW_X11_partFromChildren 0 0 m0 rm → Kr fW_X11_partFromChildren 0 0 m0 rm := id
  unfold fm_X11_partFromChildren at h
  refine kwl_X11_partFromChildren_2 hF  hQ BIG (Kr.rf hF) h
set_option maxHeartbeats 4000000 in
theorem kwj_X11_restoreWork_41 {P : Prop} {m : MM} {y1 y2 y3 y4 y5 : Int} {rz : Int} {rm : MM} {c : Int → MM → Option (Int × MM)} (hF : Fix m)
  (hc : ∀ mq : MM, Kr fW_X11_restoreWork 0 0 m mq → ∀ {z4 : Int}, c z4 mq = some (rz, rm) → P) (hQ : Kr fW_X11_restoreWork 0 0 m rm → P)
  (h : fj_X11_restoreWork_41 c y1 y2 y3 y4 y5 m = some (rz, rm)) : P := by
  unfold fj_X11_restoreWork_41 at h
  obtain ⟨g_55, h⟩ := gd_s h
  obtain ⟨x_57, hc_56, h⟩ := bp_s h
  rcases it_s h with ⟨hp_65, h⟩ | ⟨hp_65, h⟩
  · rcases it_s h with ⟨hp_68, h⟩ | ⟨hp_68, h⟩
    · obtain ⟨x_133, hc_132, h⟩ := bp_s h
      obtain ⟨x_142, hc_141, h⟩ := bp_s h
      obtain ⟨x_151, m_152, hc_150, h⟩ := bd_s h
      have w_159 := (kw_X11_makeActivity hF hc_150)
      have E_157 := Kr.ext w_159
      have w_160 := Kr.tr0 (Kr.rf (W := fW_X11_restoreWork) (e := 0) hF) w_159 (by decide +kernel)
      obtain ⟨x_167, e_168, h⟩ := lx_s h
      exact hc m_152 w_160 h
    · obtain ⟨x_70, hc_69, h⟩ := bp_s h
      obtain ⟨x_79, hc_78, h⟩ := bp_s h
      obtain ⟨x_92, e_93, h⟩ := lx_s h
      obtain ⟨x_99, hc_98, h⟩ := bp_s h
      obtain ⟨g_107, h⟩ := gd_s h
      obtain ⟨x_109, m_110, hc_108, h⟩ := bd_s h
      have w_117 := (kw_X6_addTimer hF g_107 hc_108)
      have E_115 := Kr.ext w_117
      have w_118 := Kr.tr0 (Kr.rf (W := fW_X11_restoreWork) (e := 0) hF) w_117 (by decide +kernel)
      obtain ⟨x_125, e_126, h⟩ := lx_s h
      exact hc m_110 w_118 h
  · obtain ⟨x_179, e_180, h⟩ := lx_s h
    exact hc m (Kr.rf (W := fW_X11_restoreWork) (e := 0) hF) h
set_option maxHeartbeats 4000000 in
theorem kwl_X11_restoreWork_13 {P : Prop} {mb : MM} {y1 y2 y3 : Int} {rz : Int} {rm : MM} (hF0 : Fix mb) (hQ : Kr fW_X11_restoreWork 0 0 mb rm → P) :
  ∀ (n : Nat) {m : MM} {y4 : Int} , Kr fW_X11_restoreWork 0 0 mb m → fl_X11_restoreWork_13 y1 y2 y3 n y4 m = some (rz, rm) → P := by
  intro n
  induction n with
  | zero => intro m y4 w h; cases h
  | succ n ih0 =>
    intro m y4 w h
    have ih : ∀ mq : MM, Kr fW_X11_restoreWork 0 0 mb mq → ∀ {z4 : Int}, fl_X11_restoreWork_13 y1 y2 y3 n z4 mq = some (rz, rm) → P := fun mq b => by intros; exact ih0 b ‹_›
    unfold fl_X11_restoreWork_13 at h
    rcases it_s h with ⟨hp_33, h⟩ | ⟨hp_33, h⟩
    · obtain ⟨g_34, h⟩ := gd_s h
      obtain ⟨x_36, hc_35, h⟩ := bp_s h
      rcases it_s h with ⟨hp_54, h⟩ | ⟨hp_54, h⟩
      · exact kwj_X11_restoreWork_41 (Kr.fix w) (fun mq f => ih mq (Kr.trS w f)) (fun f => hQ (Kr.trS w f)) h
      · rcases it_s h with ⟨hp_188, h⟩ | ⟨hp_188, h⟩
        · exact kwj_X11_restoreWork_41 (Kr.fix w) (fun mq f => ih mq (Kr.trS w f)) (fun f => hQ (Kr.trS w f)) h
        · obtain ⟨x_194, e_195, h⟩ := lx_s h
          exact ih m w h
    · cases h
      exact hQ w
set_option maxHeartbeats 4000000 in
theorem kw_X11_restoreWork {m0 : MM} {p1 : Int} {rz : Int} {rm : MM} (hF : Fix m0)
  (h : fm_X11_restoreWork p1 m0 = some (rz, rm)) : Kr fW_X11_restoreWork 0 0 m0 rm := by
  have hQ : Kr fW_X11_restoreWork 0 0 m0 rm → Kr fW_X11_restoreWork 0 0 m0 rm := id
  unfold fm_X11_restoreWork at h
  obtain ⟨g_3, h⟩ := gd_s h
  obtain ⟨x_5, e_6, h⟩ := lx_s h
  obtain ⟨g_14, h⟩ := gd_s h
  obtain ⟨x_16, e_17, h⟩ := lx_s h
  refine kwl_X11_restoreWork_13 hF  hQ BIG (Kr.rf hF) h
set_option maxHeartbeats 4000000 in
theorem kw_X11_setBack {m0 : MM} {p1 p2 : Int} {rr : Int ⊕ Nat} {rm : MM} (hF : Fix m0)
  (h : fm_X11_setBack p1 p2 m0 = some (rr, rm)) : Kr fW_X11_setBack 0 (tn rr) m0 rm := by
  have hQ : Kr fW_X11_setBack 0 (tn rr) m0 rm → Kr fW_X11_setBack 0 (tn rr) m0 rm := id
  unfold fm_X11_setBack at h
  obtain ⟨rr5, m_3, hc_1, h⟩ := bx_s h
  rcases h with ⟨q_10, rfl, h⟩ | ⟨x_2, rfl, h⟩
  · cases h
    have w_12 := (kw_X11_runAt hF hc_1)
    have E_8 := Kr.ext w_12
    have w_13 := Kr.tr0 (Kr.rf (W := fW_X11_setBack) (e := 0) hF) w_12 (by decide +kernel)
    exact hQ w_13
  have w_14 := (kw_X11_runAt hF hc_1)
  have E_8 := Kr.ext w_14
  have w_15 := Kr.tr0 (Kr.rf (W := fW_X11_setBack) (e := 0) hF) w_14 (by decide +kernel)
  obtain ⟨g_24, h⟩ := gd_s h
  obtain ⟨x_26, e_27, h⟩ := lx_s h
  obtain ⟨g_28, h⟩ := gd_s h
  obtain ⟨x_30, hc_29, h⟩ := bp_s h
  rcases it_s h with ⟨hp_43, h⟩ | ⟨hp_43, h⟩
  · cases h
    exact hQ (Kr.thr w_15 (by decide +kernel))
  · obtain ⟨x_45, hc_44, h⟩ := bp_s h
    rcases it_s h with ⟨hp_53, h⟩ | ⟨hp_53, h⟩
    · cases h
      exact hQ (Kr.thr w_15 (by decide +kernel))
    · obtain ⟨x_58, hc_57, h⟩ := bp_s h
      rcases it_s h with ⟨hp_68, h⟩ | ⟨hp_68, h⟩
      · obtain ⟨x_72, e_73, h⟩ := lx_s h
        obtain ⟨x_77, e_78, h⟩ := lx_s h
        obtain ⟨x_82, e_83, h⟩ := lx_s h
        obtain ⟨x_87, e_88, h⟩ := lx_s h
        obtain ⟨x_92, e_93, h⟩ := lx_s h
        obtain ⟨x_95, m_96, hc_94, h⟩ := bd_s h
        have w_103 := (kw_X11_addRun (Kr.fix w_15) hc_94)
        have E_101 := Kr.ext w_103
        have w_104 := Kr.tr0 w_15 w_103 (by decide +kernel)
        have g_114 := Ext.ok E_101 g_24
        obtain ⟨m_115, e_116, h⟩ := up_s h
        have E_119 := ext_up e_116 (And.left g_114) (by decide)
        have w_120 := Kr.upK (y := 6) w_104 e_116 (ext_up e_116 (And.left g_114) (by decide)) (And.left g_114) (fx_f (j := 6) (Kr.fix w_104) g_114 (by decide +kernel)) g_114 (Or.inr rfl) (by decide +kernel) g_114 (by decide) (by first | exact Or.inl (by decide) | exact Or.inr (by decide))
        obtain ⟨g_124, h⟩ := gd_s h
        obtain ⟨x_126, e_127, h⟩ := lx_s h
        have g_130 := Ext.ok E_119 g_114
        obtain ⟨x_132, e_133, h⟩ := lx_s h
        obtain ⟨g_138, h⟩ := gd_s h
        obtain ⟨x_140, m_141, hc_139, h⟩ := bd_s h
        have w_148 := (kw_X2_becomeFirst (Kr.fix w_120) g_138 hc_139)
        have E_146 := Kr.ext w_148
        have w_149 := Kr.tr0 w_120 w_148 (by decide +kernel)
        obtain ⟨x_152, m_153, hc_151, h⟩ := bd_s h
        have w_160 := (kw_X11_endWork (Kr.fix w_149) hc_151)
        have E_158 := Kr.ext w_160
        have w_161 := Kr.tr0 w_149 w_160 (by decide +kernel)
        have g_165 := Ext.ok (Ext.tr E_146 E_158) g_130
        obtain ⟨x_167, e_168, h⟩ := lx_s h
        obtain ⟨x_172, m_173, hc_171, h⟩ := bd_s h
        have w_180 := (kw_X11_partFromChildren (Kr.fix w_161) hc_171)
        have E_178 := Kr.ext w_180
        have w_181 := Kr.tr0 w_161 w_180 (by decide +kernel)
        obtain ⟨x_184, m_185, hc_183, h⟩ := bd_s h
        have w_192 := (kw_X11_restoreWork (Kr.fix w_181) hc_183)
        have E_190 := Kr.ext w_192
        have w_193 := Kr.tr0 w_181 w_192 (by decide +kernel)
        have g_197 := Ext.ok (Ext.tr E_178 E_190) g_165
        obtain ⟨x_199, e_200, h⟩ := lx_s h
        obtain ⟨x_206, m_207, hc_205, h⟩ := bd_s h
        have w_214 := (kw_X11_sendSignals (Kr.fix w_193) hc_205)
        have E_212 := Kr.ext w_214
        have w_215 := Kr.tr0 w_193 w_214 (by decide +kernel)
        have g_219 := Ext.ok (Ext.tr (Ext.tr (Ext.tr (Ext.tr E_146 E_158) E_178) E_190) E_212) g_124
        obtain ⟨x_221, e_222, h⟩ := lx_s h
        cases h
        exact hQ w_215
      · cases h
        exact hQ (Kr.thr w_15 (by decide +kernel))
set_option maxHeartbeats 4000000 in
theorem kw_X11_copy {m0 : MM} {p1 p2 : Int} {rr : Int ⊕ Nat} {rm : MM} (hF : Fix m0)
  (h : fm_X11_copy p1 p2 m0 = some (rr, rm)) : Kr fW_X11_copy 0 (tn rr) m0 rm := by
  have hQ : Kr fW_X11_copy 0 (tn rr) m0 rm → Kr fW_X11_copy 0 (tn rr) m0 rm := id
  unfold fm_X11_copy at h
  obtain ⟨rr5, m_3, hc_1, h⟩ := bx_s h
  rcases h with ⟨q_10, rfl, h⟩ | ⟨x_2, rfl, h⟩
  · cases h
    have w_12 := (kw_X11_runAt hF hc_1)
    have E_8 := Kr.ext w_12
    have w_13 := Kr.tr0 (Kr.rf (W := fW_X11_copy) (e := 0) hF) w_12 (by decide +kernel)
    exact hQ w_13
  have w_14 := (kw_X11_runAt hF hc_1)
  have E_8 := Kr.ext w_14
  have w_15 := Kr.tr0 (Kr.rf (W := fW_X11_copy) (e := 0) hF) w_14 (by decide +kernel)
  rcases it_s h with ⟨hp_23, h⟩ | ⟨hp_23, h⟩
  · cases h
    exact hQ (Kr.thr w_15 (by decide +kernel))
  · rcases it_s h with ⟨hp_26, h⟩ | ⟨hp_26, h⟩
    · cases h
      exact hQ (Kr.thr w_15 (by decide +kernel))
    · obtain ⟨g_29, h⟩ := gd_s h
      obtain ⟨x_31, e_32, h⟩ := lx_s h
      obtain ⟨g_35, h⟩ := gd_s h
      obtain ⟨x_37, e_38, h⟩ := lx_s h
      obtain ⟨x_42, e_43, h⟩ := lx_s h
      obtain ⟨x_47, hc_46, h⟩ := bp_s h
      obtain ⟨m_55, e_56, h⟩ := up_s h
      have E_59 := ext_up e_56 (And.left g_29) (by decide)
      have w_60 := Kr.upK (y := 8) w_15 e_56 (ext_up e_56 (And.left g_29) (by decide)) (And.left g_29) (fx_f (j := 8) (Kr.fix w_15) g_29 (by decide +kernel)) g_29 (Or.inr rfl) (by decide +kernel) g_29 (by decide) (by first | exact Or.inl (by decide) | exact Or.inr (by decide))
      have g_64 := Ext.ok E_59 g_29
      obtain ⟨x_66, e_67, h⟩ := lx_s h
      cases h
      exact hQ w_60
set_option maxHeartbeats 4000000 in
theorem kwl_X11_loseEvents_21 {P : Prop} {mb : MM} {y1 y2 y3 : Int} {k71 : MM → Option (Int × MM)} {rz : Int} {rm : MM} (hF0 : Fix mb)
  (hk71 : ∀ mq : MM, Kr fW_X11_loseEvents 0 0 mb mq → k71 mq = some (rz, rm) → P) (hQ : Kr fW_X11_loseEvents 0 0 mb rm → P) :
  ∀ (n : Nat) {m : MM} {y4 : Int} , Kr fW_X11_loseEvents 0 0 mb m → fl_X11_loseEvents_21 y1 y2 y3 k71 n y4 m = some (rz, rm) → P := by
  intro n
  induction n with
  | zero => intro m y4 w h; cases h
  | succ n ih0 =>
    intro m y4 w h
    have ih : ∀ mq : MM, Kr fW_X11_loseEvents 0 0 mb mq → ∀ {z4 : Int}, fl_X11_loseEvents_21 y1 y2 y3 k71 n z4 mq = some (rz, rm) → P := fun mq b => by intros; exact ih0 b ‹_›
    unfold fl_X11_loseEvents_21 at h
    obtain ⟨g_46, h⟩ := gd_s h
    obtain ⟨x_48, e_49, h⟩ := lx_s h
    rcases it_s h with ⟨hp_50, h⟩ | ⟨hp_50, h⟩
    · obtain ⟨x_52, hc_51, h⟩ := bp_s h
      rcases it_s h with ⟨hp_62, h⟩ | ⟨hp_62, h⟩
      · obtain ⟨g_77, h⟩ := gd_s h
        obtain ⟨x_79, e_80, h⟩ := lx_s h
        obtain ⟨x_84, hc_83, h⟩ := bp_s h
        obtain ⟨x_95, hc_94, h⟩ := bp_s h
        obtain ⟨g_107, h⟩ := gd_s h
        obtain ⟨x_109, m_110, hc_108, h⟩ := bd_s h
        have w_117 := (kw_X5_add (Kr.fix w) g_107 hc_108)
        have E_115 := Kr.ext w_117
        have w_118 := Kr.tr0 w w_117 (by decide +kernel)
        obtain ⟨x_125, e_126, h⟩ := lx_s h
        exact ih m_110 w_118 h
      · obtain ⟨x_68, e_69, h⟩ := lx_s h
        exact ih m w h
    · exact hk71 m w h
set_option maxHeartbeats 4000000 in
theorem kwj_X11_loseEvents_93 {P : Prop} {m : MM} {y1 y3 : Int} {rz : Int} {rm : MM} (hF : Fix m) (hQ : Kr fW_X11_loseEvents 0 0 m rm → P)
  (h : fj_X11_loseEvents_93 y1 y3 m = some (rz, rm)) : P := by
  unfold fj_X11_loseEvents_93 at h
  obtain ⟨g_155, h⟩ := gd_s h
  obtain ⟨x_157, e_158, h⟩ := lx_s h
  obtain ⟨x_162, e_163, h⟩ := lx_s h
  obtain ⟨x_165, m_166, hc_164, h⟩ := bd_s h
  have w_173 := (kw_X11_partFromChildren hF hc_164)
  have E_171 := Kr.ext w_173
  have w_174 := Kr.tr0 (Kr.rf (W := fW_X11_loseEvents) (e := 0) hF) w_173 (by decide +kernel)
  obtain ⟨x_177, m_178, hc_176, h⟩ := bd_s h
  have w_185 := (kw_X11_endWork (Kr.fix w_174) hc_176)
  have E_183 := Kr.ext w_185
  have w_186 := Kr.tr0 w_174 w_185 (by decide +kernel)
  cases h
  exact hQ w_186
set_option maxHeartbeats 4000000 in
theorem kw_X11_loseEvents {m0 : MM} {p1 : Int} {rz : Int} {rm : MM} (hF : Fix m0)
  (h : fm_X11_loseEvents p1 m0 = some (rz, rm)) : Kr fW_X11_loseEvents 0 0 m0 rm := by
  have hQ : Kr fW_X11_loseEvents 0 0 m0 rm → Kr fW_X11_loseEvents 0 0 m0 rm := id
  unfold fm_X11_loseEvents at h
  obtain ⟨g_3, h⟩ := gd_s h
  obtain ⟨x_5, e_6, h⟩ := lx_s h
  obtain ⟨g_14, h⟩ := gd_s h
  obtain ⟨x_16, e_17, h⟩ := lx_s h
  obtain ⟨x_21, e_22, h⟩ := lx_s h
  obtain ⟨x_25, e_26, h⟩ := lx_s h
  refine kwl_X11_loseEvents_21 hF ?_ hQ BIG (Kr.rf hF) h
  intro m_147 w_150
  intro h
  have E_148 := Kr.ext w_150
  have w_151 := w_150
  rcases it_s h with ⟨hp_152, h⟩ | ⟨hp_152, h⟩
  · have g_190 := Ext.ok E_148 g_3
    obtain ⟨x_192, e_193, h⟩ := lx_s h
    have g_194 := Ext.ok E_148 g_14
    obtain ⟨x_196, m_197, hc_195, h⟩ := bd_s h
    have w_204 := (kw_X2_cut (Kr.fix w_151) g_194 hc_195)
    have E_202 := Kr.ext w_204
    have w_205 := Kr.tr0 w_151 w_204 (by decide +kernel)
    have g_209 := Ext.ok E_202 g_190
    obtain ⟨x_211, e_212, h⟩ := lx_s h
    obtain ⟨m_217, e_218, h⟩ := up_s h
    have E_221 := ext_up e_218 (And.left g_209) (by decide)
    have w_222 := Kr.upK (y := 9) w_205 e_218 (ext_up e_218 (And.left g_209) (by decide)) (And.left g_209) (fx_f (j := 9) (Kr.fix w_205) g_209 (by decide +kernel)) g_209 (Or.inr rfl) (by decide +kernel) g_209 (by decide) (by first | exact Or.inl (by decide) | exact Or.inr (by decide))
    exact kwj_X11_loseEvents_93 (Kr.fix w_222) (fun f => hQ (Kr.trS w_222 f)) h
  · exact kwj_X11_loseEvents_93 (Kr.fix w_151) (fun f => hQ (Kr.trS w_151 f)) h
set_option maxHeartbeats 4000000 in
theorem kwl_X11_takeOver_27 {P : Prop} {mb : MM} {k71 : Int → MM → Option ((Int ⊕ Nat) × MM)} {rr : Int ⊕ Nat} {rm : MM} (hF0 : Fix mb)
  (hk71 : ∀ mq : MM, Kr fW_X11_takeOver 0 0 mb mq → ∀ {z1 : Int}, k71 z1 mq = some (rr, rm) → P) (hQ : Kr fW_X11_takeOver 0 (tn rr) mb rm → P) :
  ∀ (n : Nat) {m : MM} {y1 y2 : Int} , Kr fW_X11_takeOver 0 0 mb m → fl_X11_takeOver_27 k71 n y1 y2 m = some (rr, rm) → P := by
  intro n
  induction n with
  | zero => intro m y1 y2 w h; cases h
  | succ n ih0 =>
    intro m y1 y2 w h
    have ih : ∀ mq : MM, Kr fW_X11_takeOver 0 0 mb mq → ∀ {z1 z2 : Int}, fl_X11_takeOver_27 k71 n z1 z2 mq = some (rr, rm) → P := fun mq b => by intros; exact ih0 b ‹_›
    unfold fl_X11_takeOver_27 at h
    obtain ⟨x_33, hc_32, h⟩ := bp_s h
    rcases it_s h with ⟨hp_41, h⟩ | ⟨hp_41, h⟩
    · obtain ⟨x_46, hc_45, h⟩ := bp_s h
      obtain ⟨g_54, h⟩ := gd_s h
      obtain ⟨x_64, e_65, h⟩ := lx_s h
      rcases it_s h with ⟨hp_66, h⟩ | ⟨hp_66, h⟩
      · obtain ⟨x_78, m_79, hc_77, h⟩ := bd_s h
        have w_86 := (kw_X11_loseEvents (Kr.fix w) hc_77)
        have E_84 := Kr.ext w_86
        have w_87 := Kr.tr0 w w_86 (by decide +kernel)
        obtain ⟨x_91, e_92, h⟩ := lx_s h
        obtain ⟨x_104, e_105, h⟩ := lx_s h
        exact ih m_79 w_87 h
      · obtain ⟨x_72, e_73, h⟩ := lx_s h
        exact ih m w h
    · exact hk71 m w h
set_option maxHeartbeats 4000000 in
theorem kwl_X11_takeOver_73 {P : Prop} {mb : MM} {y1 : Int} {k124 : MM → Option ((Int ⊕ Nat) × MM)} {rr : Int ⊕ Nat} {rm : MM} (hF0 : Fix mb)
  (hk124 : ∀ mq : MM, Kr fW_X11_takeOver 0 0 mb mq → k124 mq = some (rr, rm) → P) (hQ : Kr fW_X11_takeOver 0 (tn rr) mb rm → P) :
  ∀ (n : Nat) {m : MM} {y2 : Int} , Kr fW_X11_takeOver 0 0 mb m → fl_X11_takeOver_73 y1 k124 n y2 m = some (rr, rm) → P := by
  intro n
  induction n with
  | zero => intro m y2 w h; cases h
  | succ n ih0 =>
    intro m y2 w h
    have ih : ∀ mq : MM, Kr fW_X11_takeOver 0 0 mb mq → ∀ {z2 : Int}, fl_X11_takeOver_73 y1 k124 n z2 mq = some (rr, rm) → P := fun mq b => by intros; exact ih0 b ‹_›
    unfold fl_X11_takeOver_73 at h
    obtain ⟨x_135, hc_134, h⟩ := bp_s h
    rcases it_s h with ⟨hp_143, h⟩ | ⟨hp_143, h⟩
    · obtain ⟨x_148, hc_147, h⟩ := bp_s h
      obtain ⟨g_156, h⟩ := gd_s h
      obtain ⟨x_166, e_167, h⟩ := lx_s h
      rcases it_s h with ⟨hp_168, h⟩ | ⟨hp_168, h⟩
      · obtain ⟨x_182, e_183, h⟩ := lx_s h
        rcases it_s h with ⟨hp_184, h⟩ | ⟨hp_184, h⟩
        · obtain ⟨x_202, m_203, hc_201, h⟩ := bd_s h
          have w_210 := (kw_X11_closeRun (Kr.fix w) hc_201)
          have E_208 := Kr.ext w_210
          have w_211 := Kr.tr0 w w_210 (by decide +kernel)
          obtain ⟨x_218, e_219, h⟩ := lx_s h
          exact ih m_203 w_211 h
        · obtain ⟨x_190, e_191, h⟩ := lx_s h
          exact ih m w h
      · obtain ⟨x_174, e_175, h⟩ := lx_s h
        exact ih m w h
    · exact hk124 m w h
set_option maxHeartbeats 4000000 in
theorem kwl_X11_takeOver_126 {P : Prop} {mb : MM} {y1 : Int} {rr : Int ⊕ Nat} {rm : MM} (hF0 : Fix mb) (hQ : Kr fW_X11_takeOver 0 (tn rr) mb rm → P) :
  ∀ (n : Nat) {m : MM} {y2 : Int} , Kr fW_X11_takeOver 0 0 mb m → fl_X11_takeOver_126 y1 n y2 m = some (rr, rm) → P := by
  intro n
  induction n with
  | zero => intro m y2 w h; cases h
  | succ n ih0 =>
    intro m y2 w h
    have ih : ∀ mq : MM, Kr fW_X11_takeOver 0 0 mb mq → ∀ {z2 : Int}, fl_X11_takeOver_126 y1 n z2 mq = some (rr, rm) → P := fun mq b => by intros; exact ih0 b ‹_›
    unfold fl_X11_takeOver_126 at h
    obtain ⟨x_248, hc_247, h⟩ := bp_s h
    rcases it_s h with ⟨hp_256, h⟩ | ⟨hp_256, h⟩
    · obtain ⟨x_261, hc_260, h⟩ := bp_s h
      obtain ⟨g_269, h⟩ := gd_s h
      obtain ⟨x_279, e_280, h⟩ := lx_s h
      rcases it_s h with ⟨hp_281, h⟩ | ⟨hp_281, h⟩
      · obtain ⟨x_293, m_294, hc_292, h⟩ := bd_s h
        have w_301 := (kw_X11_restoreWork (Kr.fix w) hc_292)
        have E_299 := Kr.ext w_301
        have w_302 := Kr.tr0 w w_301 (by decide +kernel)
        obtain ⟨x_309, e_310, h⟩ := lx_s h
        exact ih m_294 w_302 h
      · obtain ⟨x_287, e_288, h⟩ := lx_s h
        exact ih m w h
    · cases h
      exact hQ w
set_option maxHeartbeats 4000000 in
theorem kw_X11_takeOver {m0 : MM} {rr : Int ⊕ Nat} {rm : MM} (hF : Fix m0)
  (h : fm_X11_takeOver m0 = some (rr, rm)) : Kr fW_X11_takeOver 0 (tn rr) m0 rm := by
  have hQ : Kr fW_X11_takeOver 0 (tn rr) m0 rm → Kr fW_X11_takeOver 0 (tn rr) m0 rm := id
  unfold fm_X11_takeOver at h
  obtain ⟨x_4, e_5, h⟩ := lx_s h
  rcases it_s h with ⟨hp_6, h⟩ | ⟨hp_6, h⟩
  · cases h
    exact hQ (Kr.thr (Kr.rf (W := fW_X11_takeOver) (e := 0) hF) (by decide +kernel))
  · obtain ⟨m_9, e_10, h⟩ := up_s h
    have E_13 := ext_up e_10 (And.left (fx_kF (c := 12) hF (by decide +kernel))) (by decide)
    have w_14 := Kr.upC (y := 17) (Kr.rf (W := fW_X11_takeOver) (e := 0) hF) e_10 (ext_up e_10 (And.left (fx_kF (c := 12) hF (by decide +kernel))) (by decide)) (And.left (fx_kF (c := 12) hF (by decide +kernel))) (fx_f (j := 17) hF (fx_kF (c := 12) hF (by decide +kernel)) (by decide +kernel)) (Or.inr rfl) (by decide +kernel) (fx_kF (c := 12) hF (by decide +kernel)) (by decide) (by first | exact Or.inl (by decide) | exact Or.inr (by decide))
    refine kwl_X11_takeOver_27 (Kr.fix w_14) ?_ (fun f => hQ (Kr.trS w_14 f)) BIG (Kr.rf (Kr.fix w_14)) h
    intro m_119 w_122
    intro x_109
    intro h
    have E_120 := Kr.ext w_122
    have w_123 := Kr.trS w_14 w_122
    refine kwl_X11_takeOver_73 (Kr.fix w_123) ?_ (fun f => hQ (Kr.trS w_123 f)) BIG (Kr.rf (Kr.fix w_123)) h
    intro m_232 w_235
    intro h
    have E_233 := Kr.ext w_235
    have w_236 := Kr.trS w_123 w_235
    refine kwl_X11_takeOver_126 (Kr.fix w_236)  (fun f => hQ (Kr.trS w_236 f)) BIG (Kr.rf (Kr.fix w_236)) h
end KW05
