/-! THE ROOM: how many objects there are: what each method makes (written by wip/whole/gen/gen951.py), 06. -/
section KW06
set_option maxHeartbeats 4000000 in
theorem kwl_X11_join_53 {P : Prop} {mb : MM} {y2 y3 : Int} {k110 : Int → MM → Option ((Int ⊕ Nat) × MM)} {rr : Int ⊕ Nat} {rm : MM} (hF0 : Fix mb)
  (hk110 : ∀ mq : MM, Kr fW_X11_join 0 0 mb mq → ∀ {z1 : Int}, k110 z1 mq = some (rr, rm) → P) (hQ : Kr fW_X11_join 0 (tn rr) mb rm → P) :
  ∀ (n : Nat) {m : MM} {y1 y4 : Int} , Kr fW_X11_join 0 0 mb m → fl_X11_join_53 y2 y3 k110 n y1 y4 m = some (rr, rm) → P := by
  intro n
  induction n with
  | zero => intro m y1 y4 w h; cases h
  | succ n ih0 =>
    intro m y1 y4 w h
    have ih : ∀ mq : MM, Kr fW_X11_join 0 0 mb mq → ∀ {z1 z4 : Int}, fl_X11_join_53 y2 y3 k110 n z1 z4 mq = some (rr, rm) → P := fun mq b => by intros; exact ih0 b ‹_›
    unfold fl_X11_join_53 at h
    obtain ⟨g_72, h⟩ := gd_s h
    obtain ⟨x_74, e_75, h⟩ := lx_s h
    obtain ⟨g_78, h⟩ := gd_s h
    obtain ⟨x_80, e_81, h⟩ := lx_s h
    rcases it_s h with ⟨hp_82, h⟩ | ⟨hp_82, h⟩
    · obtain ⟨x_86, e_87, h⟩ := lx_s h
      rcases it_s h with ⟨hp_88, h⟩ | ⟨hp_88, h⟩
      · obtain ⟨x_93, hc_92, h⟩ := bp_s h
        obtain ⟨x_120, m_121, hc_119, h⟩ := bd_s h
        have w_128 := (kw_X11_arrive (Kr.fix w) hc_119)
        have E_126 := Kr.ext w_128
        have w_129 := Kr.tr0 w w_128 (by decide +kernel)
        obtain ⟨x_136, e_137, h⟩ := lx_s h
        obtain ⟨x_148, e_149, h⟩ := lx_s h
        exact ih m_121 w_129 h
      · exact hk110 m w h
    · exact hk110 m w h
set_option maxHeartbeats 4000000 in
theorem kwl_X11_join_27 {P : Prop} {mb : MM} {rr : Int ⊕ Nat} {rm : MM} (hF0 : Fix mb) (hQ : Kr fW_X11_join 0 (tn rr) mb rm → P) :
  ∀ (n : Nat) {m : MM} {y1 y2 : Int} , Kr fW_X11_join 0 0 mb m → fl_X11_join_27 n y1 y2 m = some (rr, rm) → P := by
  intro n
  induction n with
  | zero => intro m y1 y2 w h; cases h
  | succ n ih0 =>
    intro m y1 y2 w h
    have ih : ∀ mq : MM, Kr fW_X11_join 0 0 mb mq → ∀ {z1 z2 : Int}, fl_X11_join_27 n z1 z2 mq = some (rr, rm) → P := fun mq b => by intros; exact ih0 b ‹_›
    unfold fl_X11_join_27 at h
    obtain ⟨x_33, hc_32, h⟩ := bp_s h
    rcases it_s h with ⟨hp_41, h⟩ | ⟨hp_41, h⟩
    · obtain ⟨x_46, hc_45, h⟩ := bp_s h
      obtain ⟨g_54, h⟩ := gd_s h
      refine kwl_X11_join_53 (Kr.fix w) ?_ (fun f => hQ (Kr.trS w f)) BIG (Kr.rf (Kr.fix w)) h
      intro m_171 w_174
      intro x_155
      intro h
      have E_172 := Kr.ext w_174
      have w_175 := Kr.trS w w_174
      have g_178 := Ext.ok E_172 g_54
      obtain ⟨x_180, e_181, h⟩ := lx_s h
      obtain ⟨g_184, h⟩ := gd_s h
      obtain ⟨x_186, m_187, hc_185, h⟩ := bd_s h
      have w_194 := (kw_X5_cut (Kr.fix w_175) g_184 hc_185)
      have E_192 := Kr.ext w_194
      have w_195 := Kr.tr0 w_175 w_194 (by decide +kernel)
      obtain ⟨x_202, e_203, h⟩ := lx_s h
      exact ih m_187 w_195 h
    · cases h
      exact hQ w
set_option maxHeartbeats 4000000 in
theorem kw_X11_join {m0 : MM} {rr : Int ⊕ Nat} {rm : MM} (hF : Fix m0)
  (h : fm_X11_join m0 = some (rr, rm)) : Kr fW_X11_join 0 (tn rr) m0 rm := by
  have hQ : Kr fW_X11_join 0 (tn rr) m0 rm → Kr fW_X11_join 0 (tn rr) m0 rm := id
  unfold fm_X11_join at h
  obtain ⟨x_4, e_5, h⟩ := lx_s h
  rcases it_s h with ⟨hp_6, h⟩ | ⟨hp_6, h⟩
  · obtain ⟨m_9, e_10, h⟩ := up_s h
    have E_13 := ext_up e_10 (And.left (fx_kF (c := 12) hF (by decide +kernel))) (by decide)
    have w_14 := Kr.upC (y := 17) (Kr.rf (W := fW_X11_join) (e := 0) hF) e_10 (ext_up e_10 (And.left (fx_kF (c := 12) hF (by decide +kernel))) (by decide)) (And.left (fx_kF (c := 12) hF (by decide +kernel))) (fx_f (j := 17) hF (fx_kF (c := 12) hF (by decide +kernel)) (by decide +kernel)) (Or.inr rfl) (by decide +kernel) (fx_kF (c := 12) hF (by decide +kernel)) (by decide) (by first | exact Or.inl (by decide) | exact Or.inr (by decide))
    refine kwl_X11_join_27 (Kr.fix w_14)  (fun f => hQ (Kr.trS w_14 f)) BIG (Kr.rf (Kr.fix w_14)) h
  · cases h
    exact hQ (Kr.thr (Kr.rf (W := fW_X11_join) (e := 0) hF) (by decide +kernel))
set_option maxHeartbeats 4000000 in
theorem kw_X11_schedule {m0 : MM} {p1 p2 p3 p4 : Int} {rr : Int ⊕ Nat} {rm : MM} (hF : Fix m0)
  (h : fm_X11_schedule p1 p2 p3 p4 m0 = some (rr, rm)) : Kr fW_X11_schedule 0 (tn rr) m0 rm := by
  have hQ : ∀ {d : (Int → Int → Int) → Int}, Kd fW_X11_schedule 0 d m0 rm → (∀ g, GOK g → d g ≤ (tn rr) * g 99 0) → Kr fW_X11_schedule 0 (tn rr) m0 rm := fun w h => Kd.le w h
  unfold fm_X11_schedule at h
  obtain ⟨rr5, m_3, hc_1, h⟩ := bx_s h
  rcases h with ⟨q_10, rfl, h⟩ | ⟨x_2, rfl, h⟩
  · cases h
    have w_12 := (kw_X11_typeAt hF hc_1)
    have E_8 := Kd.ext w_12
    have w_13 := Kd.tr0 (Kd.rf (W := fW_X11_schedule) (e := 0) hF) w_12 (by decide +kernel)
    exact hQ w_13 (fun g hg => by have q1 := hg.1 99 0; (try simp only [tn, uo_7, uo_8, uo_9, uo_10]); (try simp only [uRun]); omega)
  have w_14 := (kw_X11_typeAt hF hc_1)
  have E_8 := Kd.ext w_14
  have w_15 := Kd.tr0 (Kd.rf (W := fW_X11_schedule) (e := 0) hF) w_14 (by decide +kernel)
  obtain ⟨rr5, m_27, hc_25, h⟩ := bx_s h
  rcases h with ⟨q_34, rfl, h⟩ | ⟨x_26, rfl, h⟩
  · cases h
    have w_36 := (kw_X11_checkTenant (Kd.fix w_15) hc_25)
    have E_32 := Kd.ext w_36
    have w_37 := Kd.tr0 w_15 w_36 (by decide +kernel)
    exact hQ w_37 (fun g hg => by have q1 := hg.1 99 0; (try simp only [tn, uo_7, uo_8, uo_9, uo_10]); (try simp only [uRun]); omega)
  have w_38 := (kw_X11_checkTenant (Kd.fix w_15) hc_25)
  have E_32 := Kd.ext w_38
  have w_39 := Kd.tr0 w_15 w_38 (by decide +kernel)
  rcases it_s h with ⟨hp_43, h⟩ | ⟨hp_43, h⟩
  · cases h
    exact hQ (Kd.thr w_39 (by decide +kernel)) (fun g hg => by have q1 := hg.1 99 0; (try simp only [tn, uo_7, uo_8, uo_9, uo_10]); (try simp only [uRun]); omega)
  · rcases it_s h with ⟨hp_46, h⟩ | ⟨hp_46, h⟩
    · cases h
      exact hQ (Kd.thr w_39 (by decide +kernel)) (fun g hg => by have q1 := hg.1 99 0; (try simp only [tn, uo_7, uo_8, uo_9, uo_10]); (try simp only [uRun]); omega)
    · rcases it_s h with ⟨hp_47, h⟩ | ⟨hp_47, h⟩
      · cases h
        exact hQ (Kd.thr w_39 (by decide +kernel)) (fun g hg => by have q1 := hg.1 99 0; (try simp only [tn, uo_7, uo_8, uo_9, uo_10]); (try simp only [uRun]); omega)
      · rcases it_s h with ⟨hp_50, h⟩ | ⟨hp_50, h⟩
        · cases h
          exact hQ (Kd.thr w_39 (by decide +kernel)) (fun g hg => by have q1 := hg.1 99 0; (try simp only [tn, uo_7, uo_8, uo_9, uo_10]); (try simp only [uRun]); omega)
        · obtain ⟨g_53, h⟩ := gd_s h
          obtain ⟨x_55, e_56, h⟩ := lx_s h
          obtain ⟨g_57, h⟩ := gd_s h
          obtain ⟨x_59, hc_58, h⟩ := bp_s h
          rcases it_s h with ⟨hp_67, h⟩ | ⟨hp_67, h⟩
          · obtain ⟨x_72, hc_71, h⟩ := bp_s h
            rcases it_s h with ⟨hp_82, h⟩ | ⟨hp_82, h⟩
            · obtain ⟨x_86, m_87, e_88, e_89, h⟩ := nw_s h
              have g_95 := okc_nwF (c := 8) (Kd.fix w_39) e_88 e_89
              have E_94 := ext_nw (Kd.fix w_39) e_89
              have n_96 := Kd.nge w_39 e_88
              have w_97 := Kd.nw (kd := 8) (kz := 8) rfl w_39 e_89 (by decide +kernel)
              obtain ⟨x_102, e_103, h⟩ := lx_s h
              obtain ⟨x_107, e_108, h⟩ := lx_s h
              obtain ⟨x_112, m_113, hc_111, h⟩ := bd_s h
              have w_120 := (kw_X7_init (Kd.fix w_97) g_95 hc_111)
              have E_118 := Kd.ext w_120
              have w_121 := Kd.trN w_97 w_120 n_96 (by decide +kernel)
              obtain ⟨x_124, m_125, hc_123, h⟩ := bd_s h
              have w_132 := (kd_ladd (Kd.fix w_121) (fx_kF (c := 0) (Kd.fix w_121) (by decide +kernel)) hc_123)
              have E_130 := Kd.ext w_132
              have w_133 := Kd.tr0 w_121 w_132 (by decide +kernel)
              obtain ⟨x_139, hc_138, h⟩ := bp_s h
              cases h
              exact hQ w_133 (fun g hg => by have q1 := hg.1 99 0; (try simp only [tn, uo_7, uo_8, uo_9, uo_10]); (try simp only [uRun]); omega)
            · cases h
              exact hQ (Kd.thr w_39 (by decide +kernel)) (fun g hg => by have q1 := hg.1 99 0; (try simp only [tn, uo_7, uo_8, uo_9, uo_10]); (try simp only [uRun]); omega)
          · cases h
            exact hQ (Kd.thr w_39 (by decide +kernel)) (fun g hg => by have q1 := hg.1 99 0; (try simp only [tn, uo_7, uo_8, uo_9, uo_10]); (try simp only [uRun]); omega)
set_option maxHeartbeats 4000000 in
theorem kw_X11_scheduleAt {m0 : MM} {p1 : Int} {rr : Int ⊕ Nat} {rm : MM} (hF : Fix m0)
  (h : fm_X11_scheduleAt p1 m0 = some (rr, rm)) : Kr fW_X11_scheduleAt 0 (tn rr) m0 rm := by
  have hQ : Kr fW_X11_scheduleAt 0 (tn rr) m0 rm → Kr fW_X11_scheduleAt 0 (tn rr) m0 rm := id
  unfold fm_X11_scheduleAt at h
  rcases it_s h with ⟨hp_1, h⟩ | ⟨hp_1, h⟩
  · cases h
    exact hQ (Kr.thr (Kr.rf (W := fW_X11_scheduleAt) (e := 0) hF) (by decide +kernel))
  · obtain ⟨x_6, hc_5, h⟩ := bp_s h
    rcases it_s h with ⟨hp_14, h⟩ | ⟨hp_14, h⟩
    · obtain ⟨x_19, hc_18, h⟩ := bp_s h
      obtain ⟨g_27, h⟩ := gd_s h
      cases h
      exact hQ (Kr.rf (W := fW_X11_scheduleAt) (e := 0) hF)
    · cases h
      exact hQ (Kr.thr (Kr.rf (W := fW_X11_scheduleAt) (e := 0) hF) (by decide +kernel))
set_option maxHeartbeats 4000000 in
theorem kw_X11_togglePause {m0 : MM} {p1 : Int} {rr : Int ⊕ Nat} {rm : MM} (hF : Fix m0)
  (h : fm_X11_togglePause p1 m0 = some (rr, rm)) : Kr fW_X11_togglePause 0 (tn rr) m0 rm := by
  have hQ : Kr fW_X11_togglePause 0 (tn rr) m0 rm → Kr fW_X11_togglePause 0 (tn rr) m0 rm := id
  unfold fm_X11_togglePause at h
  obtain ⟨rr5, m_3, hc_1, h⟩ := bx_s h
  rcases h with ⟨q_10, rfl, h⟩ | ⟨x_2, rfl, h⟩
  · cases h
    have w_12 := (kw_X11_scheduleAt hF hc_1)
    have E_8 := Kr.ext w_12
    have w_13 := Kr.tr0 (Kr.rf (W := fW_X11_togglePause) (e := 0) hF) w_12 (by decide +kernel)
    exact hQ w_13
  have w_14 := (kw_X11_scheduleAt hF hc_1)
  have E_8 := Kr.ext w_14
  have w_15 := Kr.tr0 (Kr.rf (W := fW_X11_togglePause) (e := 0) hF) w_14 (by decide +kernel)
  obtain ⟨g_22, h⟩ := gd_s h
  obtain ⟨x_24, e_25, h⟩ := lx_s h
  rcases it_s h with ⟨hp_26, h⟩ | ⟨hp_26, h⟩
  · obtain ⟨m_45, e_46, h⟩ := up_s h
    have E_49 := ext_up e_46 (And.left g_22) (by decide)
    have w_50 := Kr.upK (y := 5) w_15 e_46 (ext_up e_46 (And.left g_22) (by decide)) (And.left g_22) (fx_f (j := 5) (Kr.fix w_15) g_22 (by decide +kernel)) g_22 (Or.inr rfl) (by decide +kernel) g_22 (by decide) (by first | exact Or.inl (by decide) | exact Or.inr (by decide))
    have g_54 := Ext.ok E_49 g_22
    obtain ⟨x_56, e_57, h⟩ := lx_s h
    obtain ⟨g_58, h⟩ := gd_s h
    cases h
    exact hQ w_50
  · obtain ⟨m_29, e_30, h⟩ := up_s h
    have E_33 := ext_up e_30 (And.left g_22) (by decide)
    have w_34 := Kr.upK (y := 5) w_15 e_30 (ext_up e_30 (And.left g_22) (by decide)) (And.left g_22) (fx_f (j := 5) (Kr.fix w_15) g_22 (by decide +kernel)) g_22 (Or.inr rfl) (by decide +kernel) g_22 (by decide) (by first | exact Or.inl (by decide) | exact Or.inr (by decide))
    have g_38 := Ext.ok E_33 g_22
    obtain ⟨x_40, e_41, h⟩ := lx_s h
    obtain ⟨g_42, h⟩ := gd_s h
    cases h
    exact hQ w_34
set_option maxHeartbeats 4000000 in
theorem kwl_X11_backfill_53 {P : Prop} {mb : MM} {y3 y4 : Int} {rr : Int ⊕ Nat} {rm : MM} (hF0 : Fix mb) (hQ : Kr fW_X11_backfill 0 (tn rr) mb rm → P) :
  ∀ (n : Nat) {m : MM} {y6 y7 : Int} , Kr fW_X11_backfill 0 0 mb m → fl_X11_backfill_53 y3 y4 n y6 y7 m = some (rr, rm) → P := by
  intro n
  induction n with
  | zero => intro m y6 y7 w h; cases h
  | succ n ih0 =>
    intro m y6 y7 w h
    have ih : ∀ mq : MM, Kr fW_X11_backfill 0 0 mb mq → ∀ {z6 z7 : Int}, fl_X11_backfill_53 y3 y4 n z6 z7 mq = some (rr, rm) → P := fun mq b => by intros; exact ih0 b ‹_›
    unfold fl_X11_backfill_53 at h
    rcases it_s h with ⟨hp_84, h⟩ | ⟨hp_84, h⟩
    · cases h
      exact hQ w
    · obtain ⟨x_89, hc_88, h⟩ := bp_s h
      rcases it_s h with ⟨hp_99, h⟩ | ⟨hp_99, h⟩
      · obtain ⟨g_102, h⟩ := gd_s h
        obtain ⟨x_104, e_105, h⟩ := lx_s h
        obtain ⟨x_109, e_110, h⟩ := lx_s h
        obtain ⟨x_114, e_115, h⟩ := lx_s h
        obtain ⟨x_121, hc_120, h⟩ := bp_s h
        obtain ⟨x_134, m_135, hc_133, h⟩ := bd_s h
        have w_142 := (kw_X11_startRun (Kr.fix w) hc_133)
        have E_140 := Kr.ext w_142
        have w_143 := Kr.tr0 w w_142 (by decide +kernel)
        obtain ⟨x_150, e_151, h⟩ := lx_s h
        obtain ⟨x_162, e_163, h⟩ := lx_s h
        exact ih m_135 w_143 h
      · cases h
        exact hQ w
set_option maxHeartbeats 4000000 in
theorem kw_X11_backfill {m0 : MM} {p1 p2 : Int} {rr : Int ⊕ Nat} {rm : MM} (hF : Fix m0)
  (h : fm_X11_backfill p1 p2 m0 = some (rr, rm)) : Kr fW_X11_backfill 0 (tn rr) m0 rm := by
  have hQ : Kr fW_X11_backfill 0 (tn rr) m0 rm → Kr fW_X11_backfill 0 (tn rr) m0 rm := id
  unfold fm_X11_backfill at h
  obtain ⟨rr5, m_3, hc_1, h⟩ := bx_s h
  rcases h with ⟨q_10, rfl, h⟩ | ⟨x_2, rfl, h⟩
  · cases h
    have w_12 := (kw_X11_scheduleAt hF hc_1)
    have E_8 := Kr.ext w_12
    have w_13 := Kr.tr0 (Kr.rf (W := fW_X11_backfill) (e := 0) hF) w_12 (by decide +kernel)
    exact hQ w_13
  have w_14 := (kw_X11_scheduleAt hF hc_1)
  have E_8 := Kr.ext w_14
  have w_15 := Kr.tr0 (Kr.rf (W := fW_X11_backfill) (e := 0) hF) w_14 (by decide +kernel)
  rcases it_s h with ⟨hp_24, h⟩ | ⟨hp_24, h⟩
  · cases h
    exact hQ (Kr.thr w_15 (by decide +kernel))
  · rcases it_s h with ⟨hp_27, h⟩ | ⟨hp_27, h⟩
    · cases h
      exact hQ (Kr.thr w_15 (by decide +kernel))
    · obtain ⟨g_28, h⟩ := gd_s h
      obtain ⟨x_30, hc_29, h⟩ := bp_s h
      obtain ⟨x_45, hc_44, h⟩ := bp_s h
      obtain ⟨x_74, e_75, h⟩ := lx_s h
      refine kwl_X11_backfill_53 (Kr.fix w_15)  (fun f => hQ (Kr.trS w_15 f)) BIG (Kr.rf (Kr.fix w_15)) h
set_option maxHeartbeats 4000000 in
theorem kw_X11_shift {m0 : MM} {p1 : Int} {rr : Int ⊕ Nat} {rm : MM} (hF : Fix m0)
  (h : fm_X11_shift p1 m0 = some (rr, rm)) : Kr fW_X11_shift 0 (tn rr) m0 rm := by
  have hQ : Kr fW_X11_shift 0 (tn rr) m0 rm → Kr fW_X11_shift 0 (tn rr) m0 rm := id
  unfold fm_X11_shift at h
  rcases it_s h with ⟨hp_3, h⟩ | ⟨hp_3, h⟩
  · cases h
    exact hQ (Kr.thr (Kr.rf (W := fW_X11_shift) (e := 0) hF) (by decide +kernel))
  · rcases it_s h with ⟨hp_6, h⟩ | ⟨hp_6, h⟩
    · cases h
      exact hQ (Kr.thr (Kr.rf (W := fW_X11_shift) (e := 0) hF) (by decide +kernel))
    · obtain ⟨x_10, e_11, h⟩ := lx_s h
      obtain ⟨m_14, e_15, h⟩ := up_s h
      have E_18 := ext_up e_15 (And.left (fx_kF (c := 12) hF (by decide +kernel))) (by decide)
      have w_19 := Kr.upC (y := 15) (Kr.rf (W := fW_X11_shift) (e := 0) hF) e_15 (ext_up e_15 (And.left (fx_kF (c := 12) hF (by decide +kernel))) (by decide)) (And.left (fx_kF (c := 12) hF (by decide +kernel))) (fx_f (j := 15) hF (fx_kF (c := 12) hF (by decide +kernel)) (by decide +kernel)) (Or.inr rfl) (by decide +kernel) (fx_kF (c := 12) hF (by decide +kernel)) (by decide) (by first | exact Or.inl (by decide) | exact Or.inr (by decide))
      obtain ⟨x_24, e_25, h⟩ := lx_s h
      obtain ⟨x_29, e_30, h⟩ := lx_s h
      cases h
      exact hQ w_19
set_option maxHeartbeats 4000000 in
theorem kwj_X11_bringIn_96 {P : Prop} {m : MM} {y1 y2 : Int} {rr : Int ⊕ Nat} {rm : MM} {c : Int → MM → Option ((Int ⊕ Nat) × MM)} (hF : Fix m)
  (hc : ∀ mq : MM, Kr fW_X11_bringIn 0 0 m mq → ∀ {z2 : Int}, c z2 mq = some (rr, rm) → P) (hQ : Kr fW_X11_bringIn 0 (tn rr) m rm → P)
  (h : fj_X11_bringIn_96 c y1 y2 m = some (rr, rm)) : P := by
  unfold fj_X11_bringIn_96 at h
  obtain ⟨x_85, e_86, h⟩ := lx_s h
  obtain ⟨m_91, e_92, h⟩ := up_s h
  have E_95 := ext_up e_92 (And.left (fx_kF (c := 12) hF (by decide +kernel))) (by decide)
  have w_96 := Kr.upC (y := 12) (Kr.rf (W := fW_X11_bringIn) (e := 0) hF) e_92 (ext_up e_92 (And.left (fx_kF (c := 12) hF (by decide +kernel))) (by decide)) (And.left (fx_kF (c := 12) hF (by decide +kernel))) (fx_f (j := 12) hF (fx_kF (c := 12) hF (by decide +kernel)) (by decide +kernel)) (Or.inr rfl) (by decide +kernel) (fx_kF (c := 12) hF (by decide +kernel)) (by decide) (by first | exact Or.inl (by decide) | exact Or.inr (by decide))
  obtain ⟨x_103, e_104, h⟩ := lx_s h
  exact hc m_91 w_96 h
set_option maxHeartbeats 4000000 in
theorem kwl_X11_bringIn_24 {P : Prop} {mb : MM} {y1 : Int} {rr : Int ⊕ Nat} {rm : MM} (hF0 : Fix mb) (hQ : Kr fW_X11_bringIn 0 (tn rr) mb rm → P) :
  ∀ (n : Nat) {m : MM} {y2 : Int} , Kr fW_X11_bringIn 0 0 mb m → fl_X11_bringIn_24 y1 n y2 m = some (rr, rm) → P := by
  intro n
  induction n with
  | zero => intro m y2 w h; cases h
  | succ n ih0 =>
    intro m y2 w h
    have ih : ∀ mq : MM, Kr fW_X11_bringIn 0 0 mb mq → ∀ {z2 : Int}, fl_X11_bringIn_24 y1 n z2 mq = some (rr, rm) → P := fun mq b => by intros; exact ih0 b ‹_›
    unfold fl_X11_bringIn_24 at h
    rcases it_s h with ⟨hp_14, h⟩ | ⟨hp_14, h⟩
    · obtain ⟨x_30, e_31, h⟩ := lx_s h
      obtain ⟨x_35, e_36, h⟩ := lx_s h
      rcases it_s h with ⟨hp_37, h⟩ | ⟨hp_37, h⟩
      · obtain ⟨x_53, hc_52, h⟩ := bp_s h
        obtain ⟨x_71, e_72, h⟩ := lx_s h
        rcases it_s h with ⟨hp_81, h⟩ | ⟨hp_81, h⟩
        · exact kwj_X11_bringIn_96 (Kr.fix w) (fun mq f => ih mq (Kr.trS w f)) (fun f => hQ (Kr.trS w f)) h
        · obtain ⟨x_112, hc_111, h⟩ := bp_s h
          rcases it_s h with ⟨hp_120, h⟩ | ⟨hp_120, h⟩
          · obtain ⟨x_125, hc_124, h⟩ := bp_s h
            obtain ⟨g_133, h⟩ := gd_s h
            obtain ⟨m_138, e_139, h⟩ := up_s h
            have E_142 := ext_up e_139 (And.left g_133) (by decide)
            have w_143 := Kr.upK (y := 11) w e_139 (ext_up e_139 (And.left g_133) (by decide)) (And.left g_133) (fx_f (j := 11) (Kr.fix w) g_133 (by decide +kernel)) g_133 (Or.inr rfl) (by decide +kernel) g_133 (by decide) (by first | exact Or.inl (by decide) | exact Or.inr (by decide))
            exact kwj_X11_bringIn_96 (Kr.fix w_143) (fun mq f => ih mq (Kr.trS w_143 f)) (fun f => hQ (Kr.trS w_143 f)) h
          · exact kwj_X11_bringIn_96 (Kr.fix w) (fun mq f => ih mq (Kr.trS w f)) (fun f => hQ (Kr.trS w f)) h
      · cases h
        exact hQ w
    · obtain ⟨x_18, e_19, h⟩ := lx_s h
      obtain ⟨x_23, e_24, h⟩ := lx_s h
      cases h
      exact hQ w
set_option maxHeartbeats 4000000 in
theorem kw_X11_bringIn {m0 : MM} {p1 : Int} {rr : Int ⊕ Nat} {rm : MM} (hF : Fix m0)
  (h : fm_X11_bringIn p1 m0 = some (rr, rm)) : Kr fW_X11_bringIn 0 (tn rr) m0 rm := by
  have hQ : Kr fW_X11_bringIn 0 (tn rr) m0 rm → Kr fW_X11_bringIn 0 (tn rr) m0 rm := id
  unfold fm_X11_bringIn at h
  rcases it_s h with ⟨hp_3, h⟩ | ⟨hp_3, h⟩
  · cases h
    exact hQ (Kr.thr (Kr.rf (W := fW_X11_bringIn) (e := 0) hF) (by decide +kernel))
  · rcases it_s h with ⟨hp_6, h⟩ | ⟨hp_6, h⟩
    · cases h
      exact hQ (Kr.thr (Kr.rf (W := fW_X11_bringIn) (e := 0) hF) (by decide +kernel))
    · refine kwl_X11_bringIn_24 hF  hQ BIG (Kr.rf hF) h
set_option maxHeartbeats 4000000 in
theorem kwl_X11_search_9 {P : Prop} {m : MM} {y1 : Int} {rr : Int ⊕ Nat} {rm : MM} (hF : Fix m) (hQ : Kr fW_X11_search 0 (tn rr) m rm → P) :
  ∀ (n : Nat) {y2 y3 : Int} , fl_X11_search_9 y1 m n y2 y3 = some (rr, rm) → P := by
  intro n
  induction n with
  | zero => intro y2 y3 h; cases h
  | succ n ih0 =>
    intro y2 y3 h
    have ih : ∀ {z2 z3 : Int}, fl_X11_search_9 y1 m n z2 z3 = some (rr, rm) → P := by intros; exact ih0 ‹_›
    unfold fl_X11_search_9 at h
    obtain ⟨x_36, hc_35, h⟩ := bp_s h
    rcases it_s h with ⟨hp_44, h⟩ | ⟨hp_44, h⟩
    · rcases it_s h with ⟨hp_47, h⟩ | ⟨hp_47, h⟩
      · obtain ⟨x_52, hc_51, h⟩ := bp_s h
        obtain ⟨g_60, h⟩ := gd_s h
        obtain ⟨x_64, e_65, h⟩ := lx_s h
        rcases it_s h with ⟨hp_66, h⟩ | ⟨hp_66, h⟩
        · obtain ⟨x_84, e_85, h⟩ := lx_s h
          obtain ⟨x_98, e_99, h⟩ := lx_s h
          exact ih h
        · obtain ⟨x_72, e_73, h⟩ := lx_s h
          exact ih h
      · cases h
        exact hQ (Kr.rf (W := fW_X11_search) (e := 0) hF)
    · cases h
      exact hQ (Kr.rf (W := fW_X11_search) (e := 0) hF)
set_option maxHeartbeats 4000000 in
theorem kw_X11_search {m0 : MM} {p1 : Int} {rr : Int ⊕ Nat} {rm : MM} (hF : Fix m0)
  (h : fm_X11_search p1 m0 = some (rr, rm)) : Kr fW_X11_search 0 (tn rr) m0 rm := by
  have hQ : Kr fW_X11_search 0 (tn rr) m0 rm → Kr fW_X11_search 0 (tn rr) m0 rm := id
  unfold fm_X11_search at h
  obtain ⟨rr5, m_3, hc_1, h⟩ := bx_s h
  rcases h with ⟨q_10, rfl, h⟩ | ⟨x_2, rfl, h⟩
  · cases h
    have w_12 := (kw_X11_checkValue hF hc_1)
    have E_8 := Kr.ext w_12
    have w_13 := Kr.tr0 (Kr.rf (W := fW_X11_search) (e := 0) hF) w_12 (by decide +kernel)
    exact hQ w_13
  have w_14 := (kw_X11_checkValue hF hc_1)
  have E_8 := Kr.ext w_14
  have w_15 := Kr.tr0 (Kr.rf (W := fW_X11_search) (e := 0) hF) w_14 (by decide +kernel)
  refine kwl_X11_search_9 (Kr.fix w_15)  (fun f => hQ (Kr.trS w_15 f)) BIG h
set_option maxHeartbeats 4000000 in
theorem kw_X12_fails {m0 : MM} {p1 : Int} {rz : Int} {rm : MM} (hF : Fix m0)
  (h : fm_X12_fails p1 m0 = some (rz, rm)) : Kr fW_X12_fails 0 0 m0 rm := by
  have hQ : Kr fW_X12_fails 0 0 m0 rm → Kr fW_X12_fails 0 0 m0 rm := id
  unfold fm_X12_fails at h
  obtain ⟨m_1, e_2, h⟩ := up_s h
  have E_5 := ext_up e_2 (And.left (fx_kF (c := 13) hF (by decide +kernel))) (by decide)
  have w_6 := Kr.upC (y := 129) (Kr.rf (W := fW_X12_fails) (e := 0) hF) e_2 (ext_up e_2 (And.left (fx_kF (c := 13) hF (by decide +kernel))) (by decide)) (And.left (fx_kF (c := 13) hF (by decide +kernel))) (fx_f (j := 129) hF (fx_kF (c := 13) hF (by decide +kernel)) (by decide +kernel)) (Or.inr rfl) (by decide +kernel) (fx_kF (c := 13) hF (by decide +kernel)) (by decide) (by first | exact Or.inl (by decide) | exact Or.inr (by decide))
  rcases it_s h with ⟨hp_8, h⟩ | ⟨hp_8, h⟩
  · cases h
    exact hQ w_6
  · cases h
    exact hQ w_6
set_option maxHeartbeats 4000000 in
theorem kw_X12_tells {m0 : MM} {p1 : Int} {rz : Int} {rm : MM} (hF : Fix m0)
  (h : fm_X12_tells p1 m0 = some (rz, rm)) : Kr fW_X12_tells 0 0 m0 rm := by
  have hQ : Kr fW_X12_tells 0 0 m0 rm → Kr fW_X12_tells 0 0 m0 rm := id
  unfold fm_X12_tells at h
  obtain ⟨m_3, e_4, h⟩ := up_s h
  have E_7 := ext_up e_4 (And.left (fx_kF (c := 13) hF (by decide +kernel))) (by decide)
  have w_8 := Kr.upC (y := 129) (Kr.rf (W := fW_X12_tells) (e := 0) hF) e_4 (ext_up e_4 (And.left (fx_kF (c := 13) hF (by decide +kernel))) (by decide)) (And.left (fx_kF (c := 13) hF (by decide +kernel))) (fx_f (j := 129) hF (fx_kF (c := 13) hF (by decide +kernel)) (by decide +kernel)) (Or.inr rfl) (by decide +kernel) (fx_kF (c := 13) hF (by decide +kernel)) (by decide) (by first | exact Or.inl (by decide) | exact Or.inr (by decide))
  cases h
  exact hQ w_8
set_option maxHeartbeats 4000000 in
theorem kwj_X12_line_96 {P : Prop} {m : MM} {y1 y2 y3 y4 s0 : Int} {rz : Int} {rm : MM} (hF : Fix m) (hQ : Kr fW_X12_line 0 0 m rm → P)
  (h : fj_X12_line_96 y1 y2 y3 y4 s0 m = some (rz, rm)) : P := by
  unfold fj_X12_line_96 at h
  obtain ⟨x_68, m_69, hc_67, h⟩ := bd_s h
  have w_76 := (kw_X12_fails hF hc_67)
  have E_74 := Kr.ext w_76
  have w_77 := Kr.tr0 (Kr.rf (W := fW_X12_line) (e := 0) hF) w_76 (by decide +kernel)
  rcases it_s h with ⟨hp_79, h⟩ | ⟨hp_79, h⟩
  · obtain ⟨x_88, e_89, h⟩ := lx_s h
    obtain ⟨x_102, hc_101, h⟩ := bp_s h
    obtain ⟨g_115, h⟩ := gd_s h
    obtain ⟨x_117, e_118, h⟩ := lx_s h
    obtain ⟨x_121, e_122, h⟩ := lx_s h
    obtain ⟨g_135, h⟩ := gd_s h
    obtain ⟨m_136, e_137, h⟩ := up_s h
    have E_140 := ext_up e_137 (And.left (fx_kF (c := 100) (Kr.fix w_77) (by decide +kernel))) (And.left g_135)
    have w_141 := Kr.upC (y := (-9)) w_77 e_137 (ext_up e_137 (And.left (fx_kF (c := 100) (Kr.fix w_77) (by decide +kernel))) (And.left g_135)) (And.left (fx_kF (c := 100) (Kr.fix w_77) (by decide +kernel))) (fx_a (Kr.fix w_77) (fx_kF (c := 100) (Kr.fix w_77) (by decide +kernel)) (And.left g_135) (by decide +kernel)) (Or.inl rfl) (by decide +kernel) (fx_kF (c := 100) (Kr.fix w_77) (by decide +kernel)) (And.left g_135) (by first | exact Or.inl (by decide) | exact Or.inr (by decide))
    obtain ⟨m_146, e_147, h⟩ := up_s h
    have E_150 := ext_up e_147 (And.left (fx_kF (c := 100) (Kr.fix w_141) (by decide +kernel))) (And.left g_135)
    have w_151 := Kr.upC (y := (-9)) w_141 e_147 (ext_up e_147 (And.left (fx_kF (c := 100) (Kr.fix w_141) (by decide +kernel))) (And.left g_135)) (And.left (fx_kF (c := 100) (Kr.fix w_141) (by decide +kernel))) (fx_a (Kr.fix w_141) (fx_kF (c := 100) (Kr.fix w_141) (by decide +kernel)) (And.left g_135) (by decide +kernel)) (Or.inl rfl) (by decide +kernel) (fx_kF (c := 100) (Kr.fix w_141) (by decide +kernel)) (And.left g_135) (by first | exact Or.inl (by decide) | exact Or.inr (by decide))
    obtain ⟨m_156, e_157, h⟩ := up_s h
    have E_160 := ext_up e_157 (And.left (fx_kF (c := 100) (Kr.fix w_151) (by decide +kernel))) (And.left g_135)
    have w_161 := Kr.upC (y := (-9)) w_151 e_157 (ext_up e_157 (And.left (fx_kF (c := 100) (Kr.fix w_151) (by decide +kernel))) (And.left g_135)) (And.left (fx_kF (c := 100) (Kr.fix w_151) (by decide +kernel))) (fx_a (Kr.fix w_151) (fx_kF (c := 100) (Kr.fix w_151) (by decide +kernel)) (And.left g_135) (by decide +kernel)) (Or.inl rfl) (by decide +kernel) (fx_kF (c := 100) (Kr.fix w_151) (by decide +kernel)) (And.left g_135) (by first | exact Or.inl (by decide) | exact Or.inr (by decide))
    obtain ⟨x_169, e_170, h⟩ := lx_s h
    obtain ⟨m_175, e_176, h⟩ := up_s h
    have E_179 := ext_up e_176 (And.left (fx_kF (c := 100) (Kr.fix w_161) (by decide +kernel))) (And.left g_115)
    have w_180 := Kr.upC (y := (-9)) w_161 e_176 (ext_up e_176 (And.left (fx_kF (c := 100) (Kr.fix w_161) (by decide +kernel))) (And.left g_115)) (And.left (fx_kF (c := 100) (Kr.fix w_161) (by decide +kernel))) (fx_a (Kr.fix w_161) (fx_kF (c := 100) (Kr.fix w_161) (by decide +kernel)) (And.left g_115) (by decide +kernel)) (Or.inl rfl) (by decide +kernel) (fx_kF (c := 100) (Kr.fix w_161) (by decide +kernel)) (And.left g_115) (by first | exact Or.inl (by decide) | exact Or.inr (by decide))
    obtain ⟨x_188, e_189, h⟩ := lx_s h
    cases h
    exact hQ w_180
  · cases h
    exact hQ w_77
set_option maxHeartbeats 4000000 in
theorem kwj_X12_line_55 {P : Prop} {m : MM} {y1 y2 y3 y4 y5 s0 : Int} {rz : Int} {rm : MM} (hF : Fix m) (hQ : Kr fW_X12_line 0 0 m rm → P)
  (h : fj_X12_line_55 y1 y2 y3 y4 y5 s0 m = some (rz, rm)) : P := by
  unfold fj_X12_line_55 at h
  rcases it_s h with ⟨hp_43, h⟩ | ⟨hp_43, h⟩
  · exact kwj_X12_line_96 hF hQ h
  · rcases it_s h with ⟨hp_44, h⟩ | ⟨hp_44, h⟩
    · exact kwj_X12_line_96 hF hQ h
    · obtain ⟨g_58, h⟩ := gd_s h
      obtain ⟨x_60, e_61, h⟩ := lx_s h
      rcases it_s h with ⟨hp_64, h⟩ | ⟨hp_64, h⟩
      · exact kwj_X12_line_96 hF hQ h
      · exact kwj_X12_line_96 hF hQ h
set_option maxHeartbeats 4000000 in
theorem kwj_X12_line_27 {P : Prop} {m : MM} {y1 y2 y3 y4 y5 s0 s1 : Int} {rz : Int} {rm : MM} (hF : Fix m) (hQ : Kr fW_X12_line 0 0 m rm → P)
  (h : fj_X12_line_27 y1 y2 y3 y4 y5 s0 s1 m = some (rz, rm)) : P := by
  unfold fj_X12_line_27 at h
  obtain ⟨x_204, hc_203, h⟩ := bp_s h
  obtain ⟨x_213, hc_212, h⟩ := bp_s h
  rcases it_s h with ⟨hp_221, h⟩ | ⟨hp_221, h⟩
  · exact kwj_X12_line_55 hF hQ h
  · obtain ⟨x_227, hc_226, h⟩ := bp_s h
    obtain ⟨x_236, hc_235, h⟩ := bp_s h
    rcases it_s h with ⟨hp_244, h⟩ | ⟨hp_244, h⟩
    · exact kwj_X12_line_55 hF hQ h
    · exact kwj_X12_line_55 hF hQ h
set_option maxHeartbeats 4000000 in
theorem kw_X12_line {m0 : MM} {p1 p2 p3 p4 : Int} {rz : Int} {rm : MM} (hF : Fix m0)
  (h : fm_X12_line p1 p2 p3 p4 m0 = some (rz, rm)) : Kr fW_X12_line 0 0 m0 rm := by
  have hQ : Kr fW_X12_line 0 0 m0 rm → Kr fW_X12_line 0 0 m0 rm := id
  unfold fm_X12_line at h
  obtain ⟨x_2, hc_1, h⟩ := bp_s h
  obtain ⟨x_23, hc_22, h⟩ := bp_s h
  rcases it_s h with ⟨hp_31, h⟩ | ⟨hp_31, h⟩
  · exact kwj_X12_line_55 hF hQ h
  · rcases it_s h with ⟨hp_200, h⟩ | ⟨hp_200, h⟩
    · exact kwj_X12_line_27 hF hQ h
    · exact kwj_X12_line_27 hF hQ h
set_option maxHeartbeats 4000000 in
theorem kwl_X12_deploy_71 {P : Prop} {mb : MM} {y1 y3 y4 : Int} {k149 : MM → Option (Int × MM)} {rz : Int} {rm : MM} (hF0 : Fix mb)
  (hk149 : ∀ mq : MM, Kr fW_X12_deploy 0 0 mb mq → k149 mq = some (rz, rm) → P) (hQ : Kr fW_X12_deploy 0 0 mb rm → P) :
  ∀ (n : Nat) {m : MM} {y5 : Int} , Kr fW_X12_deploy 0 0 mb m → fl_X12_deploy_71 y1 y3 y4 k149 n y5 m = some (rz, rm) → P := by
  intro n
  induction n with
  | zero => intro m y5 w h; cases h
  | succ n ih0 =>
    intro m y5 w h
    have ih : ∀ mq : MM, Kr fW_X12_deploy 0 0 mb mq → ∀ {z5 : Int}, fl_X12_deploy_71 y1 y3 y4 k149 n z5 mq = some (rz, rm) → P := fun mq b => by intros; exact ih0 b ‹_›
    unfold fl_X12_deploy_71 at h
    obtain ⟨g_111, h⟩ := gd_s h
    obtain ⟨x_113, e_114, h⟩ := lx_s h
    rcases it_s h with ⟨hp_115, h⟩ | ⟨hp_115, h⟩
    · obtain ⟨g_128, h⟩ := gd_s h
      obtain ⟨x_130, e_131, h⟩ := lx_s h
      obtain ⟨g_132, h⟩ := gd_s h
      obtain ⟨m_133, e_134, h⟩ := up_s h
      have E_137 := ext_up e_134 (And.left (fx_kF (c := 100) (Kr.fix w) (by decide +kernel))) (And.left g_132)
      have w_138 := Kr.upC (y := (-9)) w e_134 (ext_up e_134 (And.left (fx_kF (c := 100) (Kr.fix w) (by decide +kernel))) (And.left g_132)) (And.left (fx_kF (c := 100) (Kr.fix w) (by decide +kernel))) (fx_a (Kr.fix w) (fx_kF (c := 100) (Kr.fix w) (by decide +kernel)) (And.left g_132) (by decide +kernel)) (Or.inl rfl) (by decide +kernel) (fx_kF (c := 100) (Kr.fix w) (by decide +kernel)) (And.left g_132) (by first | exact Or.inl (by decide) | exact Or.inr (by decide))
      obtain ⟨x_153, e_154, h⟩ := lx_s h
      obtain ⟨m_155, e_156, h⟩ := up_s h
      have E_159 := ext_up e_156 (And.left (fx_kF (c := 100) (Kr.fix w_138) (by decide +kernel))) (And.left g_132)
      have w_160 := Kr.upC (y := (-9)) w_138 e_156 (ext_up e_156 (And.left (fx_kF (c := 100) (Kr.fix w_138) (by decide +kernel))) (And.left g_132)) (And.left (fx_kF (c := 100) (Kr.fix w_138) (by decide +kernel))) (fx_a (Kr.fix w_138) (fx_kF (c := 100) (Kr.fix w_138) (by decide +kernel)) (And.left g_132) (by decide +kernel)) (Or.inl rfl) (by decide +kernel) (fx_kF (c := 100) (Kr.fix w_138) (by decide +kernel)) (And.left g_132) (by first | exact Or.inl (by decide) | exact Or.inr (by decide))
      obtain ⟨x_175, e_176, h⟩ := lx_s h
      obtain ⟨m_177, e_178, h⟩ := up_s h
      have E_181 := ext_up e_178 (And.left (fx_kF (c := 100) (Kr.fix w_160) (by decide +kernel))) (And.left g_132)
      have w_182 := Kr.upC (y := (-9)) w_160 e_178 (ext_up e_178 (And.left (fx_kF (c := 100) (Kr.fix w_160) (by decide +kernel))) (And.left g_132)) (And.left (fx_kF (c := 100) (Kr.fix w_160) (by decide +kernel))) (fx_a (Kr.fix w_160) (fx_kF (c := 100) (Kr.fix w_160) (by decide +kernel)) (And.left g_132) (by decide +kernel)) (Or.inl rfl) (by decide +kernel) (fx_kF (c := 100) (Kr.fix w_160) (by decide +kernel)) (And.left g_132) (by first | exact Or.inl (by decide) | exact Or.inr (by decide))
      obtain ⟨x_189, e_190, h⟩ := lx_s h
      exact ih m_177 w_182 h
    · exact hk149 m w h
set_option maxHeartbeats 4000000 in
theorem kwj_X12_deploy_42 {P : Prop} {m : MM} {y1 s0 : Int} {rz : Int} {rm : MM} (hF : Fix m) (hQ : Kr fW_X12_deploy 0 0 m rm → P)
  (h : fj_X12_deploy_42 y1 s0 m = some (rz, rm)) : P := by
  unfold fj_X12_deploy_42 at h
  obtain ⟨x_37, m_38, hc_36, h⟩ := bd_s h
  have w_45 := (kw_X12_fails hF hc_36)
  have E_43 := Kr.ext w_45
  have w_46 := Kr.tr0 (Kr.rf (W := fW_X12_deploy) (e := 0) hF) w_45 (by decide +kernel)
  rcases it_s h with ⟨hp_48, h⟩ | ⟨hp_48, h⟩
  · obtain ⟨x_52, hc_51, h⟩ := bp_s h
    obtain ⟨g_70, h⟩ := gd_s h
    obtain ⟨x_72, e_73, h⟩ := lx_s h
    obtain ⟨x_75, hc_74, h⟩ := bp_s h
    refine kwl_X12_deploy_71 (Kr.fix w_46) ?_ (fun f => hQ (Kr.trS w_46 f)) BIG (Kr.rf (Kr.fix w_46)) h
    intro m_205 w_208
    intro h
    have E_206 := Kr.ext w_208
    have w_209 := Kr.trS w_46 w_208
    obtain ⟨x_223, e_224, h⟩ := lx_s h
    obtain ⟨g_240, h⟩ := gd_s h
    obtain ⟨x_242, e_243, h⟩ := lx_s h
    obtain ⟨g_244, h⟩ := gd_s h
    obtain ⟨m_245, e_246, h⟩ := up_s h
    have E_249 := ext_up e_246 (And.left (fx_kF (c := 100) (Kr.fix w_209) (by decide +kernel))) (And.left g_244)
    have w_250 := Kr.upC (y := (-9)) w_209 e_246 (ext_up e_246 (And.left (fx_kF (c := 100) (Kr.fix w_209) (by decide +kernel))) (And.left g_244)) (And.left (fx_kF (c := 100) (Kr.fix w_209) (by decide +kernel))) (fx_a (Kr.fix w_209) (fx_kF (c := 100) (Kr.fix w_209) (by decide +kernel)) (And.left g_244) (by decide +kernel)) (Or.inl rfl) (by decide +kernel) (fx_kF (c := 100) (Kr.fix w_209) (by decide +kernel)) (And.left g_244) (by first | exact Or.inl (by decide) | exact Or.inr (by decide))
    obtain ⟨m_265, e_266, h⟩ := up_s h
    have E_269 := ext_up e_266 (And.left (fx_kF (c := 100) (Kr.fix w_250) (by decide +kernel))) (And.left g_240)
    have w_270 := Kr.upC (y := (-9)) w_250 e_266 (ext_up e_266 (And.left (fx_kF (c := 100) (Kr.fix w_250) (by decide +kernel))) (And.left g_240)) (And.left (fx_kF (c := 100) (Kr.fix w_250) (by decide +kernel))) (fx_a (Kr.fix w_250) (fx_kF (c := 100) (Kr.fix w_250) (by decide +kernel)) (And.left g_240) (by decide +kernel)) (Or.inl rfl) (by decide +kernel) (fx_kF (c := 100) (Kr.fix w_250) (by decide +kernel)) (And.left g_240) (by first | exact Or.inl (by decide) | exact Or.inr (by decide))
    obtain ⟨x_278, e_279, h⟩ := lx_s h
    obtain ⟨m_284, e_285, h⟩ := up_s h
    have E_288 := ext_up e_285 (And.left (fx_kF (c := 100) (Kr.fix w_270) (by decide +kernel))) (And.left g_70)
    have w_289 := Kr.upC (y := (-9)) w_270 e_285 (ext_up e_285 (And.left (fx_kF (c := 100) (Kr.fix w_270) (by decide +kernel))) (And.left g_70)) (And.left (fx_kF (c := 100) (Kr.fix w_270) (by decide +kernel))) (fx_a (Kr.fix w_270) (fx_kF (c := 100) (Kr.fix w_270) (by decide +kernel)) (And.left g_70) (by decide +kernel)) (Or.inl rfl) (by decide +kernel) (fx_kF (c := 100) (Kr.fix w_270) (by decide +kernel)) (And.left g_70) (by first | exact Or.inl (by decide) | exact Or.inr (by decide))
    obtain ⟨x_297, e_298, h⟩ := lx_s h
    cases h
    exact hQ w_289
  · cases h
    exact hQ w_46
set_option maxHeartbeats 4000000 in
theorem kw_X12_deploy {m0 : MM} {p1 : Int} {rz : Int} {rm : MM} (hF : Fix m0)
  (h : fm_X12_deploy p1 m0 = some (rz, rm)) : Kr fW_X12_deploy 0 0 m0 rm := by
  have hQ : Kr fW_X12_deploy 0 0 m0 rm → Kr fW_X12_deploy 0 0 m0 rm := id
  unfold fm_X12_deploy at h
  obtain ⟨x_2, hc_1, h⟩ := bp_s h
  rcases it_s h with ⟨hp_15, h⟩ | ⟨hp_15, h⟩
  · exact kwj_X12_deploy_42 hF hQ h
  · obtain ⟨g_29, h⟩ := gd_s h
    obtain ⟨x_31, e_32, h⟩ := lx_s h
    rcases it_s h with ⟨hp_33, h⟩ | ⟨hp_33, h⟩
    · exact kwj_X12_deploy_42 hF hQ h
    · obtain ⟨g_310, h⟩ := gd_s h
      obtain ⟨x_312, e_313, h⟩ := lx_s h
      rcases it_s h with ⟨hp_316, h⟩ | ⟨hp_316, h⟩
      · exact kwj_X12_deploy_42 hF hQ h
      · exact kwj_X12_deploy_42 hF hQ h
set_option maxHeartbeats 4000000 in
theorem kwj_X12_setKind_87 {P : Prop} {m : MM} {y1 y2 y3 y4 y5 y6 s0 : Int} {rz : Int} {rm : MM} (hF : Fix m) (hQ : Kr fW_X12_setKind 0 0 m rm → P)
  (h : fj_X12_setKind_87 y1 y2 y3 y4 y5 y6 s0 m = some (rz, rm)) : P := by
  unfold fj_X12_setKind_87 at h
  obtain ⟨x_56, m_57, hc_55, h⟩ := bd_s h
  have w_64 := (kw_X12_fails hF hc_55)
  have E_62 := Kr.ext w_64
  have w_65 := Kr.tr0 (Kr.rf (W := fW_X12_setKind) (e := 0) hF) w_64 (by decide +kernel)
  rcases it_s h with ⟨hp_67, h⟩ | ⟨hp_67, h⟩
  · obtain ⟨g_71, h⟩ := gd_s h
    obtain ⟨m_72, e_73, h⟩ := up_s h
    have E_76 := ext_up e_73 (And.left (fx_kF (c := 100) (Kr.fix w_65) (by decide +kernel))) (And.left g_71)
    have w_77 := Kr.upC (y := (-9)) w_65 e_73 (ext_up e_73 (And.left (fx_kF (c := 100) (Kr.fix w_65) (by decide +kernel))) (And.left g_71)) (And.left (fx_kF (c := 100) (Kr.fix w_65) (by decide +kernel))) (fx_a (Kr.fix w_65) (fx_kF (c := 100) (Kr.fix w_65) (by decide +kernel)) (And.left g_71) (by decide +kernel)) (Or.inl rfl) (by decide +kernel) (fx_kF (c := 100) (Kr.fix w_65) (by decide +kernel)) (And.left g_71) (by first | exact Or.inl (by decide) | exact Or.inr (by decide))
    obtain ⟨m_82, e_83, h⟩ := up_s h
    have E_86 := ext_up e_83 (And.left (fx_kF (c := 100) (Kr.fix w_77) (by decide +kernel))) (And.left g_71)
    have w_87 := Kr.upC (y := (-9)) w_77 e_83 (ext_up e_83 (And.left (fx_kF (c := 100) (Kr.fix w_77) (by decide +kernel))) (And.left g_71)) (And.left (fx_kF (c := 100) (Kr.fix w_77) (by decide +kernel))) (fx_a (Kr.fix w_77) (fx_kF (c := 100) (Kr.fix w_77) (by decide +kernel)) (And.left g_71) (by decide +kernel)) (Or.inl rfl) (by decide +kernel) (fx_kF (c := 100) (Kr.fix w_77) (by decide +kernel)) (And.left g_71) (by first | exact Or.inl (by decide) | exact Or.inr (by decide))
    obtain ⟨m_92, e_93, h⟩ := up_s h
    have E_96 := ext_up e_93 (And.left (fx_kF (c := 100) (Kr.fix w_87) (by decide +kernel))) (And.left g_71)
    have w_97 := Kr.upC (y := (-9)) w_87 e_93 (ext_up e_93 (And.left (fx_kF (c := 100) (Kr.fix w_87) (by decide +kernel))) (And.left g_71)) (And.left (fx_kF (c := 100) (Kr.fix w_87) (by decide +kernel))) (fx_a (Kr.fix w_87) (fx_kF (c := 100) (Kr.fix w_87) (by decide +kernel)) (And.left g_71) (by decide +kernel)) (Or.inl rfl) (by decide +kernel) (fx_kF (c := 100) (Kr.fix w_87) (by decide +kernel)) (And.left g_71) (by first | exact Or.inl (by decide) | exact Or.inr (by decide))
    obtain ⟨m_102, e_103, h⟩ := up_s h
    have E_106 := ext_up e_103 (And.left (fx_kF (c := 100) (Kr.fix w_97) (by decide +kernel))) (And.left g_71)
    have w_107 := Kr.upC (y := (-9)) w_97 e_103 (ext_up e_103 (And.left (fx_kF (c := 100) (Kr.fix w_97) (by decide +kernel))) (And.left g_71)) (And.left (fx_kF (c := 100) (Kr.fix w_97) (by decide +kernel))) (fx_a (Kr.fix w_97) (fx_kF (c := 100) (Kr.fix w_97) (by decide +kernel)) (And.left g_71) (by decide +kernel)) (Or.inl rfl) (by decide +kernel) (fx_kF (c := 100) (Kr.fix w_97) (by decide +kernel)) (And.left g_71) (by first | exact Or.inl (by decide) | exact Or.inr (by decide))
    obtain ⟨m_112, e_113, h⟩ := up_s h
    have E_116 := ext_up e_113 (And.left (fx_kF (c := 100) (Kr.fix w_107) (by decide +kernel))) (And.left g_71)
    have w_117 := Kr.upC (y := (-9)) w_107 e_113 (ext_up e_113 (And.left (fx_kF (c := 100) (Kr.fix w_107) (by decide +kernel))) (And.left g_71)) (And.left (fx_kF (c := 100) (Kr.fix w_107) (by decide +kernel))) (fx_a (Kr.fix w_107) (fx_kF (c := 100) (Kr.fix w_107) (by decide +kernel)) (And.left g_71) (by decide +kernel)) (Or.inl rfl) (by decide +kernel) (fx_kF (c := 100) (Kr.fix w_107) (by decide +kernel)) (And.left g_71) (by first | exact Or.inl (by decide) | exact Or.inr (by decide))
    cases h
    exact hQ w_117
  · cases h
    exact hQ w_65
set_option maxHeartbeats 4000000 in
theorem kwj_X12_setKind_65 {P : Prop} {m : MM} {y1 y2 y3 y4 y5 y6 y7 s0 : Int} {rz : Int} {rm : MM} (hF : Fix m) (hQ : Kr fW_X12_setKind 0 0 m rm → P)
  (h : fj_X12_setKind_65 y1 y2 y3 y4 y5 y6 y7 s0 m = some (rz, rm)) : P := by
  unfold fj_X12_setKind_65 at h
  rcases it_s h with ⟨hp_51, h⟩ | ⟨hp_51, h⟩
  · exact kwj_X12_setKind_87 hF hQ h
  · rcases it_s h with ⟨hp_52, h⟩ | ⟨hp_52, h⟩
    · exact kwj_X12_setKind_87 hF hQ h
    · exact kwj_X12_setKind_87 hF hQ h
set_option maxHeartbeats 4000000 in
theorem kw_X12_setKind {m0 : MM} {p1 p2 p3 p4 p5 p6 : Int} {rz : Int} {rm : MM} (hF : Fix m0)
  (h : fm_X12_setKind p1 p2 p3 p4 p5 p6 m0 = some (rz, rm)) : Kr fW_X12_setKind 0 0 m0 rm := by
  have hQ : Kr fW_X12_setKind 0 0 m0 rm → Kr fW_X12_setKind 0 0 m0 rm := id
  unfold fm_X12_setKind at h
  obtain ⟨x_6, hc_5, h⟩ := bp_s h
  obtain ⟨x_29, hc_28, h⟩ := bp_s h
  rcases it_s h with ⟨hp_37, h⟩ | ⟨hp_37, h⟩
  · exact kwj_X12_setKind_65 hF hQ h
  · obtain ⟨x_128, hc_127, h⟩ := bp_s h
    rcases it_s h with ⟨hp_136, h⟩ | ⟨hp_136, h⟩
    · exact kwj_X12_setKind_65 hF hQ h
    · obtain ⟨x_144, hc_143, h⟩ := bp_s h
      rcases it_s h with ⟨hp_152, h⟩ | ⟨hp_152, h⟩
      · exact kwj_X12_setKind_65 hF hQ h
      · obtain ⟨x_160, hc_159, h⟩ := bp_s h
        rcases it_s h with ⟨hp_168, h⟩ | ⟨hp_168, h⟩
        · exact kwj_X12_setKind_65 hF hQ h
        · obtain ⟨x_176, hc_175, h⟩ := bp_s h
          rcases it_s h with ⟨hp_184, h⟩ | ⟨hp_184, h⟩
          · exact kwj_X12_setKind_65 hF hQ h
          · exact kwj_X12_setKind_65 hF hQ h
set_option maxHeartbeats 4000000 in
theorem kwj_X12_setPolicy_26 {P : Prop} {m : MM} {y1 y2 s0 : Int} {rz : Int} {rm : MM} (hF : Fix m) (hQ : Kr fW_X12_setPolicy 0 0 m rm → P)
  (h : fj_X12_setPolicy_26 y1 y2 s0 m = some (rz, rm)) : P := by
  unfold fj_X12_setPolicy_26 at h
  obtain ⟨x_28, m_29, hc_27, h⟩ := bd_s h
  have w_36 := (kw_X12_fails hF hc_27)
  have E_34 := Kr.ext w_36
  have w_37 := Kr.tr0 (Kr.rf (W := fW_X12_setPolicy) (e := 0) hF) w_36 (by decide +kernel)
  rcases it_s h with ⟨hp_39, h⟩ | ⟨hp_39, h⟩
  · obtain ⟨g_45, h⟩ := gd_s h
    obtain ⟨x_47, e_48, h⟩ := lx_s h
    obtain ⟨m_58, e_59, h⟩ := up_s h
    have E_62 := ext_up e_59 (And.left (fx_kF (c := 100) (Kr.fix w_37) (by decide +kernel))) (And.left g_45)
    have w_63 := Kr.upC (y := (-9)) w_37 e_59 (ext_up e_59 (And.left (fx_kF (c := 100) (Kr.fix w_37) (by decide +kernel))) (And.left g_45)) (And.left (fx_kF (c := 100) (Kr.fix w_37) (by decide +kernel))) (fx_a (Kr.fix w_37) (fx_kF (c := 100) (Kr.fix w_37) (by decide +kernel)) (And.left g_45) (by decide +kernel)) (Or.inl rfl) (by decide +kernel) (fx_kF (c := 100) (Kr.fix w_37) (by decide +kernel)) (And.left g_45) (by first | exact Or.inl (by decide) | exact Or.inr (by decide))
    cases h
    exact hQ w_63
  · cases h
    exact hQ w_37
set_option maxHeartbeats 4000000 in
theorem kw_X12_setPolicy {m0 : MM} {p1 p2 : Int} {rz : Int} {rm : MM} (hF : Fix m0)
  (h : fm_X12_setPolicy p1 p2 m0 = some (rz, rm)) : Kr fW_X12_setPolicy 0 0 m0 rm := by
  have hQ : Kr fW_X12_setPolicy 0 0 m0 rm → Kr fW_X12_setPolicy 0 0 m0 rm := id
  unfold fm_X12_setPolicy at h
  obtain ⟨x_2, hc_1, h⟩ := bp_s h
  rcases it_s h with ⟨hp_10, h⟩ | ⟨hp_10, h⟩
  · exact kwj_X12_setPolicy_26 hF hQ h
  · obtain ⟨x_16, hc_15, h⟩ := bp_s h
    rcases it_s h with ⟨hp_24, h⟩ | ⟨hp_24, h⟩
    · exact kwj_X12_setPolicy_26 hF hQ h
    · exact kwj_X12_setPolicy_26 hF hQ h
set_option maxHeartbeats 4000000 in
theorem kwj_X12_counts_38 {P : Prop} {m : MM} {y1 y2 y3 s0 s1 s2 : Int} {rz : Int} {rm : MM} (hF : Fix m) (hQ : Kr fW_X12_counts 0 0 m rm → P)
  (h : fj_X12_counts_38 y1 y2 y3 s0 s1 s2 m = some (rz, rm)) : P := by
  unfold fj_X12_counts_38 at h
  obtain ⟨g_41, h⟩ := gd_s h
  obtain ⟨m_42, e_43, h⟩ := up_s h
  have E_46 := ext_up e_43 (And.left (fx_kF (c := 100) hF (by decide +kernel))) (And.left g_41)
  have w_47 := Kr.upC (y := (-9)) (Kr.rf (W := fW_X12_counts) (e := 0) hF) e_43 (ext_up e_43 (And.left (fx_kF (c := 100) hF (by decide +kernel))) (And.left g_41)) (And.left (fx_kF (c := 100) hF (by decide +kernel))) (fx_a hF (fx_kF (c := 100) hF (by decide +kernel)) (And.left g_41) (by decide +kernel)) (Or.inl rfl) (by decide +kernel) (fx_kF (c := 100) hF (by decide +kernel)) (And.left g_41) (by first | exact Or.inl (by decide) | exact Or.inr (by decide))
  rcases it_s h with ⟨hp_54, h⟩ | ⟨hp_54, h⟩
  · obtain ⟨g_76, h⟩ := gd_s h
    obtain ⟨x_78, e_79, h⟩ := lx_s h
    obtain ⟨x_81, hc_80, h⟩ := bp_s h
    obtain ⟨m_89, e_90, h⟩ := up_s h
    have E_93 := ext_up e_90 (And.left (fx_kF (c := 100) (Kr.fix w_47) (by decide +kernel))) (And.left g_76)
    have w_94 := Kr.upC (y := (-9)) w_47 e_90 (ext_up e_90 (And.left (fx_kF (c := 100) (Kr.fix w_47) (by decide +kernel))) (And.left g_76)) (And.left (fx_kF (c := 100) (Kr.fix w_47) (by decide +kernel))) (fx_a (Kr.fix w_47) (fx_kF (c := 100) (Kr.fix w_47) (by decide +kernel)) (And.left g_76) (by decide +kernel)) (Or.inl rfl) (by decide +kernel) (fx_kF (c := 100) (Kr.fix w_47) (by decide +kernel)) (And.left g_76) (by first | exact Or.inl (by decide) | exact Or.inr (by decide))
    cases h
    exact hQ w_94
  · obtain ⟨g_60, h⟩ := gd_s h
    obtain ⟨x_62, e_63, h⟩ := lx_s h
    obtain ⟨m_64, e_65, h⟩ := up_s h
    have E_68 := ext_up e_65 (And.left (fx_kF (c := 100) (Kr.fix w_47) (by decide +kernel))) (And.left g_60)
    have w_69 := Kr.upC (y := (-9)) w_47 e_65 (ext_up e_65 (And.left (fx_kF (c := 100) (Kr.fix w_47) (by decide +kernel))) (And.left g_60)) (And.left (fx_kF (c := 100) (Kr.fix w_47) (by decide +kernel))) (fx_a (Kr.fix w_47) (fx_kF (c := 100) (Kr.fix w_47) (by decide +kernel)) (And.left g_60) (by decide +kernel)) (Or.inl rfl) (by decide +kernel) (fx_kF (c := 100) (Kr.fix w_47) (by decide +kernel)) (And.left g_60) (by first | exact Or.inl (by decide) | exact Or.inr (by decide))
    cases h
    exact hQ w_69
set_option maxHeartbeats 4000000 in
theorem kwj_X12_counts_18 {P : Prop} {m : MM} {y1 y2 y3 s0 s1 s2 : Int} {rz : Int} {rm : MM} (hF : Fix m) (hQ : Kr fW_X12_counts 0 0 m rm → P)
  (h : fj_X12_counts_18 y1 y2 y3 s0 s1 s2 m = some (rz, rm)) : P := by
  unfold fj_X12_counts_18 at h
  obtain ⟨g_17, h⟩ := gd_s h
  obtain ⟨m_18, e_19, h⟩ := up_s h
  have E_22 := ext_up e_19 (And.left (fx_kF (c := 100) hF (by decide +kernel))) (And.left g_17)
  have w_23 := Kr.upC (y := (-9)) (Kr.rf (W := fW_X12_counts) (e := 0) hF) e_19 (ext_up e_19 (And.left (fx_kF (c := 100) hF (by decide +kernel))) (And.left g_17)) (And.left (fx_kF (c := 100) hF (by decide +kernel))) (fx_a hF (fx_kF (c := 100) hF (by decide +kernel)) (And.left g_17) (by decide +kernel)) (Or.inl rfl) (by decide +kernel) (fx_kF (c := 100) hF (by decide +kernel)) (And.left g_17) (by first | exact Or.inl (by decide) | exact Or.inr (by decide))
  obtain ⟨g_30, h⟩ := gd_s h
  obtain ⟨x_32, e_33, h⟩ := lx_s h
  rcases it_s h with ⟨hp_36, h⟩ | ⟨hp_36, h⟩
  · exact kwj_X12_counts_38 (Kr.fix w_23) (fun f => hQ (Kr.trS w_23 f)) h
  · exact kwj_X12_counts_38 (Kr.fix w_23) (fun f => hQ (Kr.trS w_23 f)) h
set_option maxHeartbeats 4000000 in
theorem kw_X12_counts {m0 : MM} {p1 p2 p3 : Int} {rz : Int} {rm : MM} (hF : Fix m0)
  (h : fm_X12_counts p1 p2 p3 m0 = some (rz, rm)) : Kr fW_X12_counts 0 0 m0 rm := by
  have hQ : Kr fW_X12_counts 0 0 m0 rm → Kr fW_X12_counts 0 0 m0 rm := id
  unfold fm_X12_counts at h
  obtain ⟨g_6, h⟩ := gd_s h
  obtain ⟨x_8, e_9, h⟩ := lx_s h
  rcases it_s h with ⟨hp_12, h⟩ | ⟨hp_12, h⟩
  · exact kwj_X12_counts_18 hF hQ h
  · exact kwj_X12_counts_18 hF hQ h
set_option maxHeartbeats 4000000 in
theorem kwl_X12_recounts_23 {P : Prop} {mb : MM} {y1 : Int} {rz : Int} {rm : MM} (hF0 : Fix mb) (hQ : Kr fW_X12_recounts 0 0 mb rm → P) :
  ∀ (n : Nat) {m : MM} {y2 : Int} , Kr fW_X12_recounts 0 0 mb m → fl_X12_recounts_23 y1 n y2 m = some (rz, rm) → P := by
  intro n
  induction n with
  | zero => intro m y2 w h; cases h
  | succ n ih0 =>
    intro m y2 w h
    have ih : ∀ mq : MM, Kr fW_X12_recounts 0 0 mb mq → ∀ {z2 : Int}, fl_X12_recounts_23 y1 n z2 mq = some (rz, rm) → P := fun mq b => by intros; exact ih0 b ‹_›
    unfold fl_X12_recounts_23 at h
    obtain ⟨g_50, h⟩ := gd_s h
    obtain ⟨x_52, e_53, h⟩ := lx_s h
    rcases it_s h with ⟨hp_54, h⟩ | ⟨hp_54, h⟩
    · obtain ⟨x_56, hc_55, h⟩ := bp_s h
      obtain ⟨x_65, hc_64, h⟩ := bp_s h
      obtain ⟨x_74, m_75, hc_73, h⟩ := bd_s h
      have w_82 := (kw_X12_counts (Kr.fix w) hc_73)
      have E_80 := Kr.ext w_82
      have w_83 := Kr.tr0 w w_82 (by decide +kernel)
      obtain ⟨x_90, e_91, h⟩ := lx_s h
      exact ih m_75 w_83 h
    · cases h
      exact hQ w
set_option maxHeartbeats 4000000 in
theorem kw_X12_recounts {m0 : MM} {p1 : Int} {rz : Int} {rm : MM} (hF : Fix m0)
  (h : fm_X12_recounts p1 m0 = some (rz, rm)) : Kr fW_X12_recounts 0 0 m0 rm := by
  have hQ : Kr fW_X12_recounts 0 0 m0 rm → Kr fW_X12_recounts 0 0 m0 rm := id
  unfold fm_X12_recounts at h
  obtain ⟨g_6, h⟩ := gd_s h
  obtain ⟨m_7, e_8, h⟩ := up_s h
  have E_11 := ext_up e_8 (And.left (fx_kF (c := 100) hF (by decide +kernel))) (And.left g_6)
  have w_12 := Kr.upC (y := (-9)) (Kr.rf (W := fW_X12_recounts) (e := 0) hF) e_8 (ext_up e_8 (And.left (fx_kF (c := 100) hF (by decide +kernel))) (And.left g_6)) (And.left (fx_kF (c := 100) hF (by decide +kernel))) (fx_a hF (fx_kF (c := 100) hF (by decide +kernel)) (And.left g_6) (by decide +kernel)) (Or.inl rfl) (by decide +kernel) (fx_kF (c := 100) hF (by decide +kernel)) (And.left g_6) (by first | exact Or.inl (by decide) | exact Or.inr (by decide))
  obtain ⟨m_19, e_20, h⟩ := up_s h
  have E_23 := ext_up e_20 (And.left (fx_kF (c := 100) (Kr.fix w_12) (by decide +kernel))) (And.left g_6)
  have w_24 := Kr.upC (y := (-9)) w_12 e_20 (ext_up e_20 (And.left (fx_kF (c := 100) (Kr.fix w_12) (by decide +kernel))) (And.left g_6)) (And.left (fx_kF (c := 100) (Kr.fix w_12) (by decide +kernel))) (fx_a (Kr.fix w_12) (fx_kF (c := 100) (Kr.fix w_12) (by decide +kernel)) (And.left g_6) (by decide +kernel)) (Or.inl rfl) (by decide +kernel) (fx_kF (c := 100) (Kr.fix w_12) (by decide +kernel)) (And.left g_6) (by first | exact Or.inl (by decide) | exact Or.inr (by decide))
  obtain ⟨m_31, e_32, h⟩ := up_s h
  have E_35 := ext_up e_32 (And.left (fx_kF (c := 100) (Kr.fix w_24) (by decide +kernel))) (And.left g_6)
  have w_36 := Kr.upC (y := (-9)) w_24 e_32 (ext_up e_32 (And.left (fx_kF (c := 100) (Kr.fix w_24) (by decide +kernel))) (And.left g_6)) (And.left (fx_kF (c := 100) (Kr.fix w_24) (by decide +kernel))) (fx_a (Kr.fix w_24) (fx_kF (c := 100) (Kr.fix w_24) (by decide +kernel)) (And.left g_6) (by decide +kernel)) (Or.inl rfl) (by decide +kernel) (fx_kF (c := 100) (Kr.fix w_24) (by decide +kernel)) (And.left g_6) (by first | exact Or.inl (by decide) | exact Or.inr (by decide))
  refine kwl_X12_recounts_23 (Kr.fix w_36)  (fun f => hQ (Kr.trS w_36 f)) BIG (Kr.rf (Kr.fix w_36)) h
set_option maxHeartbeats 4000000 in
theorem kwj_X12_puts_119 {P : Prop} {m : MM} {y1 y2 y3 y4 s0 : Int} {rz : Int} {rm : MM} (hF : Fix m) (hQ : Kr fW_X12_puts 0 0 m rm → P)
  (h : fj_X12_puts_119 y1 y2 y3 y4 s0 m = some (rz, rm)) : P := by
  unfold fj_X12_puts_119 at h
  obtain ⟨g_78, h⟩ := gd_s h
  obtain ⟨x_80, e_81, h⟩ := lx_s h
  obtain ⟨x_83, hc_82, h⟩ := bp_s h
  obtain ⟨g_115, h⟩ := gd_s h
  obtain ⟨m_116, e_117, h⟩ := up_s h
  have E_120 := ext_up e_117 (And.left (fx_kF (c := 101) hF (by decide +kernel))) (And.left g_115)
  have w_121 := Kr.upC (y := (-9)) (Kr.rf (W := fW_X12_puts) (e := 0) hF) e_117 (ext_up e_117 (And.left (fx_kF (c := 101) hF (by decide +kernel))) (And.left g_115)) (And.left (fx_kF (c := 101) hF (by decide +kernel))) (fx_a hF (fx_kF (c := 101) hF (by decide +kernel)) (And.left g_115) (by decide +kernel)) (Or.inl rfl) (by decide +kernel) (fx_kF (c := 101) hF (by decide +kernel)) (And.left g_115) (by first | exact Or.inl (by decide) | exact Or.inr (by decide))
  obtain ⟨x_129, e_130, h⟩ := lx_s h
  obtain ⟨m_135, e_136, h⟩ := up_s h
  have E_139 := ext_up e_136 (And.left (fx_kF (c := 100) (Kr.fix w_121) (by decide +kernel))) (And.left g_78)
  have w_140 := Kr.upC (y := (-9)) w_121 e_136 (ext_up e_136 (And.left (fx_kF (c := 100) (Kr.fix w_121) (by decide +kernel))) (And.left g_78)) (And.left (fx_kF (c := 100) (Kr.fix w_121) (by decide +kernel))) (fx_a (Kr.fix w_121) (fx_kF (c := 100) (Kr.fix w_121) (by decide +kernel)) (And.left g_78) (by decide +kernel)) (Or.inl rfl) (by decide +kernel) (fx_kF (c := 100) (Kr.fix w_121) (by decide +kernel)) (And.left g_78) (by first | exact Or.inl (by decide) | exact Or.inr (by decide))
  obtain ⟨x_143, m_144, hc_142, h⟩ := bd_s h
  have w_151 := (kw_X12_counts (Kr.fix w_140) hc_142)
  have E_149 := Kr.ext w_151
  have w_152 := Kr.tr0 w_140 w_151 (by decide +kernel)
  obtain ⟨x_160, e_161, h⟩ := lx_s h
  cases h
  exact hQ w_152
set_option maxHeartbeats 4000000 in
theorem kwj_X12_puts_89 {P : Prop} {m : MM} {y1 y2 y3 y4 : Int} {rz : Int} {rm : MM} (hF : Fix m) (hQ : Kr fW_X12_puts 0 0 m rm → P)
  (h : fj_X12_puts_89 y1 y2 y3 y4 m = some (rz, rm)) : P := by
  unfold fj_X12_puts_89 at h
  rcases it_s h with ⟨hp_56, h⟩ | ⟨hp_56, h⟩
  · obtain ⟨x_60, e_61, h⟩ := lx_s h
    exact kwj_X12_puts_119 hF hQ h
  · obtain ⟨x_171, e_172, h⟩ := lx_s h
    obtain ⟨x_178, e_179, h⟩ := lx_s h
    exact kwj_X12_puts_119 hF hQ h
set_option maxHeartbeats 4000000 in
theorem kwj_X12_puts_80 {P : Prop} {m : MM} {y1 y2 y3 y4 s0 s1 : Int} {rz : Int} {rm : MM} (hF : Fix m) (hQ : Kr fW_X12_puts 0 0 m rm → P)
  (h : fj_X12_puts_80 y1 y2 y3 y4 s0 s1 m = some (rz, rm)) : P := by
  unfold fj_X12_puts_80 at h
  obtain ⟨m_201, e_202, h⟩ := up_s h
  have E_205 := ext_up e_202 (And.left (fx_kF (c := 13) hF (by decide +kernel))) (by decide)
  have w_206 := Kr.upC (y := 29) (Kr.rf (W := fW_X12_puts) (e := 0) hF) e_202 (ext_up e_202 (And.left (fx_kF (c := 13) hF (by decide +kernel))) (by decide)) (And.left (fx_kF (c := 13) hF (by decide +kernel))) (fx_f (j := 29) hF (fx_kF (c := 13) hF (by decide +kernel)) (by decide +kernel)) (Or.inr rfl) (by decide +kernel) (fx_kF (c := 13) hF (by decide +kernel)) (by decide) (by first | exact Or.inl (by decide) | exact Or.inr (by decide))
  obtain ⟨m_208, e_209, h⟩ := up_s h
  have E_212 := ext_up e_209 (And.left (fx_kF (c := 13) (Kr.fix w_206) (by decide +kernel))) (by decide)
  have w_213 := Kr.upC (y := 30) w_206 e_209 (ext_up e_209 (And.left (fx_kF (c := 13) (Kr.fix w_206) (by decide +kernel))) (by decide)) (And.left (fx_kF (c := 13) (Kr.fix w_206) (by decide +kernel))) (fx_f (j := 30) (Kr.fix w_206) (fx_kF (c := 13) (Kr.fix w_206) (by decide +kernel)) (by decide +kernel)) (Or.inr rfl) (by decide +kernel) (fx_kF (c := 13) (Kr.fix w_206) (by decide +kernel)) (by decide) (by first | exact Or.inl (by decide) | exact Or.inr (by decide))
  exact kwj_X12_puts_89 (Kr.fix w_213) (fun f => hQ (Kr.trS w_213 f)) h
set_option maxHeartbeats 4000000 in
theorem kwj_X12_puts_56 {P : Prop} {m : MM} {y1 y2 y3 y4 : Int} {rz : Int} {rm : MM} (hF : Fix m) (hQ : Kr fW_X12_puts 0 0 m rm → P)
  (h : fj_X12_puts_56 y1 y2 y3 y4 m = some (rz, rm)) : P := by
  unfold fj_X12_puts_56 at h
  rcases it_s h with ⟨hp_53, h⟩ | ⟨hp_53, h⟩
  · exact kwj_X12_puts_89 hF hQ h
  · obtain ⟨x_189, e_190, h⟩ := lx_s h
    obtain ⟨x_194, e_195, h⟩ := lx_s h
    rcases it_s h with ⟨hp_196, h⟩ | ⟨hp_196, h⟩
    · exact kwj_X12_puts_80 hF hQ h
    · exact kwj_X12_puts_80 hF hQ h
set_option maxHeartbeats 4000000 in
theorem kw_X12_puts {m0 : MM} {p1 p2 p3 p4 : Int} {rz : Int} {rm : MM} (hF : Fix m0)
  (h : fm_X12_puts p1 p2 p3 p4 m0 = some (rz, rm)) : Kr fW_X12_puts 0 0 m0 rm := by
  have hQ : Kr fW_X12_puts 0 0 m0 rm → Kr fW_X12_puts 0 0 m0 rm := id
  unfold fm_X12_puts at h
  obtain ⟨g_10, h⟩ := gd_s h
  obtain ⟨x_12, e_13, h⟩ := lx_s h
  obtain ⟨x_20, e_21, h⟩ := lx_s h
  obtain ⟨x_30, e_31, h⟩ := lx_s h
  obtain ⟨g_46, h⟩ := gd_s h
  obtain ⟨x_48, e_49, h⟩ := lx_s h
  rcases it_s h with ⟨hp_50, h⟩ | ⟨hp_50, h⟩
  · obtain ⟨x_220, e_221, h⟩ := lx_s h
    obtain ⟨m_226, e_227, h⟩ := up_s h
    have E_230 := ext_up e_227 (And.left (fx_kF (c := 13) hF (by decide +kernel))) (by decide)
    have w_231 := Kr.upC (y := 32) (Kr.rf (W := fW_X12_puts) (e := 0) hF) e_227 (ext_up e_227 (And.left (fx_kF (c := 13) hF (by decide +kernel))) (by decide)) (And.left (fx_kF (c := 13) hF (by decide +kernel))) (fx_f (j := 32) hF (fx_kF (c := 13) hF (by decide +kernel)) (by decide +kernel)) (Or.inr rfl) (by decide +kernel) (fx_kF (c := 13) hF (by decide +kernel)) (by decide) (by first | exact Or.inl (by decide) | exact Or.inr (by decide))
    obtain ⟨x_239, e_240, h⟩ := lx_s h
    obtain ⟨m_241, e_242, h⟩ := up_s h
    have E_245 := ext_up e_242 (And.left (fx_kF (c := 100) (Kr.fix w_231) (by decide +kernel))) (And.left g_46)
    have w_246 := Kr.upC (y := (-9)) w_231 e_242 (ext_up e_242 (And.left (fx_kF (c := 100) (Kr.fix w_231) (by decide +kernel))) (And.left g_46)) (And.left (fx_kF (c := 100) (Kr.fix w_231) (by decide +kernel))) (fx_a (Kr.fix w_231) (fx_kF (c := 100) (Kr.fix w_231) (by decide +kernel)) (And.left g_46) (by decide +kernel)) (Or.inl rfl) (by decide +kernel) (fx_kF (c := 100) (Kr.fix w_231) (by decide +kernel)) (And.left g_46) (by first | exact Or.inl (by decide) | exact Or.inr (by decide))
    exact kwj_X12_puts_56 (Kr.fix w_246) (fun f => hQ (Kr.trS w_246 f)) h
  · exact kwj_X12_puts_56 hF hQ h
set_option maxHeartbeats 4000000 in
theorem kw_X12_makes {m0 : MM} {p1 p2 p3 p4 p5 p6 : Int} {rz : Int} {rm : MM} (hF : Fix m0)
  (h : fm_X12_makes p1 p2 p3 p4 p5 p6 m0 = some (rz, rm)) : Kr fW_X12_makes 0 0 m0 rm := by
  have hQ : Kr fW_X12_makes 0 0 m0 rm → Kr fW_X12_makes 0 0 m0 rm := id
  unfold fm_X12_makes at h
  obtain ⟨x_4, e_5, h⟩ := lx_s h
  obtain ⟨g_19, h⟩ := gd_s h
  obtain ⟨m_20, e_21, h⟩ := up_s h
  have E_24 := ext_up e_21 (And.left (fx_kF (c := 100) hF (by decide +kernel))) (And.left g_19)
  have w_25 := Kr.upC (y := (-9)) (Kr.rf (W := fW_X12_makes) (e := 0) hF) e_21 (ext_up e_21 (And.left (fx_kF (c := 100) hF (by decide +kernel))) (And.left g_19)) (And.left (fx_kF (c := 100) hF (by decide +kernel))) (fx_a hF (fx_kF (c := 100) hF (by decide +kernel)) (And.left g_19) (by decide +kernel)) (Or.inl rfl) (by decide +kernel) (fx_kF (c := 100) hF (by decide +kernel)) (And.left g_19) (by first | exact Or.inl (by decide) | exact Or.inr (by decide))
  obtain ⟨m_30, e_31, h⟩ := up_s h
  have E_34 := ext_up e_31 (And.left (fx_kF (c := 100) (Kr.fix w_25) (by decide +kernel))) (And.left g_19)
  have w_35 := Kr.upC (y := (-9)) w_25 e_31 (ext_up e_31 (And.left (fx_kF (c := 100) (Kr.fix w_25) (by decide +kernel))) (And.left g_19)) (And.left (fx_kF (c := 100) (Kr.fix w_25) (by decide +kernel))) (fx_a (Kr.fix w_25) (fx_kF (c := 100) (Kr.fix w_25) (by decide +kernel)) (And.left g_19) (by decide +kernel)) (Or.inl rfl) (by decide +kernel) (fx_kF (c := 100) (Kr.fix w_25) (by decide +kernel)) (And.left g_19) (by first | exact Or.inl (by decide) | exact Or.inr (by decide))
  obtain ⟨m_40, e_41, h⟩ := up_s h
  have E_44 := ext_up e_41 (And.left (fx_kF (c := 100) (Kr.fix w_35) (by decide +kernel))) (And.left g_19)
  have w_45 := Kr.upC (y := (-9)) w_35 e_41 (ext_up e_41 (And.left (fx_kF (c := 100) (Kr.fix w_35) (by decide +kernel))) (And.left g_19)) (And.left (fx_kF (c := 100) (Kr.fix w_35) (by decide +kernel))) (fx_a (Kr.fix w_35) (fx_kF (c := 100) (Kr.fix w_35) (by decide +kernel)) (And.left g_19) (by decide +kernel)) (Or.inl rfl) (by decide +kernel) (fx_kF (c := 100) (Kr.fix w_35) (by decide +kernel)) (And.left g_19) (by first | exact Or.inl (by decide) | exact Or.inr (by decide))
  obtain ⟨m_52, e_53, h⟩ := up_s h
  have E_56 := ext_up e_53 (And.left (fx_kF (c := 100) (Kr.fix w_45) (by decide +kernel))) (And.left g_19)
  have w_57 := Kr.upC (y := (-9)) w_45 e_53 (ext_up e_53 (And.left (fx_kF (c := 100) (Kr.fix w_45) (by decide +kernel))) (And.left g_19)) (And.left (fx_kF (c := 100) (Kr.fix w_45) (by decide +kernel))) (fx_a (Kr.fix w_45) (fx_kF (c := 100) (Kr.fix w_45) (by decide +kernel)) (And.left g_19) (by decide +kernel)) (Or.inl rfl) (by decide +kernel) (fx_kF (c := 100) (Kr.fix w_45) (by decide +kernel)) (And.left g_19) (by first | exact Or.inl (by decide) | exact Or.inr (by decide))
  obtain ⟨m_62, e_63, h⟩ := up_s h
  have E_66 := ext_up e_63 (And.left (fx_kF (c := 100) (Kr.fix w_57) (by decide +kernel))) (And.left g_19)
  have w_67 := Kr.upC (y := (-9)) w_57 e_63 (ext_up e_63 (And.left (fx_kF (c := 100) (Kr.fix w_57) (by decide +kernel))) (And.left g_19)) (And.left (fx_kF (c := 100) (Kr.fix w_57) (by decide +kernel))) (fx_a (Kr.fix w_57) (fx_kF (c := 100) (Kr.fix w_57) (by decide +kernel)) (And.left g_19) (by decide +kernel)) (Or.inl rfl) (by decide +kernel) (fx_kF (c := 100) (Kr.fix w_57) (by decide +kernel)) (And.left g_19) (by first | exact Or.inl (by decide) | exact Or.inr (by decide))
  obtain ⟨m_72, e_73, h⟩ := up_s h
  have E_76 := ext_up e_73 (And.left (fx_kF (c := 100) (Kr.fix w_67) (by decide +kernel))) (And.left g_19)
  have w_77 := Kr.upC (y := (-9)) w_67 e_73 (ext_up e_73 (And.left (fx_kF (c := 100) (Kr.fix w_67) (by decide +kernel))) (And.left g_19)) (And.left (fx_kF (c := 100) (Kr.fix w_67) (by decide +kernel))) (fx_a (Kr.fix w_67) (fx_kF (c := 100) (Kr.fix w_67) (by decide +kernel)) (And.left g_19) (by decide +kernel)) (Or.inl rfl) (by decide +kernel) (fx_kF (c := 100) (Kr.fix w_67) (by decide +kernel)) (And.left g_19) (by first | exact Or.inl (by decide) | exact Or.inr (by decide))
  obtain ⟨m_84, e_85, h⟩ := up_s h
  have E_88 := ext_up e_85 (And.left (fx_kF (c := 100) (Kr.fix w_77) (by decide +kernel))) (And.left g_19)
  have w_89 := Kr.upC (y := (-9)) w_77 e_85 (ext_up e_85 (And.left (fx_kF (c := 100) (Kr.fix w_77) (by decide +kernel))) (And.left g_19)) (And.left (fx_kF (c := 100) (Kr.fix w_77) (by decide +kernel))) (fx_a (Kr.fix w_77) (fx_kF (c := 100) (Kr.fix w_77) (by decide +kernel)) (And.left g_19) (by decide +kernel)) (Or.inl rfl) (by decide +kernel) (fx_kF (c := 100) (Kr.fix w_77) (by decide +kernel)) (And.left g_19) (by first | exact Or.inl (by decide) | exact Or.inr (by decide))
  obtain ⟨x_94, e_95, h⟩ := lx_s h
  obtain ⟨m_100, e_101, h⟩ := up_s h
  have E_104 := ext_up e_101 (And.left (fx_kF (c := 13) (Kr.fix w_89) (by decide +kernel))) (by decide)
  have w_105 := Kr.upC (y := 12) w_89 e_101 (ext_up e_101 (And.left (fx_kF (c := 13) (Kr.fix w_89) (by decide +kernel))) (by decide)) (And.left (fx_kF (c := 13) (Kr.fix w_89) (by decide +kernel))) (fx_f (j := 12) (Kr.fix w_89) (fx_kF (c := 13) (Kr.fix w_89) (by decide +kernel)) (by decide +kernel)) (Or.inr rfl) (by decide +kernel) (fx_kF (c := 13) (Kr.fix w_89) (by decide +kernel)) (by decide) (by first | exact Or.inl (by decide) | exact Or.inr (by decide))
  rcases it_s h with ⟨hp_109, h⟩ | ⟨hp_109, h⟩
  · cases h
    exact hQ w_105
  · obtain ⟨x_115, m_116, hc_114, h⟩ := bd_s h
    have w_123 := (kw_X12_puts (Kr.fix w_105) hc_114)
    have E_121 := Kr.ext w_123
    have w_124 := Kr.tr0 w_105 w_123 (by decide +kernel)
    cases h
    exact hQ w_124
set_option maxHeartbeats 4000000 in
theorem kwj_X12_cancels_15 {P : Prop} {m : MM} {y1 s0 : Int} {rz : Int} {rm : MM} (hF : Fix m) (hQ : Kr fW_X12_cancels 0 0 m rm → P)
  (h : fj_X12_cancels_15 y1 s0 m = some (rz, rm)) : P := by
  unfold fj_X12_cancels_15 at h
  rcases it_s h with ⟨hp_20, h⟩ | ⟨hp_20, h⟩
  · obtain ⟨g_21, h⟩ := gd_s h
    cases h
    exact hQ (Kr.rf (W := fW_X12_cancels) (e := 0) hF)
  · obtain ⟨x_29, m_30, hc_28, h⟩ := bd_s h
    have w_37 := (kw_X12_puts hF hc_28)
    have E_35 := Kr.ext w_37
    have w_38 := Kr.tr0 (Kr.rf (W := fW_X12_cancels) (e := 0) hF) w_37 (by decide +kernel)
    obtain ⟨g_40, h⟩ := gd_s h
    cases h
    exact hQ w_38
set_option maxHeartbeats 4000000 in
theorem kw_X12_cancels {m0 : MM} {p1 : Int} {rz : Int} {rm : MM} (hF : Fix m0)
  (h : fm_X12_cancels p1 m0 = some (rz, rm)) : Kr fW_X12_cancels 0 0 m0 rm := by
  have hQ : Kr fW_X12_cancels 0 0 m0 rm → Kr fW_X12_cancels 0 0 m0 rm := id
  unfold fm_X12_cancels at h
  obtain ⟨x_4, hc_3, h⟩ := bp_s h
  rcases it_s h with ⟨hp_12, h⟩ | ⟨hp_12, h⟩
  · exact kwj_X12_cancels_15 hF hQ h
  · exact kwj_X12_cancels_15 hF hQ h
set_option maxHeartbeats 4000000 in
theorem kw_X12_spins {m0 : MM} {rz : Int} {rm : MM} (hF : Fix m0)
  (h : fm_X12_spins m0 = some (rz, rm)) : Kr fW_X12_spins 0 0 m0 rm := by
  have hQ : Kr fW_X12_spins 0 0 m0 rm → Kr fW_X12_spins 0 0 m0 rm := id
  unfold fm_X12_spins at h
  obtain ⟨m_3, e_4, h⟩ := up_s h
  have E_7 := ext_up e_4 (And.left (fx_kF (c := 13) hF (by decide +kernel))) (by decide)
  have w_8 := Kr.upC (y := 114) (Kr.rf (W := fW_X12_spins) (e := 0) hF) e_4 (ext_up e_4 (And.left (fx_kF (c := 13) hF (by decide +kernel))) (by decide)) (And.left (fx_kF (c := 13) hF (by decide +kernel))) (fx_f (j := 114) hF (fx_kF (c := 13) hF (by decide +kernel)) (by decide +kernel)) (Or.inr rfl) (by decide +kernel) (fx_kF (c := 13) hF (by decide +kernel)) (by decide) (by first | exact Or.inl (by decide) | exact Or.inr (by decide))
  obtain ⟨m_12, e_13, h⟩ := up_s h
  have E_16 := ext_up e_13 (And.left (fx_kF (c := 13) (Kr.fix w_8) (by decide +kernel))) (by decide)
  have w_17 := Kr.upC (y := 115) w_8 e_13 (ext_up e_13 (And.left (fx_kF (c := 13) (Kr.fix w_8) (by decide +kernel))) (by decide)) (And.left (fx_kF (c := 13) (Kr.fix w_8) (by decide +kernel))) (fx_f (j := 115) (Kr.fix w_8) (fx_kF (c := 13) (Kr.fix w_8) (by decide +kernel)) (by decide +kernel)) (Or.inr rfl) (by decide +kernel) (fx_kF (c := 13) (Kr.fix w_8) (by decide +kernel)) (by decide) (by first | exact Or.inl (by decide) | exact Or.inr (by decide))
  cases h
  exact hQ w_17
set_option maxHeartbeats 4000000 in
theorem kw_X12_differs {m0 : MM} {p1 : Int} {rz : Int} {rm : MM} (hF : Fix m0)
  (h : fm_X12_differs p1 m0 = some (rz, rm)) : Kr fW_X12_differs 0 0 m0 rm := by
  have hQ : Kr fW_X12_differs 0 0 m0 rm → Kr fW_X12_differs 0 0 m0 rm := id
  unfold fm_X12_differs at h
  obtain ⟨m_3, e_4, h⟩ := up_s h
  have E_7 := ext_up e_4 (And.left (fx_kF (c := 13) hF (by decide +kernel))) (by decide)
  have w_8 := Kr.upC (y := 114) (Kr.rf (W := fW_X12_differs) (e := 0) hF) e_4 (ext_up e_4 (And.left (fx_kF (c := 13) hF (by decide +kernel))) (by decide)) (And.left (fx_kF (c := 13) hF (by decide +kernel))) (fx_f (j := 114) hF (fx_kF (c := 13) hF (by decide +kernel)) (by decide +kernel)) (Or.inr rfl) (by decide +kernel) (fx_kF (c := 13) hF (by decide +kernel)) (by decide) (by first | exact Or.inl (by decide) | exact Or.inr (by decide))
  obtain ⟨m_10, e_11, h⟩ := up_s h
  have E_14 := ext_up e_11 (And.left (fx_kF (c := 13) (Kr.fix w_8) (by decide +kernel))) (by decide)
  have w_15 := Kr.upC (y := 115) w_8 e_11 (ext_up e_11 (And.left (fx_kF (c := 13) (Kr.fix w_8) (by decide +kernel))) (by decide)) (And.left (fx_kF (c := 13) (Kr.fix w_8) (by decide +kernel))) (fx_f (j := 115) (Kr.fix w_8) (fx_kF (c := 13) (Kr.fix w_8) (by decide +kernel)) (by decide +kernel)) (Or.inr rfl) (by decide +kernel) (fx_kF (c := 13) (Kr.fix w_8) (by decide +kernel)) (by decide) (by first | exact Or.inl (by decide) | exact Or.inr (by decide))
  cases h
  exact hQ w_15
set_option maxHeartbeats 4000000 in
theorem kwl_X12_nextCommand_0 {P : Prop} {mb : MM} {rz : Int} {rm : MM} (hF0 : Fix mb) (hQ : Kr fW_X12_nextCommand 0 0 mb rm → P) :
  ∀ (n : Nat) {m : MM} , Kr fW_X12_nextCommand 0 0 mb m → fl_X12_nextCommand_0 n m = some (rz, rm) → P := by
  intro n
  induction n with
  | zero => intro m w h; cases h
  | succ n ih0 =>
    intro m w h
    have ih : ∀ mq : MM, Kr fW_X12_nextCommand 0 0 mb mq → fl_X12_nextCommand_0 n mq = some (rz, rm) → P := fun mq b => by intros; exact ih0 b ‹_›
    unfold fl_X12_nextCommand_0 at h
    obtain ⟨x_4, e_5, h⟩ := lx_s h
    obtain ⟨x_9, e_10, h⟩ := lx_s h
    rcases it_s h with ⟨hp_11, h⟩ | ⟨hp_11, h⟩
    · obtain ⟨x_18, e_19, h⟩ := lx_s h
      obtain ⟨x_24, hc_23, h⟩ := bp_s h
      obtain ⟨x_37, hc_36, h⟩ := bp_s h
      rcases it_s h with ⟨hp_45, h⟩ | ⟨hp_45, h⟩
      · obtain ⟨m_56, e_57, h⟩ := up_s h
        have E_60 := ext_up e_57 (And.left (fx_kF (c := 13) (Kr.fix w) (by decide +kernel))) (by decide)
        have w_61 := Kr.upC (y := 116) w e_57 (ext_up e_57 (And.left (fx_kF (c := 13) (Kr.fix w) (by decide +kernel))) (by decide)) (And.left (fx_kF (c := 13) (Kr.fix w) (by decide +kernel))) (fx_f (j := 116) (Kr.fix w) (fx_kF (c := 13) (Kr.fix w) (by decide +kernel)) (by decide +kernel)) (Or.inr rfl) (by decide +kernel) (fx_kF (c := 13) (Kr.fix w) (by decide +kernel)) (by decide) (by first | exact Or.inl (by decide) | exact Or.inr (by decide))
        exact ih m_56 w_61 h
      · cases h
        exact hQ w
    · cases h
      exact hQ w
set_option maxHeartbeats 4000000 in
theorem kw_X12_nextCommand {m0 : MM} {rz : Int} {rm : MM} (hF : Fix m0)
  (h : fm_X12_nextCommand m0 = some (rz, rm)) : Kr fW_X12_nextCommand 0 0 m0 rm := by
  have hQ : Kr fW_X12_nextCommand 0 0 m0 rm → Kr fW_X12_nextCommand 0 0 m0 rm := id
  unfold fm_X12_nextCommand at h
  refine kwl_X12_nextCommand_0 hF  hQ BIG (Kr.rf hF) h
set_option maxHeartbeats 4000000 in
theorem kwl_X12_nextLater_0 {P : Prop} {mb : MM} {rz : Int} {rm : MM} (hF0 : Fix mb) (hQ : Kr fW_X12_nextLater 0 0 mb rm → P) :
  ∀ (n : Nat) {m : MM} , Kr fW_X12_nextLater 0 0 mb m → fl_X12_nextLater_0 n m = some (rz, rm) → P := by
  intro n
  induction n with
  | zero => intro m w h; cases h
  | succ n ih0 =>
    intro m w h
    have ih : ∀ mq : MM, Kr fW_X12_nextLater 0 0 mb mq → fl_X12_nextLater_0 n mq = some (rz, rm) → P := fun mq b => by intros; exact ih0 b ‹_›
    unfold fl_X12_nextLater_0 at h
    obtain ⟨x_4, e_5, h⟩ := lx_s h
    obtain ⟨x_12, e_13, h⟩ := lx_s h
    obtain ⟨g_16, h⟩ := gd_s h
    obtain ⟨x_18, e_19, h⟩ := lx_s h
    rcases it_s h with ⟨hp_20, h⟩ | ⟨hp_20, h⟩
    · obtain ⟨x_31, hc_30, h⟩ := bp_s h
      obtain ⟨x_44, hc_43, h⟩ := bp_s h
      rcases it_s h with ⟨hp_52, h⟩ | ⟨hp_52, h⟩
      · obtain ⟨m_63, e_64, h⟩ := up_s h
        have E_67 := ext_up e_64 (And.left (fx_kF (c := 13) (Kr.fix w) (by decide +kernel))) (by decide)
        have w_68 := Kr.upC (y := 125) w e_64 (ext_up e_64 (And.left (fx_kF (c := 13) (Kr.fix w) (by decide +kernel))) (by decide)) (And.left (fx_kF (c := 13) (Kr.fix w) (by decide +kernel))) (fx_f (j := 125) (Kr.fix w) (fx_kF (c := 13) (Kr.fix w) (by decide +kernel)) (by decide +kernel)) (Or.inr rfl) (by decide +kernel) (fx_kF (c := 13) (Kr.fix w) (by decide +kernel)) (by decide) (by first | exact Or.inl (by decide) | exact Or.inr (by decide))
        exact ih m_63 w_68 h
      · cases h
        exact hQ w
    · cases h
      exact hQ w
set_option maxHeartbeats 4000000 in
theorem kw_X12_nextLater {m0 : MM} {rz : Int} {rm : MM} (hF : Fix m0)
  (h : fm_X12_nextLater m0 = some (rz, rm)) : Kr fW_X12_nextLater 0 0 m0 rm := by
  have hQ : Kr fW_X12_nextLater 0 0 m0 rm → Kr fW_X12_nextLater 0 0 m0 rm := id
  unfold fm_X12_nextLater at h
  refine kwl_X12_nextLater_0 hF  hQ BIG (Kr.rf hF) h
end KW06
