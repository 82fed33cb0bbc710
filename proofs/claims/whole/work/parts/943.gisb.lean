/-! THE ROOM, without any plain state: setBack; what it asks of the new run's row is a premise yet. -/
section GIF
variable {m m' : MM} {al be C D a b j k r t v z kd ln s n : Int}
/-- row p is as it was made; row q has all parts that it needs -/
def BFok (m : MM) (p q : Int) : Prop := p ≠ q ∧ m p 1 = 0 ∧ 4 ≤ m p 0 ∧ nnz m (m p 0) = 0 ∧ m (m p 0) (-2) = 1 ∧ (0 ≤ m q 2 ∧ m q 2 < 536870912) ∧ ∀ i, 0 ≤ i → 64 * (i + 1) ≤ m q 2 → m (m q 0) i ≠ 0
theorem gi_bf2 {p0 p1 p2 rz : Int} {rm : MM} (al0 : 0 ≤ al) (be0 : 0 ≤ be) (hF : Fix m) (g0 : okc m p0 3) (G : GI al be C m) (hb : BFok m (m p0 0) (m p1 0)) (h : fm_X2_becomeFirst p0 p1 p2 m = some (rz, rm)) : GI al be (C + (al + be)) rm ∧ Fix rm := by
  have w0 := fw_X2_becomeFirst hF g0 h
  unfold fm_X2_becomeFirst at h
  obtain ⟨x_4, e_5, h⟩ := lx_s h
  obtain ⟨g_8, h⟩ := gd_s h
  obtain ⟨x_10, e_11, h⟩ := lx_s h
  obtain ⟨g_12, h⟩ := gd_s h
  obtain ⟨x_14, m_15, hc_13, h⟩ := bd_s h
  obtain ⟨x_27, m_28, hc_26, h⟩ := bd_s h
  cases h
  subst e_5 e_11
  obtain ⟨b1, b2, b3, b4, b5, b6, b7⟩ := hb
  have w := fw_X5_becomeFirst hF g_12 hc_13
  have G1 := gi_bf al0 be0 hF g_12 G b1 b2 b3 b4 b5 b6 b7 hc_13
  exact ⟨(gw_X2_countAgain w.fix (w.ext.ok g0) hc_26).2 _ _ _ al0 be0 G1, w0.fix⟩
theorem gi_setBack {p1 p2 : Int} {rr : Int ⊕ Nat} {rm : MM} (al0 : 0 ≤ al) (be0 : 0 ≤ be) (hF : Fix m) (G : GI al be C m) (hb : ∀ (x z a1 a2 a3 a4 a5 : Int) (m1 m2 : MM), fm_X11_runAt p1 m = some (.inl x, m1) → fm_X11_addRun a1 a2 a3 a4 a5 m1 = some (z, m2) → BFok (mset m2 x 6 5) (mset m2 x 6 5 (mset m2 x 6 5 z 16) 0) (mset m2 x 6 5 (mset m2 x 6 5 x 16) 0)) (h : fm_X11_setBack p1 p2 m = some (rr, rm)) : GI al be (C + (al + be)) rm := by
  have up : ∀ {q : MM}, GI al be C q → GI al be (C + (al + be)) q := fun g => g.mono (by omega)
  unfold fm_X11_setBack at h
  obtain ⟨rr5, m_3, hc_1, h⟩ := bx_s h
  have w1 := gw_X11_runAt hF hc_1
  have G1 := w1.2 _ _ _ al0 be0 G
  rcases h with ⟨q_10, rfl, h⟩ | ⟨x_2, rfl, h⟩
  · cases h
    exact up G1
  obtain ⟨g_24, h⟩ := gd_s h
  obtain ⟨x_26, e_27, h⟩ := lx_s h
  obtain ⟨g_28, h⟩ := gd_s h
  obtain ⟨x_30, hc_29, h⟩ := bp_s h
  rcases it_s h with ⟨hp_43, h⟩ | ⟨hp_43, h⟩
  · cases h
    exact up (G1.thr w1.fix)
  · obtain ⟨x_45, hc_44, h⟩ := bp_s h
    rcases it_s h with ⟨hp_53, h⟩ | ⟨hp_53, h⟩
    · cases h
      exact up (G1.thr w1.fix)
    · obtain ⟨x_58, hc_57, h⟩ := bp_s h
      rcases it_s h with ⟨hp_68, h⟩ | ⟨hp_68, h⟩
      · obtain ⟨x_72, e_73, h⟩ := lx_s h
        obtain ⟨x_77, e_78, h⟩ := lx_s h
        obtain ⟨x_82, e_83, h⟩ := lx_s h
        obtain ⟨x_87, e_88, h⟩ := lx_s h
        obtain ⟨x_92, e_93, h⟩ := lx_s h
        obtain ⟨x_95, m_96, hc_94, h⟩ := bd_s h
        have w2 := gw_X11_addRun w1.fix hc_94
        have G2 := w2.2 _ _ _ al0 be0 G1
        have g_114 := w2.ext.ok g_24
        obtain ⟨m_115, e_116, h⟩ := up_s h
        have G3 : GI al be C m_115 := by rw [e_116]; exact G2.ms g_114 (by decide) (saf_k (by decide))
        have F3 : Fix m_115 := by rw [e_116]; exact fx_f (j := 6) w2.fix g_114 (by decide +kernel)
        obtain ⟨g_124, h⟩ := gd_s h
        obtain ⟨x_126, e_127, h⟩ := lx_s h
        obtain ⟨x_132, e_133, h⟩ := lx_s h
        obtain ⟨g_138, h⟩ := gd_s h
        obtain ⟨x_140, m_141, hc_139, h⟩ := bd_s h
        have hB := hb _ _ _ _ _ _ _ _ _ hc_1 hc_94
        rw [← e_116, ← e_127, ← e_133] at hB
        obtain ⟨G4, F4⟩ := gi_bf2 al0 be0 F3 g_138 G3 hB hc_139
        obtain ⟨x_152, m_153, hc_151, h⟩ := bd_s h
        have w5 := gw_X11_endWork F4 hc_151
        have G5 := w5.2 _ _ _ al0 be0 G4
        obtain ⟨x_167, e_168, h⟩ := lx_s h
        obtain ⟨x_172, m_173, hc_171, h⟩ := bd_s h
        have w6 := gw_X11_partFromChildren w5.fix hc_171
        have G6 := w6.2 _ _ _ al0 be0 G5
        obtain ⟨x_184, m_185, hc_183, h⟩ := bd_s h
        have w7 := gw_X11_restoreWork w6.fix hc_183
        have G7 := w7.2 _ _ _ al0 be0 G6
        obtain ⟨x_199, e_200, h⟩ := lx_s h
        obtain ⟨x_206, m_207, hc_205, h⟩ := bd_s h
        have w8 := gw_X11_sendSignals w7.fix hc_205
        have G8 := w8.2 _ _ _ al0 be0 G7
        obtain ⟨x_221, e_222, h⟩ := lx_s h
        cases h
        exact G8
      · cases h
        exact up (G1.thr w1.fix)
end GIF
