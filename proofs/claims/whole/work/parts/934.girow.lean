/-! THE ROOM, without any plain state: what a row does. -/
section GIB
variable {m m' : MM} {al be C D a b j k r t v z kd ln s y2 : Int} {f g : Int → Int}
theorem GI.mono (h : GI al be C m) (hc : C ≤ D) : GI al be D m := ⟨h.1, by have := h.2; omega⟩
theorem GI.tok (h : GI al be C m) (okr : okc m r 6) (h4 : 4 ≤ m r 0) : okc m (m r 0) 108 ∧ 1 ≤ m (m r 0) (-2) := (h.1.1 r okr.1 okr.2.1 okr.2.2).resolve_left (by omega)
theorem mul_df {P x y T : Int} : P * x + T - (P * y + T) = P * (x - y) := by
  rw [Int.mul_sub]
  omega
/-- an entry of a row's array of parts -/
theorem GI.top (h : GI al be C m) (okr : okc m r 6) (h4 : 4 ≤ m r 0) (hk : okx m (m r 0) k) : GI al be (C + (64 * al + be) * ((if m (m r 0) k = 0 then 0 else 1) - (if v = 0 then 0 else 1))) (mset m (m r 0) k v) := by
  obtain ⟨okt, hl⟩ := h.tok okr h4
  have hne : r ≠ m r 0 := okc_ap okr okt (by decide)
  have kn : ∀ b i : Int, i < 0 → mset m (m r 0) k v b i = m b i := fun b i hi => if_neg fun hh => by have := hk.1; omega
  have k6 : ∀ q : Int, m q (-1) = 6 → q ≠ m r 0 := fun q hq hh => by rw [hh] at hq; have := okt.2.2; omega
  have er0 : mset m (m r 0) k v r 0 = m r 0 := ms_a hne
  have er1 : mset m (m r 0) k v r 1 = m r 1 := ms_a hne
  have key := h.row (m' := mset m (m r 0) k v) okr (ms_a (by omega)) (ms_a (by omega)) (fun b => kn b _ (by decide)) (fun b => kn b _ (by decide)) (fun q hq g1 g2 g3 => ⟨ms_a (k6 q g3), ms_a (k6 q g3), fun g4 i _ => ms_a (h.1.2.1 q r g1 g2 g3 okr.1 okr.2.1 okr.2.2 hq g4)⟩) (fun a g1 g2 g3 => have hh : a ≠ m r 0 := fun hh => by rw [hh] at g3; have := okt.2.2; omega
    ⟨ms_a hh, ms_a hh⟩) (by rw [er0]; exact Or.inr ⟨okt, hl⟩) (fun q hq g1 g2 g3 g4 => by
    rw [er0]
    exact fun hh => h.1.2.1 q r g1 g2 g3 okr.1 okr.2.1 okr.2.2 hq (by omega) hh)
  have e1 : rpt al be m r = (64 * al + be) * (nnz m (m r 0) - m r 1) + (2 * al + be) * m (m r 0) (-2) := if_neg (by omega)
  have e2 : rpt al be (mset m (m r 0) k v) r = (64 * al + be) * (nnz (mset m (m r 0) k v) (m r 0) - m r 1) + (2 * al + be) * m (m r 0) (-2) := by
    unfold rpt
    rw [er0, er1, kn _ (-2) (by decide), if_neg (by omega)]
  have en : nnz (mset m (m r 0) k v) (m r 0) = nnz m (m r 0) + (if v = 0 then 0 else 1) - (if m (m r 0) k = 0 then 0 else 1) := by
    unfold nnz
    rw [kn _ (-2) (by decide)]
    have := sm_one (f := fun i => if m (m r 0) i = 0 then 0 else 1) (g := fun i => if mset m (m r 0) k v (m r 0) i = 0 then 0 else 1) (n := (m (m r 0) (-2)).toNat) (r := k) hk.1 (by have := hk.2; omega) fun i _ _ hi => by
      show (if mset m (m r 0) k v (m r 0) i = 0 then (0 : Int) else 1) = if m (m r 0) i = 0 then 0 else 1
      rw [ms_j hi]
    rw [this]
    show _ + (if mset m (m r 0) k v (m r 0) k = 0 then (0 : Int) else 1) - _ = _
    rw [ms_e]
  have ed : rpt al be m r - rpt al be (mset m (m r 0) k v) r = (64 * al + be) * ((if m (m r 0) k = 0 then 0 else 1) - (if v = 0 then 0 else 1)) := by
    rw [e1, e2, mul_df, en]
    congr 1
    omega
  rw [← ed]
  exact key.mono (by omega)
/-- how many parts another row has as well -/
theorem GI.shr (h : GI al be C m) (okr : okc m r 6) : GI al be (C + (if m r 0 < 4 then 0 else (64 * al + be) * (s - m r 1))) (mset m r 1 s) := by
  have kn : ∀ b i : Int, i < 0 → mset m r 1 s b i = m b i := fun b i hi => if_neg fun hh => by omega
  have er0 : mset m r 1 s r 0 = m r 0 := ms_j (by decide)
  have key := h.row (m' := mset m r 1 s) okr (ms_a (by have := okr.1; omega)) (ms_a (by have := okr.1; omega)) (fun b => kn b _ (by decide)) (fun b => kn b _ (by decide)) (fun q hq g1 g2 g3 => ⟨ms_a hq, ms_a hq, fun g4 i _ => ms_a fun hh => by
    have := (h.tok ⟨g1, g2, g3⟩ g4).1.2.2
    rw [hh] at this
    have := okr.2.2
    omega⟩) (fun a g1 g2 g3 => have hh : a ≠ r := fun hh => by rw [hh] at g3; have := okr.2.2; omega
    ⟨ms_a hh, ms_a hh⟩) (by
    rw [er0]
    exact h.1.1 r okr.1 okr.2.1 okr.2.2) (fun q hq g1 g2 g3 g4 => by
    rw [er0] at g4 ⊢
    exact fun hh => h.1.2.1 q r g1 g2 g3 okr.1 okr.2.1 okr.2.2 hq (by omega) hh)
  by_cases c : m r 0 < 4
  · rw [if_pos c]
    have e1 : rpt al be m r = 0 := if_pos c
    have e2 : rpt al be (mset m r 1 s) r = 0 := if_pos (by rw [er0]; exact c)
    exact key.mono (by omega)
  · rw [if_neg c]
    have okt := (h.tok okr (by omega)).1
    have hne : m r 0 ≠ r := Ne.symm (okc_ap okr okt (by decide))
    have e1 : rpt al be m r = (64 * al + be) * (nnz m (m r 0) - m r 1) + (2 * al + be) * m (m r 0) (-2) := if_neg c
    have e2 : rpt al be (mset m r 1 s) r = (64 * al + be) * (nnz m (m r 0) - s) + (2 * al + be) * m (m r 0) (-2) := by
      unfold rpt
      rw [er0, ms_e, kn _ (-2) (by decide), if_neg c]
      congr 3
      unfold nnz
      rw [kn _ (-2) (by decide)]
      exact sm_ext fun i _ _ => by rw [ms_a hne]
    have ed : rpt al be m r - rpt al be (mset m r 1 s) r = (64 * al + be) * (s - m r 1) := by
      rw [e1, e2, mul_df]
      congr 1
      omega
    rw [← ed]
    exact key.mono (by omega)
theorem pz (al0 : 0 ≤ al) (be0 : 0 ≤ be) : 0 ≤ 64 * al + be := by omega
theorem gi_clone {rm : MM} {rz : Int} (hF : Fix m) (G : GI al be C m) (h : fm_J7_copyOf_c38d5 a 64 m = some (rz, rm)) : GI al be (C + (64 * al + be)) rm ∧ Fix rm ∧ Ext m rm ∧ rz = m 0 0 ∧ ∀ b i, b < m 0 0 → b ≠ 0 → rm b i = m b i := by
  unfold fm_J7_copyOf_c38d5 at h
  obtain ⟨g_3, h⟩ := gd_s h
  rcases it_s h with ⟨hp_4, h⟩ | ⟨hp_4, h⟩
  · obtain ⟨x_40, m_41, e_42, e_43, h⟩ := cl_s h
    have hl := G.1.2.2.2 a g_3.1 g_3.2.1
    rw [w32_id (by omega) (by omega)] at hp_4
    have g1 := G.cl hF g_3
    rw [← hp_4, Int.mul_comm al 64] at g1
    cases h
    rw [e_43]
    refine ⟨g1, fx_mcl hF, mcl_ext hF.p4, e_42, fun b i hb hb0 => ?_⟩
    unfold mcl
    rw [if_neg (by omega), if_neg hb0]
  · obtain ⟨g_5, h⟩ := gd_s h
    obtain ⟨x_6, m_7, e_8, e_9, h⟩ := nw_s h
    obtain ⟨x_32, hc_31, h⟩ := bp_s h
    cases h
theorem gj_cut {c : Int → MM → Option (Int × MM)} {k106 : MM → Option (Int × MM)} {p0 y3 s0 : Int} {r : Int × MM} (al0 : 0 ≤ al) (be0 : 0 ≤ be) (hF : Fix m) (okr : okc m p0 6) (G : GI al be C m) (hl : y3 < w32 (m (m p0 0) (-2))) (h : fj_X5_cut_72 c k106 p0 y2 y3 s0 m = some r) : ∃ m', c (y3 + 1) m' = some r ∧ Fix m' ∧ okc m' p0 6 ∧ m' p0 1 = m p0 1 ∧ 4 ≤ m' p0 0 ∧ GI al be (C + (64 * al + be)) m' := by
  have hP := pz al0 be0
  unfold fj_X5_cut_72 at h
  obtain ⟨x_82, e_83, h⟩ := lx_s h
  subst e_83
  rcases it_s h with ⟨hp_84, h⟩ | ⟨hp_84, h⟩
  · obtain ⟨g_87, h⟩ := gd_s h
    obtain ⟨g_88, h⟩ := gd_s h
    obtain ⟨m_89, e_90, h⟩ := up_s h
    have hlt := G.1.2.2.2 _ g_87.1 g_87.2.1
    have hw := w32_id (z := y3 + 1) (by have := g_88.1; omega) (by have := g_88.2; omega)
    rw [hw] at h
    obtain ⟨x_101, e_102, h⟩ := lx_s h
    subst e_102
    have hne : p0 ≠ m p0 0 := okc_ap okr g_87 (by decide)
    have g1 := G.top (v := 0) okr g_87.1 g_88
    rw [← e_90] at g1
    have hx := ext_up e_90 g_87.1 g_88.1
    refine ⟨m_89, h, by rw [e_90]; exact fx_a hF g_87 g_88.1 (by decide +kernel), hx.ok okr, by rw [e_90]; exact ms_a hne, by rw [e_90, ms_a hne]; exact g_87.1, g1.mono ?_⟩
    split
    · rw [if_pos rfl, Int.sub_self, Int.mul_zero]
      omega
    · rw [if_pos rfl]
      omega
  · obtain ⟨g_111, h⟩ := gd_s h
    obtain ⟨g_112, h⟩ := gd_s h
    obtain ⟨x_114, e_115, h⟩ := lx_s h
    obtain ⟨x_119, m_120, hc_118, h⟩ := bd_s h
    obtain ⟨q1, q2, q3, q4, q5⟩ := gi_clone hF G hc_118
    have h163 := hF.1
    have hlt := G.1.2.2.2 _ g_111.1 g_111.2.1
    have e0 : m_120 p0 0 = m p0 0 := q5 _ _ okr.2.1 (by have := okr.1; omega)
    have e1 : m_120 p0 1 = m p0 1 := q5 _ _ okr.2.1 (by have := okr.1; omega)
    have g_130 := q3.ok g_111
    have g_131 := q3.okx g_111 g_112
    have okr' := q3.ok okr
    obtain ⟨g_137, h⟩ := gd_s h
    obtain ⟨m_132, e_133, h⟩ := up_s h
    have hw := w32_id (z := y3 + 1) (by have := g_112.1; omega) (by have := g_112.2; omega)
    rw [hw] at h
    obtain ⟨x_145, e_146, h⟩ := lx_s h
    subst e_146
    have hne : p0 ≠ m p0 0 := okc_ap okr g_111 (by decide)
    have g1 := q1.top (k := y3) (v := x_119) okr' (by rw [e0]; exact g_111.1) (by rw [e0]; exact g_131)
    rw [e0, ← e_133] at g1
    have hx := ext_up e_133 g_130.1 g_131.1
    refine ⟨m_132, h, by rw [e_133]; exact fx_a q2 g_130 g_131.1 (by decide +kernel), hx.ok okr', by rw [e_133, ms_a hne]; exact e1, by rw [e_133, ms_a hne, e0]; exact g_111.1, g1.mono ?_⟩
    rw [if_neg (show ¬ x_119 = 0 by omega)]
    split
    · rw [show (0 : Int) - 1 = -1 by decide, Int.mul_neg, Int.mul_one]
      omega
    · rw [Int.sub_self, Int.mul_zero]
      omega
theorem gl_cut {p0 : Int} {k106 : MM → Option (Int × MM)} {r : Int × MM} {Q : Prop} (al0 : 0 ≤ al) (be0 : 0 ≤ be) (hk : ∀ (mq : MM) (j : Int), Fix mq → okc mq p0 6 → mq p0 1 = s → y2 ≤ j → (j = y2 ∨ (j ≤ s ∧ 4 ≤ mq p0 0)) → GI al be (C + (64 * al + be) * (j - y2)) mq → k106 mq = some r → Q) : ∀ (n : Nat) (j : Int) (m : MM), Fix m → okc m p0 6 → m p0 1 = s → y2 ≤ j → (j = y2 ∨ (j ≤ s ∧ 4 ≤ m p0 0)) → GI al be (C + (64 * al + be) * (j - y2)) m → fl_X5_cut_26 p0 y2 k106 n j m = some r → Q := by
  intro n
  induction n with
  | zero => intro j m _ _ _ _ _ _ h; cases h
  | succ n ih =>
    intro j m hF okr e1 hj hd G h
    have fin : ∀ {s0 : Int}, j < s → j < w32 (m (m p0 0) (-2)) → fj_X5_cut_72 (fl_X5_cut_26 p0 y2 k106 n) k106 p0 y2 j s0 m = some r → Q := fun hs hl h => by
      obtain ⟨m', g1, g2, g3, g4, g5, g6⟩ := gj_cut al0 be0 hF okr G hl h
      refine ih (j + 1) m' g2 g3 (g4.trans e1) (by omega) (Or.inr ⟨by omega, g5⟩) ?_ g1
      rw [show j + 1 - y2 = (j - y2) + 1 by omega, Int.mul_add, Int.mul_one, ← Int.add_assoc]
      exact g6
    have stp : k106 m = some r → Q := hk m j hF okr e1 hj hd G
    unfold fl_X5_cut_26 at h
    obtain ⟨x_58, e_59, h⟩ := lx_s h
    rw [e1] at e_59
    subst e_59
    rcases it_s h with ⟨hp_60, h⟩ | ⟨hp_60, h⟩
    · obtain ⟨x_64, e_65, h⟩ := lx_s h
      subst e_65
      obtain ⟨g_68, h⟩ := gd_s h
      rcases it_s h with ⟨hp_69, h⟩ | ⟨hp_69, h⟩
      · rcases it_s h with ⟨hp_70, h⟩ | ⟨hp_70, h⟩
        · obtain ⟨x_153, e_154, h⟩ := lx_s h
          rcases it_s h with ⟨hp_159, h⟩ | ⟨hp_159, h⟩
          · obtain ⟨g_167, h⟩ := gd_s h
            obtain ⟨x_169, e_170, h⟩ := lx_s h
            rcases it_s h with ⟨hp_171, h⟩ | ⟨hp_171, h⟩
            · exact fin hp_60 hp_69 h
            · exact fin hp_60 hp_69 h
          · exact fin hp_60 hp_69 h
        · exact fin hp_60 hp_69 h
      · exact stp h
    · exact stp h
theorem gi_cut {p0 p1 rz : Int} {rm : MM} (al0 : 0 ≤ al) (be0 : 0 ≤ be) (hF : Fix m) (okr : okc m p0 6) (G : GI al be C m) (h : fm_X5_cut p0 p1 m = some (rz, rm)) : GI al be C rm := by
  have hP := pz al0 be0
  unfold fm_X5_cut at h
  obtain ⟨x_4, e_5, h⟩ := lx_s h
  obtain ⟨x_9, hc_8, h⟩ := bp_s h
  obtain ⟨x_18, hc_17, h⟩ := bp_s h
  obtain ⟨m_26, e_27, h⟩ := up_s h
  have hx := ext_up e_27 okr.1 (by decide)
  have hF1 : Fix m_26 := by rw [e_27]; exact fx_f (j := 2) hF okr (by decide +kernel)
  have G1 : GI al be C m_26 := by rw [e_27]; exact G.ms okr (by decide) (by unfold saf; decide)
  obtain ⟨x_37, e_38, h⟩ := lx_s h
  obtain ⟨x_43, e_44, h⟩ := lx_s h
  refine gl_cut (C := C) (s := m_26 p0 1) al0 be0 (fun mq j f1 f2 f3 f4 f5 f6 h => ?_) BIG x_43 m_26 hF1 (hx.ok okr) rfl (Int.le_refl _) (Or.inl rfl) (by rw [Int.sub_self, Int.mul_zero]; exact G1.mono (by omega)) h
  obtain ⟨x_194, e_195, h⟩ := lx_s h
  obtain ⟨x_197, hc_196, h⟩ := bp_s h
  obtain ⟨m_205, e_206, h⟩ := up_s h
  cases h
  rw [e_206]
  refine (f6.shr f2).mono ?_
  have ex : x_197 = if x_43 < x_194 then x_43 else x_194 := by
    unfold fm_J9_min_7cf53 at hc_196
    split at hc_196 <;> rename_i c <;> cases hc_196
    · rw [if_pos c]
    · rw [if_neg c]
  have hs : x_194 = m_26 p0 1 := e_195.trans f3
  split
  · rename_i c
    have : j = x_43 := by omega
    rw [this, Int.sub_self, Int.mul_zero]
    omega
  · have hle : j - x_43 + (x_197 - mq p0 1) ≤ 0 := by
      rw [ex, f3]
      split <;> omega
    have := Int.mul_le_mul_of_nonneg_left hle hP
    rw [Int.mul_add, Int.mul_zero] at this
    omega
end GIB
