/-! THE ROOM, without any plain state: a list grows. -/
section GID
variable {m m' : MM} {al be C D a b j k r t v z kd ln s n : Int} {f g : Int → Int}
/-- one list changes -/
theorem GI.lst (h : GI al be C m) (oka : okc m a 0) (e0 : m' 0 0 = m 0 0) (e1 : m' 0 1 = m 0 1) (k1 : ∀ b, m' b (-1) = m b (-1)) (k2 : ∀ b, m' b (-2) = m b (-2)) (ka : ∀ b i, b ≠ a → m' b i = m b i) (hl : m' a 1 < m 0 0 ∧ (4 ≤ m' a 1 → m (m' a 1) (-2) ≤ 10 ∨ m (m' a 1) (-2) ≤ 2 * m' a 2)) : GI al be (C + lpt al be m a - lpt al be m' a) m' := by
  obtain ⟨⟨h1, h2, h3, h5⟩, h4⟩ := h
  have k6 : ∀ q : Int, m q (-1) = 6 → q ≠ a := fun q hq hh => by rw [hh] at hq; have := oka.2.2; omega
  have k8 : ∀ q : Int, okc m q 108 → q ≠ a := fun q hq hh => by rw [hh] at hq; have := oka.2.2; have := hq.2.2; omega
  have ko : ∀ t, okc m t 108 → okc m' t 108 := fun t g => ⟨g.1, by rw [e0]; exact g.2.1, by rw [k1]; exact g.2.2⟩
  refine ⟨⟨fun q g1 g2 g3 => ?_, fun p q g1 g2 g3 g4 g5 g6 g7 g8 => ?_, fun b g1 g2 g3 => ?_, fun a g1 g2 => by rw [e0] at g2; rw [k2]; exact h5 a g1 g2⟩, ?_⟩
  · rw [e0] at g2
    rw [k1] at g3
    rw [ka q _ (k6 q g3), k2]
    exact (h1 q g1 g2 g3).imp id fun g => ⟨ko _ g.1, g.2⟩
  · rw [e0] at g2 g5
    rw [k1] at g3 g6
    rw [ka p _ (k6 p g3)] at g8 ⊢
    rw [ka q _ (k6 q g6)]
    exact h2 p q g1 g2 g3 g4 g5 g6 g7 g8
  · rw [e0] at g2 ⊢
    rw [k1] at g3
    by_cases c : b = a
    · rw [c, k2]
      exact hl
    · rw [ka b _ c, ka b _ c, k2]
      exact h3 b g1 g2 g3
  · rw [e0, e1]
    have eo : ∀ i, own al be m' i = own al be m i := fun i => by
      unfold own
      rw [k1, k2]
    have key := sm_one (f := wt al be m) (g := wt al be m') (n := (m 0 0).toNat) (r := a) (by have := oka.1; omega) (by have := oka.2.1; omega) fun i i0 i1 hne => by
      have i2 : i < m 0 0 := by omega
      unfold wt
      by_cases c4 : i < 4
      · rw [if_pos c4, if_pos c4]
      · rw [if_neg c4, if_neg c4, k1, eo]
        by_cases c6 : m i (-1) = 6
        · rw [if_pos c6, if_pos c6]
          unfold rpt
          rw [ka i _ hne, ka i _ hne, k2]
          by_cases ct : m i 0 < 4
          · rw [if_pos ct, if_pos ct]
          · rw [if_neg ct, if_neg ct]
            have okt := ((h1 i (by omega) i2 c6).resolve_left ct).1
            have en : nnz m' (m i 0) = nnz m (m i 0) := by
              unfold nnz
              rw [k2]
              exact sm_ext fun k k0 _ => by rw [ka _ _ (k8 _ okt)]
            rw [en]
        · rw [if_neg c6, if_neg c6]
          by_cases c0 : m i (-1) = 0
          · rw [if_pos c0, if_pos c0]
            unfold lpt
            rw [ka i _ hne, k2]
          · rw [if_neg c0, if_neg c0]
    have w1 : ∀ q : MM, q a (-1) = 0 → wt al be q a = lpt al be q a + own al be q a := fun q hq => by
      unfold wt
      rw [if_neg (show ¬ a < 4 by have := oka.1; omega), if_neg (show ¬ q a (-1) = 6 by omega), if_pos hq]
    have a1 := w1 m oka.2.2
    have a2 := w1 m' (by rw [k1]; exact oka.2.2)
    have a3 := eo a
    omega
theorem GI.cp (h : GI al be C m) (hF : Fix m) (hl : 0 ≤ n ∧ n < 2147483648) : GI al be (C + (al * n + be)) (mcp m a n) := by
  have h163 := hF.1
  have l1 : mcp m a n (m 0 0) (-1) = 107 := by
    unfold mcp
    rw [if_pos rfl, if_pos rfl]
  have l2 : mcp m a n (m 0 0) (-2) = n := by
    unfold mcp
    rw [if_pos rfl, if_neg (by decide), if_pos rfl]
  have g2 : mcp m a n 0 0 = m 0 0 + 1 ∧ mcp m a n 0 1 = m 0 1 + n := by
    unfold mcp
    exact ⟨by rw [if_neg (by omega), if_pos rfl, if_pos rfl], by rw [if_neg (by omega), if_pos rfl, if_neg (by decide), if_pos rfl]⟩
  refine h.xt (m' := mcp m a n) h163 g2.1 ?_ (fun b i hb hb0 => by unfold mcp; rw [if_neg (by omega), if_neg hb0]) (fun hh => by rw [l1] at hh; omega) (fun hh => by rw [l1] at hh; omega) (by rw [l2]; exact hl)
  rw [g2.2, Int.mul_add, wt_new h163 (fun hh => by rw [l1] at hh; omega) (fun hh => by rw [l1] at hh; omega), own_z h163 (by rw [l1]; omega)]
  omega
/-- a list gets another array -/
theorem GI.la (h : GI al be C m) (oka : okc m a 0) (hz : okc m z 107) (hl : m z (-2) ≤ 10 ∨ m z (-2) ≤ 2 * m a 2) : GI al be (C + lpt al be m a - (4 * al + be) * m z (-2)) (mset m a 1 z) := by
  have kn : ∀ b i : Int, i < 0 → mset m a 1 z b i = m b i := fun b i hi => if_neg fun hh => by omega
  have key := h.lst (m' := mset m a 1 z) oka (ms_a (by have := oka.1; omega)) (ms_a (by have := oka.1; omega)) (fun b => kn b _ (by decide)) (fun b => kn b _ (by decide)) (fun b i hb => ms_a hb) (by
    rw [ms_e, ms_j (by decide)]
    exact ⟨hz.2.1, fun _ => hl⟩)
  have e2 : lpt al be (mset m a 1 z) a = (4 * al + be) * m z (-2) := by
    unfold lpt
    rw [ms_e, kn _ (-2) (by decide), if_neg (by have := hz.1; omega)]
  rw [← e2]
  exact key
theorem GI.ls (h : GI al be C m) (oka : okc m a 0) (hs : m a 2 ≤ s) : GI al be C (mset m a 2 s) := by
  have kn : ∀ b i : Int, i < 0 → mset m a 2 s b i = m b i := fun b i hi => if_neg fun hh => by omega
  have key := h.lst (m' := mset m a 2 s) oka (ms_a (by have := oka.1; omega)) (ms_a (by have := oka.1; omega)) (fun b => kn b _ (by decide)) (fun b => kn b _ (by decide)) (fun b i hb => ms_a hb) (by
    rw [ms_e, ms_j (by decide)]
    obtain ⟨u1, u2⟩ := h.1.2.2.1 a oka.1 oka.2.1 oka.2.2
    exact ⟨u1, fun u3 => by have := u2 u3; omega⟩)
  have e2 : lpt al be (mset m a 2 s) a = lpt al be m a := by
    unfold lpt
    rw [ms_j (by decide), kn _ (-2) (by decide)]
  rw [e2] at key
  exact key.mono (by omega)
theorem gi_grow {p0 p1 rz : Int} {rm : MM} (al0 : 0 ≤ al) (be0 : 0 ≤ be) (hF : Fix m) (oka : okc m p0 0) (G : GI al be C m) (hs : m p0 2 = w32 (m (m p0 1) (-2))) (h1 : p1 = w32 (m p0 2 + 1)) (h : fm_Jx4a65c_grow_92f84 p0 p1 m = some (rz, rm)) : GI al be C rm ∧ Fix rm ∧ okc rm p0 0 ∧ rm p0 2 = m p0 2 := by
  have h163 := hF.1
  have big : ∀ {y : Int}, 0 ≤ y → y = w32 (m (m p0 1) (-2)) → fj_Jx4a65c_grow_92f84_20 p0 p1 y m = some (rz, rm) → GI al be C rm ∧ Fix rm ∧ okc rm p0 0 ∧ rm p0 2 = m p0 2 := fun {y} hy ey h => by
    unfold fj_Jx4a65c_grow_92f84_20 at h
    obtain ⟨x_25, hc_24, h⟩ := bp_s h
    obtain ⟨x_40, e_41, h⟩ := lx_s h
    obtain ⟨x_43, m_44, hc_42, h⟩ := bd_s h
    obtain ⟨m_55, e_56, h⟩ := up_s h
    cases h
    have w := fw_J7_copyOf_1904c hF hc_42
    unfold fm_J7_copyOf_1904c at hc_42
    obtain ⟨hk, hc_42⟩ := @gd_s _ _ (Classical.propDecidable _) _ _ hc_42
    cases hc_42
    obtain ⟨q1, q2, q3, q4, -⟩ := hk
    subst e_41
    have q5 := G.1.2.2.2 _ q1.1 q1.2.1
    have ew : w32 (m (m p0 1) (-2)) = m (m p0 1) (-2) := w32_id (by omega) (by omega)
    have hN : x_25 = y + (if y / 2 < 1 then 1 else y / 2) := by
      unfold fm_J8_newLength_cabcc at hc_24
      obtain ⟨x_2, hm, hc_24⟩ := bp_s hc_24
      rw [iShr_1 (by omega) (by omega)] at hm
      have ep : w32 (p1 - y) = 1 := by
        by_cases c : y + 1 < 2147483648
        · rw [h1, hs, ← ey, w32_id (z := y + 1) (by omega) c, show y + 1 - y = 1 by omega]
          exact w32_id (by decide) (by decide)
        · have e3 : y = 2147483647 := by omega
          rw [h1, hs, ← ey, e3]
          decide
      rw [ep] at hm
      have em : x_2 = if y / 2 < 1 then 1 else y / 2 := by
        unfold fm_J9_max_7cf53 at hm
        split at hm <;> rename_i c <;> cases hm <;> split <;> omega
      have e2b : 1 ≤ x_2 ∧ x_2 ≤ y + 1 := by
        rw [em]
        split <;> omega
      obtain ⟨x_12, e_12, hc_24⟩ := lx_s hc_24
      have hug : fj_J8_newLength_cabcc_21 y 1 m = some x_25 → False := fun hh => by
        unfold fj_J8_newLength_cabcc_21 at hh
        obtain ⟨x_24, hh2, hh⟩ := bp_s hh
        cases hh
        unfold fm_J8_hugeLength_7cf53 at hh2
        obtain ⟨x_3, e_3, hh2⟩ := lx_s hh2
        rcases it_s hh2 with ⟨c1, hh2⟩ | ⟨c1, hh2⟩
        · cases hh2
        · rcases it_s hh2 with ⟨c2, hh2⟩ | ⟨c2, hh2⟩
          · cases hh2
            omega
          · cases hh2
            omega
      rw [ep] at hc_24
      rcases it_s hc_24 with ⟨c1, hc_24⟩ | ⟨c1, hc_24⟩
      · rcases it_s hc_24 with ⟨c2, hc_24⟩ | ⟨c2, hc_24⟩
        · exact (hug hc_24).elim
        · cases hc_24
          by_cases c : y + x_2 < 2147483648
          · rw [e_12, w32_id (by omega) c, em]
          · exfalso
            unfold w32 at e_12
            rw [Int.bmod_def] at e_12
            split at e_12 <;> omega
      · exact (hug hc_24).elim
    have G1 := G.cp (a := m p0 1) hF (n := x_25) ⟨q2, by omega⟩
    have hx : Ext m (mcp m (m p0 1) x_25) := w.ext
    have ko : ∀ b i : Int, b < m 0 0 → b ≠ 0 → mcp m (m p0 1) x_25 b i = m b i := fun b i hb hb0 => by unfold mcp; rw [if_neg (by omega), if_neg hb0]
    have l1 : mcp m (m p0 1) x_25 (m 0 0) (-1) = 107 := by
      unfold mcp
      rw [if_pos rfl, if_pos rfl]
    have l2 : mcp m (m p0 1) x_25 (m 0 0) (-2) = x_25 := by
      unfold mcp
      rw [if_pos rfl, if_neg (by decide), if_pos rfl]
    have l0 : mcp m (m p0 1) x_25 0 0 = m 0 0 + 1 := by
      unfold mcp
      rw [if_neg (by omega), if_pos rfl, if_pos rfl]
    have p2 : ∀ i, mcp m (m p0 1) x_25 p0 i = m p0 i := fun i => ko _ _ oka.2.1 (by have := oka.1; omega)
    have G2 := G1.la (z := m 0 0) (hx.ok oka) ⟨by omega, by omega, l1⟩ (by
      rw [l2, p2]
      by_cases c : y = 0
      · refine Or.inl ?_
        rw [hN]
        split <;> omega
      · refine Or.inr ?_
        rw [hN]
        split <;> omega)
    rw [← e_56] at G2
    have hx2 := ext_up e_56 oka.1 (by decide)
    refine ⟨G2.mono ?_, by rw [e_56]; exact fx_f (j := 1) w.fix (hx.ok oka) (by decide +kernel), hx2.ok (hx.ok oka), by rw [e_56, ms_j (by decide)]; exact p2 2⟩
    have el : lpt al be (mcp m (m p0 1) x_25) p0 = (4 * al + be) * y := by
      unfold lpt
      rw [p2, ko _ _ q1.2.1 (by have := q1.1; omega), if_neg (by have := q1.1; omega), ey, ew]
    rw [el, l2]
    have hd : 1 ≤ x_25 - y ∧ x_25 ≤ 4 * (x_25 - y) := by
      rw [hN]
      split <;> omega
    have u1 : be * 1 ≤ be * (x_25 - y) := Int.mul_le_mul_of_nonneg_left hd.1 be0
    have u2 : al * x_25 ≤ al * (4 * (x_25 - y)) := Int.mul_le_mul_of_nonneg_left hd.2 al0
    have u3 : (4 * al + be) * x_25 = (4 * al + be) * y + (4 * al + be) * (x_25 - y) := by rw [← Int.mul_add]; congr 1; omega
    have u4 : (4 * al + be) * (x_25 - y) = al * (4 * (x_25 - y)) + be * (x_25 - y) := by rw [Int.add_mul, Int.mul_comm 4 al, Int.mul_assoc]
    omega
  unfold fm_Jx4a65c_grow_92f84 at h
  obtain ⟨x_4, e_5, h⟩ := lx_s h
  subst e_5
  obtain ⟨g_8, h⟩ := gd_s h
  obtain ⟨x_9, e_10, h⟩ := lx_s h
  rcases it_s h with ⟨hp_17, h⟩ | ⟨hp_17, h⟩
  · exact big (Int.le_of_lt hp_17) e_10 h
  · obtain ⟨g_68, h⟩ := gd_s h
    rcases it_s h with ⟨hp_67, h⟩ | ⟨hp_67, h⟩
    · obtain ⟨x_72, hc_71, h⟩ := bp_s h
      obtain ⟨g_80, h⟩ := gd_s h
      obtain ⟨x_81, m_82, e_83, e_84, h⟩ := nw_s h
      obtain ⟨m_95, e_96, h⟩ := up_s h
      cases h
      have hx : Ext m m_82 := ext_nw hF e_84
      have ko : ∀ b i : Int, b < m 0 0 → b ≠ 0 → m_82 b i = m b i := fun b i h1 h2 => by rw [e_84]; exact mn_o (by omega) h2
      have G1 : GI al be (C + (al * x_72 + be)) m_82 := by rw [e_84]; exact G.nwz (kd := 107) hF (by omega) (by decide)
      have okz : okc m_82 rz 107 := okc_nwF (c := 107) hF e_83 e_84
      have el : m_82 rz (-2) = x_72 := by rw [e_84, e_83]; exact mn_l
      have p2 : ∀ i, m_82 p0 i = m p0 i := fun i => ko _ _ oka.2.1 (by have := oka.1; omega)
      have e10 : x_72 = 10 := by
        have : p1 ≤ 1 := by
          rw [h1]
          by_cases c : -2147483649 ≤ m p0 2
          · rw [w32_id (by omega) (by omega)]
            omega
          · unfold w32
            rw [Int.bmod_def]
            have h9 : -2147483648 ≤ m p0 2 := by
              rw [hs]
              unfold w32
              rw [Int.bmod_def]
              split <;> omega
            omega
        unfold fm_J9_max_7cf53 at hc_71
        split at hc_71 <;> rename_i c <;> cases hc_71 <;> omega
      have G2 := G1.la (z := rz) (hx.ok oka) okz (Or.inl (by omega))
      rw [← e_96] at G2
      have hx2 := ext_up e_96 oka.1 (by decide)
      refine ⟨G2.mono ?_, by rw [e_96]; exact fx_f (j := 1) (by rw [e_84]; exact fx_mnew hF) (hx.ok oka) (by decide +kernel), hx2.ok (hx.ok oka), by rw [e_96, ms_j (by decide)]; exact p2 2⟩
      have e0 : lpt al be m_82 p0 = 0 := if_pos (by rw [p2]; omega)
      rw [e0, el, e10]
      omega
    · have h4 := g_8.resolve_left hp_67
      have q5 := G.1.2.2.2 _ h4.1 h4.2.1
      rw [w32_id (by omega) (by omega)] at e_10
      exact big (by omega) (by rw [w32_id (by omega) (by omega)]; exact e_10) h
theorem gi_ladd {p0 p1 rz : Int} {rm : MM} (al0 : 0 ≤ al) (be0 : 0 ≤ be) (hF : Fix m) (oka : okc m p0 0) (G : GI al be C m) (h : fm_Jx4a65c_add_9ea2d p0 p1 m = some (rz, rm)) : GI al be C rm := by
  unfold fm_Jx4a65c_add_9ea2d at h
  obtain ⟨x_4, e_5, h⟩ := lx_s h
  obtain ⟨m_10, e_11, h⟩ := up_s h
  obtain ⟨x_21, e_22, h⟩ := lx_s h
  obtain ⟨x_26, e_27, h⟩ := lx_s h
  obtain ⟨x_29, m_30, hc, h⟩ := bd_s h
  cases h
  have hx := ext_up e_11 oka.1 (by decide)
  have G1 : GI al be C m_10 := by rw [e_11]; exact G.ms oka (by decide) (by unfold saf; decide)
  have hF1 : Fix m_10 := by rw [e_11]; exact fx_f (j := 0) hF oka (by decide +kernel)
  have oka1 := hx.ok oka
  have jn : ∀ {q : MM} {y : Int}, GI al be C q → okc q p0 0 → q p0 2 = x_26 → fj_Jx4a65c_add_72be8_11 p0 p1 y x_26 q = some (x_29, rm) → GI al be C rm := fun {q y} G2 ok2 e2 h => by
    unfold fj_Jx4a65c_add_72be8_11 at h
    obtain ⟨g_1, h⟩ := gd_s h
    obtain ⟨g_2, h⟩ := gd_s h
    obtain ⟨g_3, h⟩ := gd_s h
    obtain ⟨m_7, e_8, h⟩ := up_s h
    obtain ⟨m_20, e_21, h⟩ := up_s h
    cases h
    have hl := G2.1.2.2.2 _ g_1.1 g_1.2.1
    have hx2 := ext_up e_8 g_1.1 g_2.1
    have G3 : GI al be C m_7 := by rw [e_8]; exact G2.ms g_1 g_2.1 (by unfold saf; exact ⟨Or.inl (by decide), by decide, Or.inl (by decide)⟩)
    rw [e_21]
    refine G3.ls (hx2.ok ok2) ?_
    rw [e_8, ms_a (okc_ap ok2 g_1 (by decide)), e2, w32_id (by have := g_2.1; omega) (by have := g_2.2; omega)]
    omega
  unfold fm_Jx4a65c_add_72be8 at hc
  obtain ⟨g_2, hc⟩ := gd_s hc
  rcases it_s hc with ⟨hp, hc⟩ | ⟨hp, hc⟩
  · obtain ⟨x_28, m_29, hc_2, hc⟩ := bd_s hc
    unfold fm_Jx4a65c_grow_d5877 at hc_2
    obtain ⟨x_5, e_6, hc_2⟩ := lx_s hc_2
    obtain ⟨x_11, m_12, hc_3, hc_2⟩ := bd_s hc_2
    cases hc_2
    obtain ⟨g1, g2, g3, g4⟩ := gi_grow al0 be0 hF1 oka1 G1 (by rw [← e_27, ← e_22]; exact hp) (by rw [e_6]) hc_3
    exact jn g1 g3 (by rw [g4, e_27]) hc
  · exact jn G1 oka1 e_27.symm hc
end GID
