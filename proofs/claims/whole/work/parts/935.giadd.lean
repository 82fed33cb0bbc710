/-! THE ROOM, without any plain state: a row is made, a number is put behind it. -/
section GIC
variable {m m' : MM} {al be C D a b j k r t v z kd ln s y2 : Int} {f g : Int → Int}
theorem sm_mn {n : Nat} (h : ∀ i : Int, 0 ≤ f i) : ∀ d : Nat, sm f n ≤ sm f (n + d) := by
  intro d
  induction d with
  | zero => exact Int.le_refl _
  | succ d ih =>
    show sm f n ≤ sm f (n + d) + f ((n + d : Nat) : Int)
    have := h ((n + d : Nat) : Int)
    omega
theorem nnz_le (h1 : 0 ≤ m t (-2)) (h2 : m t (-2) ≤ m z (-2)) (h : ∀ i : Int, 0 ≤ i → i < m t (-2) → m z i = m t i) : nnz m t ≤ nnz m z := by
  have e1 : nnz m t = sm (fun k => if m z k = 0 then 0 else 1) (m t (-2)).toNat := sm_ext fun i i0 i1 => by
    show (if m t i = 0 then (0 : Int) else 1) = if m z i = 0 then 0 else 1
    rw [h i i0 (by omega)]
  rw [e1]
  have := sm_mn (f := fun k => if m z k = 0 then 0 else 1) (n := (m t (-2)).toNat) (fun i => by show (0 : Int) ≤ if m z i = 0 then 0 else 1; split <;> decide) ((m z (-2)).toNat - (m t (-2)).toNat)
  rw [show (m t (-2)).toNat + ((m z (-2)).toNat - (m t (-2)).toNat) = (m z (-2)).toNat by omega] at this
  exact this
theorem nnz_0 (h : ∀ i : Int, 0 ≤ i → m z i = 0) : nnz m z = 0 := sm_z (fun i i0 => if_pos (h i i0)) _
/-- a row gets another array of parts -/
theorem GI.tp (h : GI al be C m) (okr : okc m r 6) (okz : okc m z 108) (hz : 1 ≤ m z (-2)) (hn : ∀ q, 4 ≤ q → q < m 0 0 → m q (-1) = 6 → m q 0 ≠ z) : GI al be (C + rpt al be m r - ((64 * al + be) * (nnz m z - m r 1) + (2 * al + be) * m z (-2))) (mset m r 0 z) := by
  have kn : ∀ b i : Int, i < 0 → mset m r 0 z b i = m b i := fun b i hi => if_neg fun hh => by omega
  have hne : z ≠ r := Ne.symm (okc_ap okr okz (by decide))
  have key := h.row (m' := mset m r 0 z) okr (ms_a (by have := okr.1; omega)) (ms_a (by have := okr.1; omega)) (fun b => kn b _ (by decide)) (fun b => kn b _ (by decide)) (fun q hq g1 g2 g3 => ⟨ms_a hq, ms_a hq, fun g4 i _ => ms_a fun hh => by
    have := (h.tok ⟨g1, g2, g3⟩ g4).1.2.2
    rw [hh] at this
    have := okr.2.2
    omega⟩) (fun a g1 g2 g3 => have hh : a ≠ r := fun hh => by rw [hh] at g3; have := okr.2.2; omega
    ⟨ms_a hh, ms_a hh⟩) (by
    rw [ms_e]
    exact Or.inr ⟨okz, hz⟩) (fun q hq g1 g2 g3 _ => by
    rw [ms_e]
    exact hn q g1 g2 g3)
  have e2 : rpt al be (mset m r 0 z) r = (64 * al + be) * (nnz m z - m r 1) + (2 * al + be) * m z (-2) := by
    unfold rpt
    rw [ms_e, ms_j (by decide), kn _ (-2) (by decide), if_neg (by have := okz.1; omega)]
    congr 3
    unfold nnz
    rw [kn _ (-2) (by decide)]
    exact sm_ext fun i _ _ => by rw [ms_a hne]
  rw [← e2]
  exact key
theorem gj_add112 {p0 y1 y3 y4 rz : Int} {rm : MM} (okr : okc m p0 6) (G : GI al be C m) (h : fj_X5_add_112 p0 y1 y3 y4 m = some (rz, rm)) : GI al be C rm := by
  unfold fj_X5_add_112 at h
  obtain ⟨x_65, e_66, h⟩ := lx_s h
  obtain ⟨g_70, h⟩ := gd_s h
  obtain ⟨g_71, h⟩ := gd_s h
  obtain ⟨x_72, e_73, h⟩ := lx_s h
  obtain ⟨g_76, h⟩ := gd_s h
  rcases it_s h with ⟨hp, h⟩ | ⟨hp, h⟩
  · obtain ⟨g_84, h⟩ := gd_s h
    obtain ⟨g_85, h⟩ := gd_s h
    obtain ⟨m_86, e_87, h⟩ := up_s h
    obtain ⟨x_97, e_98, h⟩ := lx_s h
    obtain ⟨m_103, e_104, h⟩ := up_s h
    cases h
    have hx := ext_up e_87 g_76.1 g_84.1
    have G1 : GI al be C m_86 := by rw [e_87]; exact G.ms g_76 g_84.1 (by unfold saf; exact ⟨Or.inl (by decide), by decide, Or.inl (by decide)⟩)
    rw [e_104]
    exact G1.ms (hx.ok okr) (by decide) (by unfold saf; decide)
  · cases h
    exact G
theorem gj_add83 {p0 y1 y3 y4 rz : Int} {rm : MM} (hF : Fix m) (okr : okc m p0 6) (G : GI al be C m) (h : fj_X5_add_83 p0 y1 y3 y4 m = some (rz, rm)) : GI al be C rm := by
  unfold fj_X5_add_83 at h
  obtain ⟨x_46, e_47, h⟩ := lx_s h
  subst e_47
  obtain ⟨g_50, h⟩ := gd_s h
  rcases it_s h with ⟨hp_51, h⟩ | ⟨hp_51, h⟩
  · obtain ⟨g_57, h⟩ := gd_s h
    obtain ⟨x_59, e_60, h⟩ := lx_s h
    rcases it_s h with ⟨hp_61, h⟩ | ⟨hp_61, h⟩
    · obtain ⟨x_115, m_116, e_117, e_118, h⟩ := nw_s h
      have h163 := hF.1
      have hx : Ext m m_116 := ext_nw hF e_118
      have G1 : GI al be (C + (al * 64 + be)) m_116 := by rw [e_118]; exact G.nwz (kd := 101) hF (by decide) (by decide)
      obtain ⟨m_130, e_131, h⟩ := up_s h
      have e0 : ∀ i, m_116 p0 i = m p0 i := fun i => by rw [e_118]; exact mn_o (by have := okr.2.1; omega) (by have := okr.1; omega)
      have et : ∀ i, m_116 (m p0 0) i = m (m p0 0) i := fun i => by rw [e_118]; exact mn_o (by have := g_50.2.1; omega) (by have := g_50.1; omega)
      have G2 := G1.top (k := y3) (v := x_115) (hx.ok okr) (by rw [e0]; exact g_50.1) (by rw [e0]; exact hx.okx g_50 g_57)
      rw [e0, et, ← e_131] at G2
      have hx2 := ext_up e_131 (hx.ok g_50).1 g_57.1
      refine gj_add112 ((hx.tr hx2).ok okr) (G2.mono ?_) h
      rw [if_pos (show m (m p0 0) y3 = 0 by omega), if_neg (show ¬ x_115 = 0 by omega), show (0 : Int) - 1 = -1 by decide, Int.mul_neg, Int.mul_one, Int.mul_comm al 64]
      omega
    · exact gj_add112 okr G h
  · cases h
    exact G
/-- the loop that copies: the new array has what the old one has -/
theorem gl_add {p0 y1 y3 y4 L len : Int} {k77 : MM → Option (Int × MM)} {r : Int × MM} {Q : Prop} (hk : ∀ mq : MM, Fix mq → okc mq p0 6 → okc mq z 108 → mq z (-2) = len → mq p0 0 = t → okc mq t 108 → mq t (-2) = L → (∀ q, 4 ≤ q → q < mq 0 0 → mq q (-1) = 6 → mq q 0 ≠ z) → (∀ i, 0 ≤ i → i < L → mq z i = mq t i) → GI al be C mq → k77 mq = some r → Q) (hL : L ≤ len) (hzt : z ≠ t) (hz : 163 ≤ z) : ∀ (n : Nat) (y : Int) (m : MM), Fix m → okc m p0 6 → okc m z 108 → m z (-2) = len → m p0 0 = t → okc m t 108 → m t (-2) = L → (∀ q, 4 ≤ q → q < m 0 0 → m q (-1) = 6 → m q 0 ≠ z) → (∀ i, 0 ≤ i → i < y → m z i = m t i) → GI al be C m → fl_X5_add_41 p0 y1 y3 y4 z k77 n y m = some r → Q := by
  intro n
  induction n with
  | zero => intro y m _ _ _ _ _ _ _ _ _ _ h; cases h
  | succ n ih =>
    intro y m hF okr okz ez e0 okt et hq hc G h
    have l1 := G.1.2.2.2 t okt.1 okt.2.1
    have l2 := G.1.2.2.2 z okz.1 okz.2.1
    have stp : L ≤ y → k77 m = some r → Q := fun hy => hk m hF okr okz ez e0 okt et hq (fun i i0 i1 => hc i i0 (by omega)) G
    unfold fl_X5_add_41 at h
    obtain ⟨x_181, e_182, h⟩ := lx_s h
    rw [e0] at e_182
    subst e_182
    obtain ⟨g_185, h⟩ := gd_s h
    rw [w32_id (z := m x_181 (-2)) (by omega) (by omega)] at h
    rcases it_s h with ⟨hp_186, h⟩ | ⟨hp_186, h⟩
    · obtain ⟨g_189, h⟩ := gd_s h
      rw [w32_id (z := m z (-2)) (by omega) (by omega)] at h
      rcases it_s h with ⟨hp_190, h⟩ | ⟨hp_190, h⟩
      · obtain ⟨g_196, h⟩ := gd_s h
        obtain ⟨x_198, e_199, h⟩ := lx_s h
        obtain ⟨g_200, h⟩ := gd_s h
        obtain ⟨g_206, h⟩ := gd_s h
        obtain ⟨m_201, e_202, h⟩ := up_s h
        have hx := ext_up e_202 okz.1 g_200.1
        have hw := w32_id (z := y + 1) (by have := g_196.1; omega) (by have := g_196.2; omega)
        rw [hw] at h
        obtain ⟨x_214, e_215, h⟩ := lx_s h
        subst e_215
        have kn : ∀ b i : Int, i < 0 → m_201 b i = m b i := fun b i hi => by rw [e_202]; exact if_neg fun hh => by have := g_200.1; omega
        have ka : ∀ b i : Int, b ≠ z → m_201 b i = m b i := fun b i hb => by rw [e_202]; exact ms_a hb
        have hpz : p0 ≠ z := okc_ap okr okz (by decide)
        have k6 : ∀ q : Int, m q (-1) = 6 → q ≠ z := fun q hq hh => by rw [hh] at hq; have := okz.2.2; omega
        have e00 : m_201 0 0 = m 0 0 := ka _ _ (by omega)
        refine ih (y + 1) m_201 (by rw [e_202]; exact fx_a hF okz g_200.1 (by decide +kernel)) (hx.ok okr) (hx.ok okz) (by rw [kn _ _ (by decide)]; exact ez) (by rw [ka _ _ hpz]; exact e0) (hx.ok okt) (by rw [kn _ _ (by decide)]; exact et) (fun q g1 g2 g3 => ?_) (fun i i0 i1 => ?_) ?_ h
        · rw [e00] at g2
          rw [kn _ _ (by decide)] at g3
          rw [ka _ _ (k6 q g3)]
          exact hq q g1 g2 g3
        · rw [ka _ _ (Ne.symm hzt), e_202, ms_i]
          by_cases c : i = y
          · rw [if_pos c, c]
            exact e_199
          · rw [if_neg c]
            exact hc i i0 (by omega)
        · exact G.kp e00 (ka _ _ (by omega)) (fun b => kn b _ (by decide)) (fun b => kn b _ (by decide)) (fun q g1 g2 g3 => ⟨ka _ _ (k6 q g3), ka _ _ (k6 q g3)⟩) (fun a g1 g2 g3 => have hh : a ≠ z := fun hh => by rw [hh] at g3; have := okz.2.2; omega
          ⟨ka _ _ hh, ka _ _ hh⟩) fun q k g1 g2 g3 g4 g5 => ka _ _ (hq q g1 g2 g3)
      · exact stp (by omega) h
    · exact stp (by omega) h
theorem gi_add {p0 p1 rz : Int} {rm : MM} (al0 : 0 ≤ al) (be0 : 0 ≤ be) (hF : Fix m) (okr : okc m p0 6) (G : GI al be C m) (h : fm_X5_add p0 p1 m = some (rz, rm)) : GI al be C rm := by
  have hP := pz al0 be0
  have h163 := hF.1
  unfold fm_X5_add at h
  obtain ⟨x_4, e_5, h⟩ := lx_s h
  obtain ⟨x_10, e_11, h⟩ := lx_s h
  obtain ⟨x_25, e_26, h⟩ := lx_s h
  obtain ⟨x_37, e_38, h⟩ := lx_s h
  subst e_38
  obtain ⟨g_41, h⟩ := gd_s h
  obtain ⟨-, t1⟩ := G.tok okr g_41.1
  have t2 := G.1.2.2.2 _ g_41.1 g_41.2.1
  rw [w32_id (z := m (m p0 0) (-2)) (by omega) (by omega)] at h
  rcases it_s h with ⟨hp_42, h⟩ | ⟨hp_42, h⟩
  · exact gj_add83 hF okr G h
  · obtain ⟨g_147, h⟩ := gd_s h
    have hw : w32 (2 * m (m p0 0) (-2)) = 2 * m (m p0 0) (-2) := by
      have h1 := g_147.1
      by_cases c : 2 * m (m p0 0) (-2) < 2147483648
      · exact w32_id (by omega) c
      · exfalso
        unfold w32 at h1
        rw [Int.bmod_def] at h1
        split at h1 <;> omega
    rw [hw] at h g_147
    obtain ⟨x_148, m_149, e_150, e_151, h⟩ := nw_s h
    have hx : Ext m m_149 := ext_nw hF e_151
    have G1 : GI al be (C + (al * (2 * m (m p0 0) (-2)) + be)) m_149 := by rw [e_151]; exact G.nwz (kd := 108) hF (by omega) (by decide)
    have ko : ∀ b i : Int, b < m 0 0 → b ≠ 0 → m_149 b i = m b i := fun b i h1 h2 => by rw [e_151]; exact mn_o (by omega) h2
    have okz : okc m_149 x_148 108 := okc_nwF (c := 108) hF e_150 e_151
    refine gl_add (C := C + (al * (2 * m (m p0 0) (-2)) + be)) (z := x_148) (t := m p0 0) (L := m (m p0 0) (-2)) (len := 2 * m (m p0 0) (-2)) (fun mq f1 f2 f3 f4 f5 f6 f7 f8 f9 f10 h => ?_) (by omega) (by have := g_41.2.1; omega) (by omega) BIG 0 m_149 (by rw [e_151]; exact fx_mnew hF) (hx.ok okr) okz (by rw [e_151, e_150]; exact mn_l) (ko _ _ okr.2.1 (by have := okr.1; omega)) (hx.ok g_41) (ko _ _ g_41.2.1 (by have := g_41.1; omega)) (fun q g1 g2 g3 => ?_) (fun i i0 i1 => by omega) G1 h
    · obtain ⟨m_246, e_247, h⟩ := up_s h
      have G2 := f10.tp f2 f3 (by omega) f8
      rw [← e_247] at G2
      have hx2 := ext_up e_247 f2.1 (by decide)
      have ez : rpt al be mq p0 = (64 * al + be) * (nnz mq (m p0 0) - mq p0 1) + (2 * al + be) * m (m p0 0) (-2) := by
        unfold rpt
        rw [f5, f7, if_neg (by have := g_41.1; omega)]
      have hn := nnz_le (m := mq) (t := m p0 0) (z := x_148) (by omega) (by omega) (by rw [f7]; exact f9)
      refine gj_add83 (by rw [e_247]; exact fx_f (j := 0) f1 f2 (by decide +kernel)) (hx2.ok f2) (G2.mono ?_) h
      rw [ez, f4]
      have u1 : (64 * al + be) * (nnz mq (m p0 0) - mq p0 1) ≤ (64 * al + be) * (nnz mq x_148 - mq p0 1) := Int.mul_le_mul_of_nonneg_left (by omega) hP
      have u2 : be * 1 ≤ be * m (m p0 0) (-2) := Int.mul_le_mul_of_nonneg_left t1 be0
      have u3 : (2 * al + be) * (2 * m (m p0 0) (-2)) = (2 * al + be) * m (m p0 0) (-2) + (2 * al + be) * m (m p0 0) (-2) := by rw [← Int.mul_add]; congr 1; omega
      have u4 : (2 * al + be) * m (m p0 0) (-2) = al * (2 * m (m p0 0) (-2)) + be * m (m p0 0) (-2) := by rw [Int.add_mul, Int.mul_comm 2 al, Int.mul_assoc]
      omega
    · by_cases c : q = x_148
      · rw [c] at g3
        have := okz.2.2
        omega
      · have hq2 : q < m 0 0 := by
          have : m_149 0 0 = m 0 0 + 1 := by rw [e_151]; exact (mn_c (by omega)).1
          omega
        rw [ko q _ hq2 (by omega)] at g3 ⊢
        rcases G.1.1 q g1 hq2 g3 with g | g
        · omega
        · have := g.1.2.1
          omega
theorem gi_init {p0 rz : Int} {rm : MM} (al0 : 0 ≤ al) (hF : Fix m) (okr : okc m p0 6) (h0 : m p0 0 < 4) (G : GI al be C m) (h : fm_X5_init p0 m = some (rz, rm)) : GI al be C rm := by
  have h163 := hF.1
  unfold fm_X5_init at h
  obtain ⟨x_3, m_4, e_5, e_6, h⟩ := nw_s h
  obtain ⟨m_17, e_18, h⟩ := up_s h
  obtain ⟨m_27, e_28, h⟩ := up_s h
  obtain ⟨m_37, e_38, h⟩ := up_s h
  cases h
  have hx : Ext m m_4 := ext_nw hF e_6
  have ko : ∀ b i : Int, b < m 0 0 → b ≠ 0 → m_4 b i = m b i := fun b i h1 h2 => by rw [e_6]; exact mn_o (by omega) h2
  have G1 : GI al be (C + (al * 1 + be)) m_4 := by rw [e_6]; exact G.nwz (kd := 108) hF (by decide) (by decide)
  have okz : okc m_4 x_3 108 := okc_nwF (c := 108) hF e_5 e_6
  have okr1 := hx.ok okr
  have el : m_4 x_3 (-2) = 1 := by rw [e_6, e_5]; exact mn_l
  have e0 : m_4 p0 0 = m p0 0 := ko _ _ okr.2.1 (by have := okr.1; omega)
  have G2 := G1.tp okr1 okz (by omega) fun q g1 g2 g3 => by
    by_cases c : q = x_3
    · rw [c] at g3
      have := okz.2.2
      omega
    · have hq2 : q < m 0 0 := by
        have : m_4 0 0 = m 0 0 + 1 := by rw [e_6]; exact (mn_c (by omega)).1
        omega
      rw [ko q _ hq2 (by omega)] at g3 ⊢
      rcases G.1.1 q g1 hq2 g3 with g | g
      · omega
      · have := g.1.2.1
        omega
  rw [← e_18] at G2
  have hx2 := ext_up e_18 okr1.1 (by decide)
  have ez : rpt al be m_4 p0 = 0 := if_pos (by omega)
  have en : nnz m_4 x_3 = 0 := nnz_0 fun i i0 => by rw [e_6, e_5]; exact mn_n (by omega) (by omega)
  have G3 := G2.shr (s := 0) (hx2.ok okr1)
  rw [← e_28] at G3
  have q0 : m_17 p0 0 = x_3 := by rw [e_18]; exact ms_e
  have q1 : m_17 p0 1 = m_4 p0 1 := by rw [e_18]; exact ms_j (by decide)
  have hx3 := ext_up e_28 (hx2.ok okr1).1 (by decide)
  rw [e_38]
  refine (G3.ms (hx3.ok (hx2.ok okr1)) (by decide) (by unfold saf; decide)).mono ?_
  rw [q0, q1, if_neg (by have := okz.1; omega), ez, en, el]
  omega
end GIC
