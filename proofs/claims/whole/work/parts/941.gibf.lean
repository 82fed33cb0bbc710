/-! THE ROOM, without any plain state: a new row becomes the first numbers of another. -/
section GIE
variable {m m' : MM} {al be C D a b j k r t v z kd ln s n : Int} {f g : Int → Int}
theorem gl_bf89 {p0 y1 y3 rz : Int} {rm : MM} (al0 : 0 ≤ al) (be0 : 0 ≤ be) : ∀ (n : Nat) (y : Int) (m : MM), Fix m → okc m p0 6 → GI al be C m → fl_X5_becomeFirst_89 p0 y1 y3 n y m = some (rz, rm) → GI al be C rm := by
  intro n
  induction n with
  | zero => intro y m _ _ _ h; cases h
  | succ n ih =>
    intro y m hF okr G h
    unfold fl_X5_becomeFirst_89 at h
    rcases it_s h with ⟨hp, h⟩ | ⟨hp, h⟩
    · obtain ⟨g_1, h⟩ := gd_s h
      obtain ⟨x_190, hc_1, h⟩ := bp_s h
      obtain ⟨x_199, m_200, hc_2, h⟩ := bd_s h
      obtain ⟨x_215, e_2, h⟩ := lx_s h
      have w := gw_X5_add hF okr hc_2
      exact ih _ _ w.fix (w.ext.ok okr) (w.2 _ _ _ al0 be0 G) h
    · cases h
      exact G
theorem gl_bf41 {p0 y1 y3 y4 t1 : Int} {k68 : MM → Option (Int × MM)} {r : Int × MM} {Q : Prop} (y0 : 0 ≤ y4 ∧ y4 < 2147483647) (hk : ∀ mq : MM, Fix mq → okc mq p0 6 → mq p0 1 = 0 → mq p0 0 = z → okc mq z 108 → GI al be (C - (64 * al + be) * y4) mq → k68 mq = some r → Q) (hpz : p0 ≠ z) (hyz : y1 ≠ z) (htz : t1 ≠ z) : ∀ (n : Nat) (y : Int) (m : MM), 0 ≤ y → y ≤ y4 → Fix m → okc m p0 6 → m p0 1 = 0 → m p0 0 = z → okc m z 108 → m y1 0 = t1 → (∀ i, 0 ≤ i → i < y4 → m t1 i ≠ 0) → (∀ i, y ≤ i → m z i = 0) → GI al be (C - (64 * al + be) * y) m → fl_X5_becomeFirst_41 p0 y1 y3 y4 k68 n y m = some r → Q := by
  intro n
  induction n with
  | zero => intro y m _ _ _ _ _ _ _ _ _ _ _ h; cases h
  | succ n ih =>
    intro y m hy hy4 hF okr e1 e0 okz et hn hz G h
    unfold fl_X5_becomeFirst_41 at h
    rcases it_s h with ⟨hp, h⟩ | ⟨hp, h⟩
    · obtain ⟨x_98, e_98, h⟩ := lx_s h
      rw [e0] at e_98
      subst e_98
      obtain ⟨g_1, h⟩ := gd_s h
      obtain ⟨x_104, e_104, h⟩ := lx_s h
      rw [et] at e_104
      subst e_104
      obtain ⟨g_2, h⟩ := gd_s h
      obtain ⟨g_3, h⟩ := gd_s h
      obtain ⟨x_111, e_111, h⟩ := lx_s h
      obtain ⟨g_4, h⟩ := gd_s h
      obtain ⟨g_5, h⟩ := gd_s h
      obtain ⟨g_6, h⟩ := gd_s h
      obtain ⟨m_115, e_115, h⟩ := up_s h
      rw [w32_id (z := y + 1) (by omega) (by omega)] at h
      obtain ⟨x_128, e_128, h⟩ := lx_s h
      subst e_128
      have hx := ext_up e_115 okz.1 g_5.1
      have ka : ∀ b i : Int, b ≠ x_98 → m_115 b i = m b i := fun b i hb => by rw [e_115]; exact ms_a hb
      have hv : x_111 ≠ 0 := by rw [e_111]; exact hn y hy hp
      have G1 := G.top (k := y) (v := x_111) okr (by rw [e0]; exact okz.1) (by rw [e0]; exact g_5)
      rw [e0, ← e_115, if_pos (hz y (Int.le_refl _)), if_neg hv] at G1
      refine ih (y + 1) m_115 (by omega) (by omega) (by rw [e_115]; exact fx_a hF okz g_5.1 (by decide +kernel)) (hx.ok okr) (by rw [ka _ _ hpz]; exact e1) (by rw [ka _ _ hpz]; exact e0) (hx.ok okz) (by rw [ka _ _ hyz]; exact et) (fun i i0 i1 => by rw [ka _ _ htz]; exact hn i i0 i1) (fun i i0 => ?_) (G1.mono ?_) h
      · rw [e_115, ms_j (by omega)]
        exact hz i (by omega)
      · rw [show (0 : Int) - 1 = -1 by decide, Int.mul_neg, Int.mul_one, Int.mul_add, Int.mul_one]
        omega
    · have ey : y = y4 := by omega
      rw [ey] at G
      exact hk m hF okr e1 e0 okz G h
theorem gi_bf {p0 p1 p2 rz : Int} {rm : MM} (al0 : 0 ≤ al) (be0 : 0 ≤ be) (hF : Fix m) (okr : okc m p0 6) (G : GI al be C m) (hne : p0 ≠ p1) (e1 : m p0 1 = 0) (h4 : 4 ≤ m p0 0) (en : nnz m (m p0 0) = 0) (el : m (m p0 0) (-2) = 1) (hs : 0 ≤ m p1 2 ∧ m p1 2 < 536870912) (hn : ∀ i, 0 ≤ i → 64 * (i + 1) ≤ m p1 2 → m (m p1 0) i ≠ 0) (h : fm_X5_becomeFirst p0 p1 p2 m = some (rz, rm)) : GI al be (C + (al + be)) rm := by
  have hP := pz al0 be0
  have h163 := hF.1
  unfold fm_X5_becomeFirst at h
  obtain ⟨g_1, h⟩ := gd_s h
  obtain ⟨x_5, e_5, h⟩ := lx_s h
  obtain ⟨x_10, hc_9, h⟩ := bp_s h
  obtain ⟨x_19, hc_18, h⟩ := bp_s h
  obtain ⟨x_39, e_39, h⟩ := lx_s h
  subst e_39
  obtain ⟨g_2, h⟩ := gd_s h
  obtain ⟨x_45, hc_44, h⟩ := bp_s h
  obtain ⟨g_3, h⟩ := gd_s h
  obtain ⟨x_64, m_65, e_64, e_65, h⟩ := nw_s h
  obtain ⟨m_78, e_78, h⟩ := up_s h
  have b10 : 0 ≤ x_10 := by
    unfold fm_J9_max_7cf53 at hc_9
    split at hc_9 <;> cases hc_9 <;> omega
  have b19 : 0 ≤ x_19 ∧ x_19 ≤ m p1 2 := by
    unfold fm_J9_min_7cf53 at hc_18
    split at hc_18 <;> cases hc_18 <;> omega
  have hl1 := G.1.2.2.2 _ g_2.1 g_2.2.1
  have b45 : 0 ≤ x_45 ∧ x_45 ≤ x_19 / 64 := by
    rw [iShr_6 b19.1 (by omega), w32_id (z := m (m p1 0) (-2)) (by omega) (by omega)] at hc_44
    unfold fm_J9_min_7cf53 at hc_44
    split at hc_44 <;> cases hc_44 <;> omega
  have ew : w32 (x_45 + 1) = x_45 + 1 := w32_id (by omega) (by omega)
  rw [ew] at e_65 g_3
  have okt := (G.tok okr h4).1
  have hx : Ext m m_65 := ext_nw hF e_65
  have ko : ∀ b i : Int, b < m 0 0 → b ≠ 0 → m_65 b i = m b i := fun b i h1 h2 => by rw [e_65]; exact mn_o (by omega) h2
  have ke : ∀ i, m_65 p0 i = m p0 i := fun i => ko _ _ okr.2.1 (by have := okr.1; omega)
  have G1 : GI al be (C + (al * (x_45 + 1) + be)) m_65 := by rw [e_65]; exact G.nwz (kd := 108) hF (by omega) (by decide)
  have okz : okc m_65 x_64 108 := okc_nwF (c := 108) hF e_64 e_65
  have ez : m_65 x_64 (-2) = x_45 + 1 := by rw [e_65, e_64]; exact mn_l
  have z0 : ∀ i, 0 ≤ i → m_65 x_64 i = 0 := fun i i0 => by rw [e_65, e_64]; exact mn_n (by omega) (by omega)
  have okr1 := hx.ok okr
  have G2 := G1.tp okr1 okz (by omega) fun q g1 g2 g3 => by
    by_cases c : q = x_64
    · rw [c] at g3
      have := okz.2.2
      omega
    · have hq2 : q < m 0 0 := by
        have : m_65 0 0 = m 0 0 + 1 := by rw [e_65]; exact (mn_c (by omega)).1
        omega
      rw [ko q _ hq2 (by omega)] at g3 ⊢
      rcases G.1.1 q g1 hq2 g3 with g | g
      · omega
      · have := g.1.2.1
        omega
  rw [← e_78] at G2
  have hx2 := ext_up e_78 okr1.1 (by decide)
  have er : rpt al be m_65 p0 = 2 * al + be := by
    unfold rpt
    have e9 : nnz m_65 (m p0 0) = nnz m (m p0 0) := by
      unfold nnz
      rw [ko _ _ okt.2.1 (by omega)]
      exact sm_ext fun i _ _ => by rw [ko _ _ okt.2.1 (by omega)]
    rw [ke, ke, if_neg (by omega), e9, en, e1, ko _ _ okt.2.1 (by omega), el, Int.sub_self, Int.mul_zero, Int.mul_one, Int.zero_add]
  have en2 : nnz m_65 x_64 = 0 := nnz_0 z0
  rw [er, en2, ke, e1, ez, Int.sub_self, Int.mul_zero] at G2
  have hpz : p0 ≠ x_64 := okc_ap okr1 okz (by decide)
  have k78 : ∀ b i : Int, b ≠ p0 → m_78 b i = m_65 b i := fun b i hb => by rw [e_78]; exact ms_a hb
  have ht0 : m p1 0 ≠ p0 := Ne.symm (okc_ap okr g_2 (by decide))
  refine gl_bf41 (C := C + (al * (x_45 + 1) + be) + (2 * al + be) - (0 + (2 * al + be) * (x_45 + 1))) (z := x_64) (t1 := m p1 0) ⟨b45.1, by omega⟩ (fun mq f1 f2 f3 f4 f5 f6 h => ?_) hpz (by have := g_1.2.1; omega) (by have := g_2.2.1; omega) BIG 0 m_78 (Int.le_refl _) b45.1 (by rw [e_78]; exact fx_f (j := 0) (by rw [e_65]; exact fx_mnew hF) okr1 (by decide +kernel)) (hx2.ok okr1) (by rw [e_78, ms_j (by decide), ke]; exact e1) (by rw [e_78]; exact ms_e) (hx2.ok okz) (by rw [k78 _ _ (Ne.symm hne)]; exact ko _ _ g_1.2.1 (by have := g_1.1; omega)) (fun i i0 i1 => by
    rw [k78 _ _ ht0, ko _ _ g_2.2.1 (by have := g_2.1; omega)]
    exact hn i i0 (by omega)) (fun i i0 => by
    rw [k78 _ _ (Ne.symm hpz)]
    exact z0 i i0) (by rw [Int.mul_zero]; exact G2.mono (by omega)) h
  obtain ⟨m_156, e_156, h⟩ := up_s h
  obtain ⟨m_168, e_168, h⟩ := up_s h
  obtain ⟨x_179, e_179, h⟩ := lx_s h
  have G3 := f6.shr (s := x_45) f2
  rw [← e_156, f3, f4, if_neg (by have := f5.1; omega)] at G3
  have hx3 := ext_up e_156 f2.1 (by decide)
  have hF3 : Fix m_156 := by rw [e_156]; exact fx_f (j := 1) f1 f2 (by decide +kernel)
  have ok3 := hx3.ok f2
  have G4 := G3.ms (v := iShl x_45 6) ok3 (j := 2) (by decide) (by unfold saf; decide)
  rw [← e_168] at G4
  have hx4 := ext_up e_168 ok3.1 (by decide)
  refine gl_bf89 al0 be0 BIG x_179 m_168 (by rw [e_168]; exact fx_f (j := 2) hF3 ok3 (by decide +kernel)) (hx4.ok ok3) (G4.mono ?_) h
  rw [Int.sub_zero]
  have u1 : 0 ≤ (al + be) * x_45 := Int.mul_nonneg (by omega) b45.1
  have u2 : (2 * al + be) * (x_45 + 1) = 2 * (al * x_45) + be * x_45 + (2 * al + be) := by rw [Int.mul_add, Int.mul_one, Int.add_mul, Int.mul_assoc]
  have u3 : al * (x_45 + 1) = al * x_45 + al := by rw [Int.mul_add, Int.mul_one]
  have u4 : (al + be) * x_45 = al * x_45 + be * x_45 := Int.add_mul _ _ _
  omega
end GIE
