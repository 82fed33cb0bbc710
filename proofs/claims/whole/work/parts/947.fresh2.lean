/-! THE ROOM: what addRun leaves: its new run's row is as it was made. -/
section FRT
variable {m m' M : MM} {a b h j t v x z p1 p2 p3 p4 p5 p6 rz : Int}
def UZ (z : Int) (m : MM) : Prop := Fix m ∧ okc m z 7 ∧ 163 ≤ z
theorem UZ.up (u : UZ z m) (em : m' = mset m z j v) (j0 : 0 ≤ j) : UZ z m' := ⟨by rw [em]; exact fx_new u.1 u.2.2 j0, (ext_up em u.2.1.1 j0).ok u.2.1, u.2.2⟩
theorem init_fresh (u : UZ z m) (hc : fm_X6_init z p1 p2 p3 p4 p5 p6 m = some (rz, M)) : ∃ h x t, z < x ∧ FRE z h x t M := by
  unfold fm_X6_init at hc
  obtain ⟨m_3, e_3, hc⟩ := up_s hc
  obtain ⟨m_13, e_13, hc⟩ := up_s hc
  obtain ⟨m_23, e_23, hc⟩ := up_s hc
  obtain ⟨m_33, e_33, hc⟩ := up_s hc
  obtain ⟨m_43, e_43, hc⟩ := up_s hc
  obtain ⟨m_53, e_53, hc⟩ := up_s hc
  obtain ⟨m_63, e_63, hc⟩ := up_s hc
  obtain ⟨m_73, e_73, hc⟩ := up_s hc
  obtain ⟨m_83, e_83, hc⟩ := up_s hc
  obtain ⟨m_93, e_93, hc⟩ := up_s hc
  have u9 : UZ z m_93 := (((((((((u.up e_3 (by decide)).up e_13 (by decide)).up e_23 (by decide)).up e_33 (by decide)).up e_43 (by decide)).up e_53 (by decide)).up e_63 (by decide)).up e_73 (by decide)).up e_83 (by decide)).up e_93 (by decide)
  obtain ⟨x_100, m_101, e_100, e_101, hc⟩ := nw_s hc
  obtain ⟨x_113, m_114, e_113, e_114, hc⟩ := nw_s hc
  obtain ⟨x_127, m_128, h_128, hc⟩ := bd_s hc
  obtain ⟨x_140, m_141, h_141, hc⟩ := bd_s hc
  obtain ⟨m_152, e_152, hc⟩ := up_s hc
  unfold fm_X5_init at h_128
  obtain ⟨t, m_4, e_t, e_4, h_128⟩ := nw_s h_128
  obtain ⟨m_17, e_17, h_128⟩ := up_s h_128
  obtain ⟨m_27, e_27, h_128⟩ := up_s h_128
  obtain ⟨m_37, e_37, h_128⟩ := up_s h_128
  cases h_128
  unfold fm_X2_init at h_141
  obtain ⟨q_1, f_1, h_141⟩ := up_s h_141
  obtain ⟨q_2, f_2, h_141⟩ := up_s h_141
  obtain ⟨q_3, f_3, h_141⟩ := up_s h_141
  obtain ⟨q_4, f_4, h_141⟩ := up_s h_141
  obtain ⟨g_1, h_141⟩ := gd_s h_141
  obtain ⟨q_5, f_5, h_141⟩ := up_s h_141
  cases h_141
  obtain ⟨v1, v2, v3⟩ := u9
  have h163 := v1.1
  have zl := v2.2.1
  have n1 : m_101 0 0 = m_93 0 0 + 1 := by rw [e_101]; exact (mn_c (by omega)).1
  have n2 : m_114 0 0 = m_101 0 0 + 1 := by rw [e_114]; exact (mn_c (by omega)).1
  have F1 : Fix m_101 := by rw [e_101]; exact fx_mnew v1
  have F2 : Fix m_114 := by rw [e_114]; exact fx_mnew F1
  have F4 : Fix m_4 := by rw [e_4]; exact fx_mnew F2
  have hzx : z < x_113 := by omega
  have oh := okc_nwF (c := 3) v1 e_100 e_101
  have ox := okc_nwF (c := 6) F1 e_113 e_114
  have ot := okc_nwF (c := 108) F2 e_t e_4
  have X1 := ext_nw v1 e_101
  have X2 := ext_nw F1 e_114
  have X4 := ext_nw F2 e_4
  have w1 := ext_up e_17 ox.1 (j := 0) (by decide)
  have w2 := ext_up e_27 ox.1 (j := 1) (by decide)
  have w3 := ext_up e_37 ox.1 (j := 2) (by decide)
  have r1 := ext_up f_1 oh.1 (j := 1) (by decide)
  have r2 := ext_up f_2 oh.1 (j := 2) (by decide)
  have r3 := ext_up f_3 oh.1 (j := 3) (by decide)
  have r4 := ext_up f_4 oh.1 (j := 4) (by decide)
  have r5 := ext_up f_5 oh.1 (j := 0) (by decide)
  have r6 := ext_up e_152 v2.1 (j := 16) (by decide)
  have XA := ((((((((w1.tr w2).tr w3).tr r1).tr r2).tr r3).tr r4).tr r5).tr r6)
  have FA : Fix m_152 := by
    rw [e_152]
    refine fx_new ?_ v3 (by decide)
    rw [f_5]
    refine fx_new ?_ g_1 (by decide)
    rw [f_4]
    refine fx_new ?_ g_1 (by decide)
    rw [f_3]
    refine fx_new ?_ g_1 (by decide)
    rw [f_2]
    refine fx_new ?_ g_1 (by decide)
    rw [f_1]
    refine fx_new ?_ g_1 (by decide)
    rw [e_37]
    refine fx_new ?_ (by omega) (by decide)
    rw [e_27]
    refine fx_new ?_ (by omega) (by decide)
    rw [e_17]
    exact fx_new F4 (by omega) (by decide)
  have kx : ∀ i, m_152 x_113 i = m_128 x_113 i := fun i => by rw [e_152, ms_a (by omega), f_5, ms_a (by omega), f_4, ms_a (by omega), f_3, ms_a (by omega), f_2, ms_a (by omega), f_1, ms_a (by omega)]
  have kt : ∀ i, m_152 t i = m_4 t i := fun i => by rw [e_152, ms_a (by omega), f_5, ms_a (by omega), f_4, ms_a (by omega), f_3, ms_a (by omega), f_2, ms_a (by omega), f_1, ms_a (by omega), e_37, ms_a (by omega), e_27, ms_a (by omega), e_17, ms_a (by omega)]
  have F : FRE z x_100 x_113 t m_152 := ⟨FA, ⟨XA.ok (X4.ok (X2.ok (X1.ok v2))), XA.ok (X4.ok (X2.ok oh)), XA.ok (X4.ok ox), XA.ok ot, v3⟩, by rw [e_152]; exact ms_e, by rw [e_152, ms_a (by omega), f_5]; exact ms_e, by rw [kx, e_37, ms_j (by decide), e_27, ms_j (by decide), e_17]; exact ms_e, by rw [kx, e_37, ms_j (by decide), e_27]; exact ms_e, fun j j0 => by rw [kt, e_4, e_t]; exact mn_n (by omega) (by omega), by rw [kt, e_4, e_t]; exact mn_l⟩
  obtain ⟨x_159, m_160, e_159, e_160, hc⟩ := nw_s hc
  obtain ⟨x_173, m_174, h_174, hc⟩ := bd_s hc
  have F := F.row e_159 e_160 h_174
  obtain ⟨m_185, e_185, hc⟩ := up_s hc
  have F := F.up e_185 (by decide) (by decide)
  obtain ⟨x_192, m_193, e_192, e_193, hc⟩ := nw_s hc
  obtain ⟨x_206, m_207, h_207, hc⟩ := bd_s hc
  have F := F.row e_192 e_193 h_207
  obtain ⟨m_218, e_218, hc⟩ := up_s hc
  have F := F.up e_218 (by decide) (by decide)
  obtain ⟨x_225, m_226, e_225, e_226, hc⟩ := nw_s hc
  obtain ⟨x_239, m_240, h_240, hc⟩ := bd_s hc
  have F := F.row e_225 e_226 h_240
  obtain ⟨m_251, e_251, hc⟩ := up_s hc
  have F := F.up e_251 (by decide) (by decide)
  obtain ⟨m_259, e_259, hc⟩ := up_s hc
  obtain ⟨m_267, e_267, hc⟩ := up_s hc
  obtain ⟨m_275, e_275, hc⟩ := up_s hc
  obtain ⟨m_283, e_283, hc⟩ := up_s hc
  obtain ⟨m_291, e_291, hc⟩ := up_s hc
  obtain ⟨m_299, e_299, hc⟩ := up_s hc
  cases hc
  exact ⟨_, _, _, hzx, (((((F.up e_259 (by decide) (by decide)).up e_267 (by decide) (by decide)).up e_275 (by decide) (by decide)).up e_283 (by decide) (by decide)).up e_291 (by decide) (by decide)).up e_299 (by decide) (by decide)⟩
theorem add_fresh (hF : Fix m) (hc : fm_X11_addRun p1 p2 p3 p4 p5 m = some (z, M)) : z = m 0 0 ∧ ∃ h x t, z < x ∧ FRE z h x t M := by
  unfold fm_X11_addRun at hc
  obtain ⟨x_1, m_2, e_1, e_2, hc⟩ := nw_s hc
  obtain ⟨x_18, h_18, hc⟩ := bp_s hc
  obtain ⟨x_27, m_28, h_28, hc⟩ := bd_s hc
  obtain ⟨x_46, m_47, h_47, hc⟩ := bd_s hc
  cases hc
  have h163 := hF.1
  obtain ⟨h, x, t, hzx, F⟩ := init_fresh ⟨by rw [e_2]; exact fx_mnew hF, okc_nwF (c := 7) hF e_1 e_2, by omega⟩ h_28
  have f := fw_Jx4a65c_add_9ea2d F.1 (fx_kF (c := 0) F.1 (by decide +kernel)) h_47
  exact ⟨e_1, h, x, t, hzx, F.fr f ⟨by have := F.2.1.1.1; omega, by have := F.2.1.2.1.1; omega, by have := F.2.1.2.2.1.1; omega, by have := F.2.1.2.2.2.1.1; omega⟩ (by decide +kernel)⟩
end FRT
