/-! THE ENGINE: the rows of a new run are as rows are made. -/
section FQS
variable {m m' m1 m2 m3 M : MM} {a b e h j t v x z x2 p1 p2 p3 p4 p5 p6 rz : Int} {W : List (Int × Int × Int)}
theorem fr_new (hF : Fix m) (ex : x = m 0 0) (hc : fm_X5_init x (mnew m 6 3) = some (rz, m2)) : FR m2 x ∧ okc m2 x 6 ∧ okc m2 (m2 x 0) 108 ∧ m2 x 0 ≠ x ∧ Fix m2 ∧ Ext m m2 := by
  have F1 : Fix (mnew m 6 3) := fx_mnew hF
  have x0 := ext_nw (kd := 6) (ln := 3) hF rfl
  have ok1 : okc (mnew m 6 3) x 6 := okc_nwF (c := 6) hF ex rfl
  have F2 := fw_X5_init F1 ok1 hc
  have h163 := hF.1
  unfold fm_X5_init at hc
  obtain ⟨t, m_4, e_t, e_4, hc⟩ := nw_s hc
  obtain ⟨m_17, e_17, hc⟩ := up_s hc
  obtain ⟨m_27, e_27, hc⟩ := up_s hc
  obtain ⟨m_37, e_37, hc⟩ := up_s hc
  cases hc
  have n0 : mnew m 6 3 0 0 = m 0 0 + 1 := (mn_c (by omega)).1
  have ne : t ≠ x := by omega
  have ok4 := okc_nwF (c := 108) F1 e_t e_4
  have w1 := ext_up e_17 ((ext_nw F1 e_4).ok ok1).1 (j := 0) (by decide)
  have w2 := ext_up e_27 ((ext_nw F1 e_4).ok ok1).1 (j := 1) (by decide)
  have w3 := ext_up e_37 ((ext_nw F1 e_4).ok ok1).1 (j := 2) (by decide)
  have k0 : m2 x 0 = t := by rw [e_37, ms_j (by decide), e_27, ms_j (by decide), e_17]; exact ms_e
  have kt : ∀ i, m2 t i = m_4 t i := fun i => by rw [e_37, ms_a ne, e_27, ms_a ne, e_17, ms_a ne]
  refine ⟨⟨by rw [k0, kt, e_4, e_t]; exact mn_l, fun i i0 => by rw [k0, kt, e_4, e_t]; exact mn_n (by omega) (by omega)⟩, F2.ext.ok ok1, by rw [k0]; exact ((w1.tr w2).tr w3).ok ok4, by rw [k0]; exact ne, F2.fix, x0.tr F2.ext⟩
/-- slot j of z is a row as it was made -/
def FQ (z j x : Int) (m : MM) : Prop := Fix m ∧ (okc m z 7 ∧ okc m x 6 ∧ okc m (m x 0) 108 ∧ 163 ≤ z) ∧ m z j = x ∧ FR m x
theorem FQ.fr (F : FQ z j x m) (f : Fr W e m m') (j0 : 0 ≤ j) (he : e ≠ z ∧ e ≠ x ∧ e ≠ m x 0) (hW : (W.all fun w => decide (w.1 = 9) || (decide (w.1 = 1) && decide (w.2.1 ≠ 7 ∧ w.2.1 ≠ 6 ∧ w.2.1 ≠ 108))) = true) : FQ z j x m' := by
  obtain ⟨f1, ⟨f2, f3, f4, f5⟩, g1, g2, g3⟩ := F
  have hx := f.ext
  have k : ∀ {c : Nat} {b : Int} (i : Int), okc m b c → (c = 7 ∨ c = 6 ∨ c = 108) → b ≠ e → 0 ≤ i → m' b i = m b i := fun {c b} i ok hc hb hi => f.2.2.2.1 b i ok.1 ok.2.1 hi fun hw => by
    rcases hw with hw | ⟨w, w1, w2, w3⟩
    · exact hb hw
    · have h1 := List.all_eq_true.mp hW w w1
      simp only [Bool.or_eq_true, Bool.and_eq_true, decide_eq_true_eq] at h1
      have h2 := ok.2.2
      rcases w2 with w2 | w2 | w2
      · omega
      · have h3 := w2.2
        rw [h2] at h3
        omega
      · omega
  have e0 : m' x 0 = m x 0 := k 0 f3 (by omega) (Ne.symm he.2.1) (by decide)
  unfold FQ FR
  rw [e0]
  exact ⟨f.fix, ⟨hx.ok f2, hx.ok f3, hx.ok f4, f5⟩, by rw [k j f2 (by omega) (Ne.symm he.1) j0]; exact g1, by rw [(hx.2 _ f4.1 f4.2.1).2]; exact g2, fun i i0 => by rw [k i f4 (by omega) (Ne.symm he.2.2) i0]; exact g3 i i0⟩
theorem FQ.up {i : Int} (F : FQ z j x m) (em : m' = mset m z i v) (i0 : 0 ≤ i) (hij : j ≠ i) : FQ z j x m' := by
  obtain ⟨f1, ⟨f2, f3, f4, f5⟩, g1, g2, g3⟩ := F
  have hx := ext_up em f2.1 i0
  have n2 : x ≠ z := okc_ap f3 f2 (by decide)
  have n3 : m x 0 ≠ z := okc_ap f4 f2 (by decide)
  have e0 : m' x 0 = m x 0 := by rw [em]; exact ms_a n2
  unfold FQ FR
  rw [e0]
  exact ⟨by rw [em]; exact fx_new f1 f5 i0, ⟨hx.ok f2, hx.ok f3, hx.ok f4, f5⟩, by rw [em, ms_j hij]; exact g1, by rw [em, ms_a n3]; exact g2, fun i i0 => by rw [em, ms_a n3]; exact g3 i i0⟩
theorem FQ.nw {kd ln : Int} (F : FQ z j x m) (em : m' = mnew m kd ln) : FQ z j x m' := by
  obtain ⟨f1, ⟨f2, f3, f4, f5⟩, g1, g2, g3⟩ := F
  have hx := ext_nw f1 em
  have k : ∀ b i : Int, b < m 0 0 → 4 ≤ b → m' b i = m b i := fun b i h1 h2 => by rw [em]; exact mn_o (by omega) (by omega)
  have e0 : m' x 0 = m x 0 := k _ _ f3.2.1 f3.1
  unfold FQ FR
  rw [e0]
  exact ⟨by rw [em]; exact fx_mnew f1, ⟨hx.ok f2, hx.ok f3, hx.ok f4, f5⟩, by rw [k _ _ f2.2.1 f2.1]; exact g1, by rw [k _ _ f4.2.1 f4.1]; exact g2, fun i i0 => by rw [k _ _ f4.2.1 f4.1]; exact g3 i i0⟩
/-- another row is made -/
theorem FQ.row {y : Int} (F : FQ z j x m) (j0 : 0 ≤ j) (ey : y = m 0 0) (em : m1 = mnew m 6 3) (hc : fm_X5_init y m1 = some (rz, m2)) : FQ z j x m2 := by
  have F1 := F.nw em
  have f1 := F.1
  have ok := okc_nwF (c := 6) f1 ey em
  have e0 : m1 x 0 = m x 0 := by rw [em]; exact mn_o (by have := F.2.1.2.1.2.1; omega) (by have := F.2.1.2.1.1; omega)
  obtain ⟨-, ⟨f2, f3, f4, f5⟩, -⟩ := F
  exact F1.fr (fw_X5_init F1.1 ok hc) j0 ⟨by have := f2.2.1; omega, by have := f3.2.1; omega, by rw [e0]; have := f4.2.1; omega⟩ (by decide +kernel)
theorem fq_make (hF : Fix m) (okz : okc m z 7) (hz : 163 ≤ z) (ex : x = m 0 0) (em : m1 = mnew m 6 3) (hc : fm_X5_init x m1 = some (rz, m2)) (eu : m3 = mset m2 z j x) (j0 : 0 ≤ j) : FQ z j x m3 := by
  rw [em] at hc
  obtain ⟨g1, g2, g3, g4, g5, g6⟩ := fr_new hF ex hc
  have oz := g6.ok okz
  have n2 : x ≠ z := okc_ap g2 oz (by decide)
  have n3 : m2 x 0 ≠ z := okc_ap g3 oz (by decide)
  have hx := ext_up eu oz.1 j0
  have e0 : m3 x 0 = m2 x 0 := by rw [eu]; exact ms_a n2
  unfold FQ FR
  rw [e0]
  exact ⟨by rw [eu]; exact fx_new g5 hz j0, ⟨hx.ok oz, hx.ok g2, hx.ok g3, hz⟩, by rw [eu]; exact ms_e, by rw [eu, ms_a n3]; exact g1.1, fun i i0 => by rw [eu, ms_a n3]; exact g1.2 i i0⟩
def UZ (z : Int) (m : MM) : Prop := Fix m ∧ okc m z 7 ∧ 163 ≤ z
theorem UZ.up (u : UZ z m) (em : m' = mset m z j v) (j0 : 0 ≤ j) : UZ z m' := ⟨by rw [em]; exact fx_new u.1 u.2.2 j0, (ext_up em u.2.1.1 j0).ok u.2.1, u.2.2⟩
/-- the history's row -/
def FRE (z h x t : Int) (m : MM) : Prop := Fix m ∧ (okc m z 7 ∧ okc m h 3 ∧ okc m x 6 ∧ okc m t 108 ∧ 163 ≤ z) ∧ m z 16 = h ∧ m h 0 = x ∧ m x 0 = t ∧ m x 1 = 0 ∧ (∀ j, 0 ≤ j → m t j = 0) ∧ m t (-2) = 1
end FQS
section FRS
variable {m m' m1 : MM} {a b e h j t v x z : Int} {W : List (Int × Int × Int)}
theorem FRE.up (F : FRE z h x t m) (em : m' = mset m z j v) (j0 : 0 ≤ j) (j1 : j ≠ 16) : FRE z h x t m' := by
  obtain ⟨f1, ⟨f2, f3, f4, f5, f6⟩, g1, g2, g3, g4, g5, g6⟩ := F
  have hx := ext_up em f2.1 j0
  have n1 : h ≠ z := okc_ap f3 f2 (by decide)
  have n2 : x ≠ z := okc_ap f4 f2 (by decide)
  have n3 : t ≠ z := okc_ap f5 f2 (by decide)
  refine ⟨by rw [em]; exact fx_new f1 f6 j0, ⟨hx.ok f2, hx.ok f3, hx.ok f4, hx.ok f5, f6⟩, ?_, ?_, ?_, ?_, fun i i0 => ?_, ?_⟩
  · rw [em, ms_j (Ne.symm j1)]; exact g1
  · rw [em, ms_a n1]; exact g2
  · rw [em, ms_a n2]; exact g3
  · rw [em, ms_a n2]; exact g4
  · rw [em, ms_a n3]; exact g5 i i0
  · rw [em, ms_a n3]; exact g6
theorem FRE.nw {kd ln : Int} (F : FRE z h x t m) (em : m' = mnew m kd ln) : FRE z h x t m' := by
  obtain ⟨f1, ⟨f2, f3, f4, f5, f6⟩, g1, g2, g3, g4, g5, g6⟩ := F
  have hx := ext_nw f1 em
  have k : ∀ b i : Int, b < m 0 0 → 4 ≤ b → m' b i = m b i := fun b i h1 h2 => by rw [em]; exact mn_o (by omega) (by omega)
  refine ⟨by rw [em]; exact fx_mnew f1, ⟨hx.ok f2, hx.ok f3, hx.ok f4, hx.ok f5, f6⟩, ?_, ?_, ?_, ?_, fun i i0 => ?_, ?_⟩
  · rw [k _ _ f2.2.1 f2.1]; exact g1
  · rw [k _ _ f3.2.1 f3.1]; exact g2
  · rw [k _ _ f4.2.1 f4.1]; exact g3
  · rw [k _ _ f4.2.1 f4.1]; exact g4
  · rw [k _ _ f5.2.1 f5.1]; exact g5 i i0
  · rw [k _ _ f5.2.1 f5.1]; exact g6
theorem FRE.fr (F : FRE z h x t m) (f : Fr W e m m') (he : e ≠ z ∧ e ≠ h ∧ e ≠ x ∧ e ≠ t) (hW : (W.all fun w => decide (w.1 = 9) || (decide (w.1 = 1) && decide (w.2.1 ≠ 7 ∧ w.2.1 ≠ 3 ∧ w.2.1 ≠ 6 ∧ w.2.1 ≠ 108))) = true) : FRE z h x t m' := by
  obtain ⟨f1, ⟨f2, f3, f4, f5, f6⟩, g1, g2, g3, g4, g5, g6⟩ := F
  have hx := f.ext
  have k : ∀ {c : Nat} {b : Int} (i : Int), okc m b c → (c = 7 ∨ c = 3 ∨ c = 6 ∨ c = 108) → b ≠ e → 0 ≤ i → m' b i = m b i := fun {c b} i ok hc hb hi => f.2.2.2.1 b i ok.1 ok.2.1 hi fun hw => by
    rcases hw with hw | ⟨w, w1, w2, w3⟩
    · exact hb hw
    · have h1 := List.all_eq_true.mp hW w w1
      simp only [Bool.or_eq_true, Bool.and_eq_true, decide_eq_true_eq] at h1
      have h2 := ok.2.2
      rcases w2 with w2 | w2 | w2
      · omega
      · have h3 := w2.2
        rw [h2] at h3
        omega
      · omega
  refine ⟨f.fix, ⟨hx.ok f2, hx.ok f3, hx.ok f4, hx.ok f5, f6⟩, ?_, ?_, ?_, ?_, fun i i0 => ?_, ?_⟩
  · rw [k _ f2 (by omega) (Ne.symm he.1) (by decide)]; exact g1
  · rw [k _ f3 (by omega) (Ne.symm he.2.1) (by decide)]; exact g2
  · rw [k _ f4 (by omega) (Ne.symm he.2.2.1) (by decide)]; exact g3
  · rw [k _ f4 (by omega) (Ne.symm he.2.2.1) (by decide)]; exact g4
  · rw [k _ f5 (by omega) (Ne.symm he.2.2.2) i0]; exact g5 i i0
  · rw [(hx.2 _ f5.1 f5.2.1).2]; exact g6
/-- another row -/
theorem FRE.row {y rz : Int} {m2 : MM} (F : FRE z h x t m) (ey : y = m 0 0) (em : m1 = mnew m 6 3) (hc : fm_X5_init y m1 = some (rz, m2)) : FRE z h x t m2 := by
  have F1 := F.nw em
  have f1 := F.1
  have ok := okc_nwF (c := 6) f1 ey em
  obtain ⟨-, ⟨f2, f3, f4, f5, -⟩, -⟩ := F
  exact F1.fr (fw_X5_init F1.1 ok hc) ⟨by have := f2.2.1; omega, by have := f3.2.1; omega, by have := f4.2.1; omega, by have := f5.2.1; omega⟩ (by decide +kernel)
end FRS
section FRT
variable {m m' M : MM} {a b h j t v x z p1 p2 p3 p4 p5 p6 rz : Int}
theorem init_fresh (u : UZ z m) (hc : fm_X6_init z p1 p2 p3 p4 p5 p6 m = some (rz, M)) : ∃ h x t d w q, z < x ∧ FRE z h x t M ∧ FQ z 17 d M ∧ FQ z 18 w M ∧ FQ z 19 q M := by
  unfold fm_X6_init at hc
  obtain ⟨m_3, e_3, hc⟩ := up_s hc
  obtain ⟨m_13, e_13, hc⟩ := up_s hc
  obtain ⟨m_23, e_23, hc⟩ := up_s hc
  obtain ⟨m_33, e_33, hc⟩ := up_s hc
  obtain ⟨m_43, e_43, hc⟩ := up_s hc
  obtain ⟨m_53, e_53, hc⟩ := up_s hc
  obtain ⟨m_63, e_63, hc⟩ := up_s hc
  obtain ⟨m_73, e_73, hc⟩ := up_s hc
  obtain ⟨m_83, e_83, hc⟩ := up_s hc
  obtain ⟨m_93, e_93, hc⟩ := up_s hc
  have u9 : UZ z m_93 := (((((((((u.up e_3 (by decide)).up e_13 (by decide)).up e_23 (by decide)).up e_33 (by decide)).up e_43 (by decide)).up e_53 (by decide)).up e_63 (by decide)).up e_73 (by decide)).up e_83 (by decide)).up e_93 (by decide)
  obtain ⟨x_100, m_101, e_100, e_101, hc⟩ := nw_s hc
  obtain ⟨x_113, m_114, e_113, e_114, hc⟩ := nw_s hc
  obtain ⟨x_127, m_128, h_128, hc⟩ := bd_s hc
  obtain ⟨x_140, m_141, h_141, hc⟩ := bd_s hc
  obtain ⟨m_152, e_152, hc⟩ := up_s hc
  unfold fm_X5_init at h_128
  obtain ⟨t, m_4, e_t, e_4, h_128⟩ := nw_s h_128
  obtain ⟨m_17, e_17, h_128⟩ := up_s h_128
  obtain ⟨m_27, e_27, h_128⟩ := up_s h_128
  obtain ⟨m_37, e_37, h_128⟩ := up_s h_128
  cases h_128
  unfold fm_X2_init at h_141
  obtain ⟨q_1, f_1, h_141⟩ := up_s h_141
  obtain ⟨q_2, f_2, h_141⟩ := up_s h_141
  obtain ⟨q_3, f_3, h_141⟩ := up_s h_141
  obtain ⟨q_4, f_4, h_141⟩ := up_s h_141
  obtain ⟨g_1, h_141⟩ := gd_s h_141
  obtain ⟨q_5, f_5, h_141⟩ := up_s h_141
  cases h_141
  obtain ⟨v1, v2, v3⟩ := u9
  have h163 := v1.1
  have zl := v2.2.1
  have n1 : m_101 0 0 = m_93 0 0 + 1 := by rw [e_101]; exact (mn_c (by omega)).1
  have n2 : m_114 0 0 = m_101 0 0 + 1 := by rw [e_114]; exact (mn_c (by omega)).1
  have F1 : Fix m_101 := by rw [e_101]; exact fx_mnew v1
  have F2 : Fix m_114 := by rw [e_114]; exact fx_mnew F1
  have F4 : Fix m_4 := by rw [e_4]; exact fx_mnew F2
  have hzx : z < x_113 := by omega
  have oh := okc_nwF (c := 3) v1 e_100 e_101
  have ox := okc_nwF (c := 6) F1 e_113 e_114
  have ot := okc_nwF (c := 108) F2 e_t e_4
  have X1 := ext_nw v1 e_101
  have X2 := ext_nw F1 e_114
  have X4 := ext_nw F2 e_4
  have w1 := ext_up e_17 ox.1 (j := 0) (by decide)
  have w2 := ext_up e_27 ox.1 (j := 1) (by decide)
  have w3 := ext_up e_37 ox.1 (j := 2) (by decide)
  have r1 := ext_up f_1 oh.1 (j := 1) (by decide)
  have r2 := ext_up f_2 oh.1 (j := 2) (by decide)
  have r3 := ext_up f_3 oh.1 (j := 3) (by decide)
  have r4 := ext_up f_4 oh.1 (j := 4) (by decide)
  have r5 := ext_up f_5 oh.1 (j := 0) (by decide)
  have r6 := ext_up e_152 v2.1 (j := 16) (by decide)
  have XA := ((((((((w1.tr w2).tr w3).tr r1).tr r2).tr r3).tr r4).tr r5).tr r6)
  have FA : Fix m_152 := by
    rw [e_152]
    refine fx_new ?_ v3 (by decide)
    rw [f_5]
    refine fx_new ?_ g_1 (by decide)
    rw [f_4]
    refine fx_new ?_ g_1 (by decide)
    rw [f_3]
    refine fx_new ?_ g_1 (by decide)
    rw [f_2]
    refine fx_new ?_ g_1 (by decide)
    rw [f_1]
    refine fx_new ?_ g_1 (by decide)
    rw [e_37]
    refine fx_new ?_ (by omega) (by decide)
    rw [e_27]
    refine fx_new ?_ (by omega) (by decide)
    rw [e_17]
    exact fx_new F4 (by omega) (by decide)
  have kx : ∀ i, m_152 x_113 i = m_128 x_113 i := fun i => by rw [e_152, ms_a (by omega), f_5, ms_a (by omega), f_4, ms_a (by omega), f_3, ms_a (by omega), f_2, ms_a (by omega), f_1, ms_a (by omega)]
  have kt : ∀ i, m_152 t i = m_4 t i := fun i => by rw [e_152, ms_a (by omega), f_5, ms_a (by omega), f_4, ms_a (by omega), f_3, ms_a (by omega), f_2, ms_a (by omega), f_1, ms_a (by omega), e_37, ms_a (by omega), e_27, ms_a (by omega), e_17, ms_a (by omega)]
  have F : FRE z x_100 x_113 t m_152 := ⟨FA, ⟨XA.ok (X4.ok (X2.ok (X1.ok v2))), XA.ok (X4.ok (X2.ok oh)), XA.ok (X4.ok ox), XA.ok ot, v3⟩, by rw [e_152]; exact ms_e, by rw [e_152, ms_a (by omega), f_5]; exact ms_e, by rw [kx, e_37, ms_j (by decide), e_27, ms_j (by decide), e_17]; exact ms_e, by rw [kx, e_37, ms_j (by decide), e_27]; exact ms_e, fun j j0 => by rw [kt, e_4, e_t]; exact mn_n (by omega) (by omega), by rw [kt, e_4, e_t]; exact mn_l⟩
  obtain ⟨x_159, m_160, e_159, e_160, hc⟩ := nw_s hc
  obtain ⟨x_173, m_174, h_174, hc⟩ := bd_s hc
  have Fa := F.1
  have za := F.2.1.1
  have F := F.row e_159 e_160 h_174
  obtain ⟨m_185, e_185, hc⟩ := up_s hc
  have F := F.up e_185 (by decide) (by decide)
  have A := fq_make Fa za v3 e_159 e_160 h_174 e_185 (by decide)
  obtain ⟨x_192, m_193, e_192, e_193, hc⟩ := nw_s hc
  obtain ⟨x_206, m_207, h_207, hc⟩ := bd_s hc
  have Fb := F.1
  have zb := F.2.1.1
  have F := F.row e_192 e_193 h_207
  have A := A.row (by decide) e_192 e_193 h_207
  obtain ⟨m_218, e_218, hc⟩ := up_s hc
  have F := F.up e_218 (by decide) (by decide)
  have A := A.up e_218 (by decide) (by decide)
  have B := fq_make Fb zb v3 e_192 e_193 h_207 e_218 (by decide)
  obtain ⟨x_225, m_226, e_225, e_226, hc⟩ := nw_s hc
  obtain ⟨x_239, m_240, h_240, hc⟩ := bd_s hc
  have Fc := F.1
  have zc := F.2.1.1
  have F := F.row e_225 e_226 h_240
  have A := A.row (by decide) e_225 e_226 h_240
  have B := B.row (by decide) e_225 e_226 h_240
  obtain ⟨m_251, e_251, hc⟩ := up_s hc
  have F := F.up e_251 (by decide) (by decide)
  have A := A.up e_251 (by decide) (by decide)
  have B := B.up e_251 (by decide) (by decide)
  have G := fq_make Fc zc v3 e_225 e_226 h_240 e_251 (by decide)
  obtain ⟨m_259, e_259, hc⟩ := up_s hc
  obtain ⟨m_267, e_267, hc⟩ := up_s hc
  obtain ⟨m_275, e_275, hc⟩ := up_s hc
  obtain ⟨m_283, e_283, hc⟩ := up_s hc
  obtain ⟨m_291, e_291, hc⟩ := up_s hc
  obtain ⟨m_299, e_299, hc⟩ := up_s hc
  cases hc
  have six : ∀ {k y : Int}, FQ z k y m_251 → 17 ≤ k → FQ z k y M := fun {k y} H hk => (((((H.up e_259 (by decide) (by omega)).up e_267 (by decide) (by omega)).up e_275 (by decide) (by omega)).up e_283 (by decide) (by omega)).up e_291 (by decide) (by omega)).up e_299 (by decide) (by omega)
  exact ⟨_, _, _, _, _, _, hzx, (((((F.up e_259 (by decide) (by decide)).up e_267 (by decide) (by decide)).up e_275 (by decide) (by decide)).up e_283 (by decide) (by decide)).up e_291 (by decide) (by decide)).up e_299 (by decide) (by decide), six A (by decide), six B (by decide), six G (by decide)⟩
theorem add_fresh (hF : Fix m) (hc : fm_X11_addRun p1 p2 p3 p4 p5 m = some (z, M)) : z = m 0 0 ∧ ∃ h x t, z < x ∧ FRE z h x t M := by
  unfold fm_X11_addRun at hc
  obtain ⟨x_1, m_2, e_1, e_2, hc⟩ := nw_s hc
  obtain ⟨x_18, h_18, hc⟩ := bp_s hc
  obtain ⟨x_27, m_28, h_28, hc⟩ := bd_s hc
  obtain ⟨x_46, m_47, h_47, hc⟩ := bd_s hc
  cases hc
  have h163 := hF.1
  obtain ⟨h, x, t, d, w, q, hzx, F, -⟩ := init_fresh ⟨by rw [e_2]; exact fx_mnew hF, okc_nwF (c := 7) hF e_1 e_2, by omega⟩ h_28
  have f := fw_Jx4a65c_add_9ea2d F.1 (fx_kF (c := 0) F.1 (by decide +kernel)) h_47
  exact ⟨e_1, h, x, t, hzx, F.fr f ⟨by have := F.2.1.1.1; omega, by have := F.2.1.2.1.1; omega, by have := F.2.1.2.2.1.1; omega, by have := F.2.1.2.2.2.1.1; omega⟩ (by decide +kernel)⟩
end FRT
