/-! THE ENGINE: a row becomes the first of another, all of it. -/
section BF2
variable {m m' M : MM} {r o a b i j v n z y P T S2 q f NT OT : Int} {l : List Int}
theorem first_s (hF : Fix m) (hR : okc m r 6) (hr : 163 ≤ r) {lo : List Int} (ho : RowIs m o lo) (hro : ¬ Fp m o r) (hll : lo.length < 268435456) (h0 : 0 ≤ n) : ∃ m', fm_X5_becomeFirst r o n m = some (0, m') ∧ RowIs m' r (lo.take n.toNat) ∧ Fix m' ∧ Ext m m' ∧ (∀ a j : Int, a < m 0 0 → a ≠ 0 → a ≠ r → m' a j = m a j) ∧ (∀ a, Op m' r a → a = r ∨ m 0 0 ≤ a) ∧ (∀ a, Sh m' r a → Fp m o a) ∧ (∃ L : List Int, HP m' r L ∧ (L.length : Int) ≤ 1) ∧ 32 * m' (m' r 0) (-2) ≤ (if n < m o 2 then n else m o 2) + 64 := by
  have h9 := ho.2.2.1
  have hs := ho.1.sz
  obtain ⟨q1, q2, q3, q4, q5⟩ := ho.r4
  have hsh := ho.1
  obtain ⟨g1, g2, g3, g4, g5, g6, g7, g8, g9⟩ := hsh
  have m00 := hF.1
  have eM : fm_J9_max_7cf53 0 n m = some n := by
    unfold fm_J9_max_7cf53
    split
    · rfl
    · congr 1; omega
  have eN : fm_J9_min_7cf53 (m o 2) n m = some (if n < m o 2 then n else m o 2) := by
    unfold fm_J9_min_7cf53
    split <;> rfl
  generalize ez : (if n < m o 2 then n else m o 2) = z
  rw [ez] at eN
  have hz : 0 ≤ z ∧ z ≤ m o 2 ∧ (z = n ∨ (z = m o 2 ∧ m o 2 ≤ n)) := by
    subst ez
    split <;> omega
  have el : lo.take z.toNat = lo.take n.toNat := by
    rcases hz.2.2 with h1 | ⟨h1, h2⟩
    · rw [h1]
    · rw [List.take_of_length_le (by omega), List.take_of_length_le (by omega)]
  rw [← el]
  obtain ⟨f, hf⟩ : ∃ f, f = z / 64 := ⟨_, rfl⟩
  have hfb : 0 ≤ f ∧ f ≤ m (m o 0) (-2) ∧ 64 * f ≤ z ∧ z < 64 * f + 64 := by omega
  have eF : fm_J9_min_7cf53 f (m (m o 0) (-2)) m = some f := by
    unfold fm_J9_min_7cf53
    split
    · omega
    · rfl
  have hrT : r ≠ m o 0 := fun e => hro (Or.inr (Or.inl e))
  have hor : o ≠ r := fun e => hro (Or.inl e.symm)
  have r0 := hR.2.1
  have hpt : ∀ i : Int, 0 ≤ i → i < f → m (m o 0) i ≠ 0 ∧ PtOk m (m (m o 0) i) := fun i i0 i1 => by
    have := ho.1.pt (i := 64 * i) (by omega) (by omega)
    rw [show 64 * i / 64 = i by omega] at this
    exact this.2.2
  -- the new table
  have x0 : Ext m (mnew m 108 (f + 1)) := mnew_ext (by omega)
  have x1 : Ext (mnew m 108 (f + 1)) (mset (mnew m 108 (f + 1)) r 0 (m 0 0)) := mset_ext (by omega) (by decide)
  have x01 := x0.tr x1
  have F0 : Fix (mset (mnew m 108 (f + 1)) r 0 (m 0 0)) := fx_new (fx_mnew hF) hr (by decide)
  have hNew : ∀ j, mset (mnew m 108 (f + 1)) r 0 (m 0 0) (m 0 0) j = mnew m 108 (f + 1) (m 0 0) j := fun j => ms_a (by omega)
  have hOld : ∀ a j, a < m 0 0 → a ≠ 0 → a ≠ r → mset (mnew m 108 (f + 1)) r 0 (m 0 0) a j = m a j := fun a j b1 b2 b3 => by rw [ms_a b3, mn_o (by omega) b2]
  have okN : okc (mset (mnew m 108 (f + 1)) r 0 (m 0 0)) (m 0 0) 108 := by
    refine ⟨by omega, ?_, ?_⟩
    · rw [ms_a (by omega), (mn_c (by omega)).1]; omega
    · rw [hNew]
      unfold mnew
      rw [if_pos rfl, if_pos rfl]
      rfl
  generalize hM0 : mset (mnew m 108 (f + 1)) r 0 (m 0 0) = M0 at x01 F0 hNew hOld okN
  have eT0 : ∀ j, M0 (m o 0) j = m (m o 0) j := fun j => hOld _ j q4 (by omega) (Ne.symm hrT)
  obtain ⟨N, hN⟩ := BIG_s
  obtain ⟨f1, f2, f3⟩ := first_loop (z := z) (k := fun m_150 => up m_150 r 1 f fun m_156 => up m_156 r 2 (iShl f 6) fun m_168 => lx (m_168 r 2) fun x_179 => fl_X5_becomeFirst_89 r o z BIG x_179 m_168) (r := r) (o := o) (f := f) (NT := m 0 0) (OT := m o 0) (by omega) (by omega) (by omega) (by omega) BIG 0 M0 (Int.le_refl _) hfb.1 (by rw [← hM0]; exact ms_e) (by rw [hOld o 0 q2 (by omega) hor]) (x01.ok g1) (x01.ok g2) okN (by rw [eT0]; exact hfb.2.1) (by rw [hNew, mn_l]; omega) (by omega) (fun i i0 i1 => by rw [eT0]; exact x01.ok (hpt i i0 i1).2.1) F0 (by have := BIG_g (n := 100000000) (by omega); omega)
  have x2 := x01.tr f3
  -- behind the loop
  have c1 : ∀ a j, a ≠ m 0 0 → cpR M0 (m 0 0) (m o 0) 0 f a j = M0 a j := fun a j ha => if_neg fun g => ha g.1
  have c2 : ∀ j, 0 ≤ j → j < f → cpR M0 (m 0 0) (m o 0) 0 f (m 0 0) j = m (m o 0) j := fun j j0 j1 => by
    unfold cpR
    rw [if_pos ⟨rfl, j0, j1⟩, eT0]
  have c3 : cpR M0 (m 0 0) (m o 0) 0 f (m 0 0) f = 0 := by
    unfold cpR
    rw [if_neg (by omega), hNew, mn_n (by omega) (by omega)]
  have c4 : cpR M0 (m 0 0) (m o 0) 0 f (m 0 0) (-2) = f + 1 := by
    unfold cpR
    rw [if_neg (by omega), hNew, mn_l]
  have c5 : cpR M0 (m 0 0) (m o 0) 0 f r 0 = m 0 0 := by
    rw [c1 _ _ (by omega), ← hM0, ms_e]
  have c6 : okc (cpR M0 (m 0 0) (m o 0) 0 f) (m 0 0) 108 := f3.ok okN
  generalize cpR M0 (m 0 0) (m o 0) 0 f = M1 at f1 f2 f3 x2 c1 c2 c3 c4 c5 c6
  have x3 : Ext M1 (mset M1 r 1 f) := mset_ext (by omega) (by decide)
  have x4 : Ext (mset M1 r 1 f) (mset (mset M1 r 1 f) r 2 (64 * f)) := mset_ext (by omega) (by decide)
  have x34 := x3.tr x4
  have F2 : Fix (mset (mset M1 r 1 f) r 2 (64 * f)) := fx_new (fx_new f2 hr (by decide)) hr (by decide)
  have d0 : mset (mset M1 r 1 f) r 2 (64 * f) r 0 = m 0 0 := by rw [ms_j (by decide), ms_j (by decide)]; exact c5
  have d1 : mset (mset M1 r 1 f) r 2 (64 * f) r 1 = f := by rw [ms_j (by decide), ms_e]
  have d2 : mset (mset M1 r 1 f) r 2 (64 * f) r 2 = 64 * f := ms_e
  have d3 : ∀ a j, a ≠ r → mset (mset M1 r 1 f) r 2 (64 * f) a j = M1 a j := fun a j ha => by rw [ms_a ha, ms_a ha]
  generalize hM2 : mset (mset M1 r 1 f) r 2 (64 * f) = M2 at x34 F2 d0 d1 d2 d3
  have x5 := x2.tr x34
  have d4 : ∀ a j : Int, a < m 0 0 → a ≠ 0 → a ≠ r → M2 a j = m a j := fun a j b1 b2 b3 => by rw [d3 a j b3, c1 a j (by omega), hOld a j b1 b2 b3]
  have dT : ∀ j, M2 (m 0 0) j = M1 (m 0 0) j := fun j => d3 _ j (by omega)
  have hRow : RowIs M2 r (lo.take (64 * f).toNat) := by
    refine ⟨⟨x5.ok hR, by rw [d0]; exact x34.ok c6, by rw [d0, dT, c4]; omega, by rw [d0, dT, c4]; omega, by rw [d1]; omega, by rw [d0, d1, dT, c4]; omega, by rw [d1, d2]; omega, by rw [d0, d2, dT, c4]; omega, fun i i0 i1 => ?_⟩, fun i j i0 i1 j0 j1 n0 ee => ?_, by rw [d2, List.length_take]; omega, fun i v hv => ?_⟩
    · rw [d0, dT, c4] at i1
      rw [d0, dT, d2]
      by_cases c : i < f
      · rw [c2 i i0 c]
        obtain ⟨w1, w2⟩ := hpt i i0 c
        exact Or.inr ⟨w1, x5.ok w2.1, w2.2.1, ((x5.2 _ w2.1.1 w2.1.2.1).2).trans w2.2.2⟩
      · have : i = f := by omega
        rw [this, c3]
        exact Or.inl ⟨rfl, Int.le_refl _⟩
    · rw [d0, dT, c4] at i1 j1
      rw [d0, dT] at n0
      rw [d0, dT, dT] at ee
      by_cases ci : i < f
      · rw [c2 i i0 ci] at n0 ee
        by_cases cj : j < f
        · rw [c2 j j0 cj] at ee
          exact ho.2.1 i j i0 (by omega) j0 (by omega) n0 ee
        · rw [show j = f by omega, c3] at ee
          exact absurd ee n0
      · rw [show i = f by omega, c3] at n0
        exact absurd rfl n0
    · have hi := (List.getElem?_eq_some_iff.mp hv).1
      rw [List.length_take] at hi
      rw [List.getElem?_take_of_lt (by omega)] at hv
      have hrv := ho.2.2.2 i v hv
      obtain ⟨w1, w2⟩ := hpt ((i : Int) / 64) (by omega) (by omega)
      rw [← hrv]
      unfold rv
      rw [d0, dT, c2 _ (by omega) (by omega)]
      exact d4 _ _ w2.1.2.1 (by have := w2.1.1; omega) (okc_ap w2.1 hR (by decide))
  obtain ⟨m', e1, e2, e3, e4, e5, e6, e7, ⟨L, e8, e9⟩, e10⟩ := first_rest (m := m) (f := 64 * f) (Sf := Fp m o) hr ho hro hll (show z ≤ lo.length by omega) BIG (64 * f) M2 (by omega) (by omega) hRow F2 x5 d4 (fun a ha => by
    rcases ha with g | g | ⟨i, i0, i1, i2, i3⟩
    · exact Or.inl g
    · rw [d0] at g
      exact Or.inr (by omega)
    · rw [d1] at i0
      rw [d0, dT, c4] at i1
      rw [d0, dT, show i = f by omega, c3] at i2
      exact absurd rfl i2) (fun a ha => by
    obtain ⟨i, i0, i1, i2⟩ := ha
    rw [d1] at i1
    rw [d0, dT, c2 i i0 i1] at i2
    exact Or.inr (Or.inr ⟨i, i0, by omega, (hpt i i0 i1).1, i2⟩)) ⟨⟨[], fun a ha => by
    obtain ⟨i, i0, i1, i2, i3⟩ := ha
    rw [d1] at i0
    rw [d0, dT, c4] at i1
    rw [d0, dT, show i = f by omega, c3] at i2
    exact absurd rfl i2, by show 64 * (((0 : Nat)) : Int) ≤ _; unfold md; omega⟩, by rw [d0, dT, c4]; omega⟩ (by have := BIG_g (n := 300000000) (by omega); omega)
  refine ⟨m', ?_, e2, e3, e4, e5, e6, e7, ⟨L, e8, by unfold md at e9; omega⟩, e10⟩
  unfold fm_X5_becomeFirst
  rw [gd_t g1, lx_p, bp_t eM, bp_t eN, lx_p, gd_t g2, iShr_6 hz.1 (by omega), ← hf, w32_id (z := m (m o 0) (-2)) (by omega) (by omega), bp_t eF, w32_id (z := f + 1) (by omega) (by omega), gd_t ⟨by omega, by omega⟩, nw_t, up_t, hM0]
  refine f1.trans ?_
  show (up M1 r 1 f fun m_156 => up m_156 r 2 (iShl f 6) fun m_168 => lx (m_168 r 2) fun x_179 => fl_X5_becomeFirst_89 r o z BIG x_179 m_168) = _
  rw [up_t, up_t, iShl_6 hfb.1 (by omega), hM2, lx_p, d2]
  exact e1
end BF2
