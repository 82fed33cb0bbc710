/-! THE ENGINE: a new row, a new history. -/
section RIN
variable {m m' M : MM} {r h a b i j v n : Int} {l : List Int} {E : Int → Ev}
theorem row_init (hF : Fix m) (hr : 163 ≤ r) (ho : okc m r 6) : ∃ m', fm_X5_init r m = some (0, m') ∧ RowIs m' r [] ∧ Fix m' ∧ Ext m m' ∧ (∀ a j : Int, a < m 0 0 → a ≠ 0 → a ≠ r → m' a j = m a j) ∧ (∀ a, Op m' r a → a = r ∨ m 0 0 ≤ a) ∧ ∀ a, ¬ Sh m' r a := by
  have m00 := hF.1
  have r0 := ho.2.1
  have x0 : Ext m (mnew m 108 1) := mnew_ext (by omega)
  have x1 : Ext (mnew m 108 1) (mset (mnew m 108 1) r 0 (m 0 0)) := mset_ext (by omega) (by decide)
  have x2 : Ext (mset (mnew m 108 1) r 0 (m 0 0)) (mset (mset (mnew m 108 1) r 0 (m 0 0)) r 1 0) := mset_ext (by omega) (by decide)
  have x3 : Ext (mset (mset (mnew m 108 1) r 0 (m 0 0)) r 1 0) (mset (mset (mset (mnew m 108 1) r 0 (m 0 0)) r 1 0) r 2 0) := mset_ext (by omega) (by decide)
  have okN : okc (mnew m 108 1) (m 0 0) 108 := by
    refine ⟨by omega, ?_, ?_⟩
    · rw [(mn_c (by omega)).1]; omega
    · unfold mnew
      rw [if_pos rfl, if_pos rfl]
      rfl
  have F3 : Fix (mset (mset (mset (mnew m 108 1) r 0 (m 0 0)) r 1 0) r 2 0) := fx_new (fx_new (fx_new (fx_mnew hF) hr (by decide)) hr (by decide)) hr (by decide)
  have d0 : mset (mset (mset (mnew m 108 1) r 0 (m 0 0)) r 1 0) r 2 0 r 0 = m 0 0 := by rw [ms_j (by decide), ms_j (by decide), ms_e]
  have d1 : mset (mset (mset (mnew m 108 1) r 0 (m 0 0)) r 1 0) r 2 0 r 1 = 0 := by rw [ms_j (by decide), ms_e]
  have d2 : mset (mset (mset (mnew m 108 1) r 0 (m 0 0)) r 1 0) r 2 0 r 2 = 0 := ms_e
  have dN : ∀ j, mset (mset (mset (mnew m 108 1) r 0 (m 0 0)) r 1 0) r 2 0 (m 0 0) j = mnew m 108 1 (m 0 0) j := fun j => by rw [ms_a (by omega), ms_a (by omega), ms_a (by omega)]
  have dO : ∀ a j : Int, a < m 0 0 → a ≠ 0 → a ≠ r → mset (mset (mset (mnew m 108 1) r 0 (m 0 0)) r 1 0) r 2 0 a j = m a j := fun a j b1 b2 b3 => by rw [ms_a b3, ms_a b3, ms_a b3, mn_o (by omega) b2]
  have x := ((x0.tr x1).tr x2).tr x3
  have okN3 := ((x1.tr x2).tr x3).ok okN
  have ef : fm_X5_init r m = some (0, mset (mset (mset (mnew m 108 1) r 0 (m 0 0)) r 1 0) r 2 0) := by
    unfold fm_X5_init
    rw [nw_t, up_t, up_t, up_t]
  generalize mset (mset (mset (mnew m 108 1) r 0 (m 0 0)) r 1 0) r 2 0 = M at F3 d0 d1 d2 dN dO x okN3 ef
  have eL : M (m 0 0) (-2) = 1 := by rw [dN, mn_l]
  have e0 : ∀ j, 0 ≤ j → M (m 0 0) j = 0 := fun j hj => by rw [dN, mn_n (by omega) (by omega)]
  refine ⟨M, ef, ⟨⟨x.ok ho, by rw [d0]; exact okN3, by rw [d0, eL]; omega, by rw [d0, eL]; omega, by rw [d1]; omega, by rw [d0, d1, eL]; omega, by rw [d1, d2]; omega, by rw [d0, d2, eL]; omega, fun i i0 i1 => ?_⟩, fun i j i0 i1 j0 j1 n0 ee => ?_, d2, fun i v hv => by simp at hv⟩, F3, x, dO, fun a ha => ?_, fun a ha => ?_⟩
  · rw [d0, d2]
    exact Or.inl ⟨e0 i i0, by omega⟩
  · rw [d0] at n0
    exact absurd (e0 i i0) n0
  · rcases ha with g | g | ⟨i, i0, i1, i2, i3⟩
    · exact Or.inl g
    · rw [d0] at g
      exact Or.inr (by omega)
    · rw [d1] at i0
      rw [d0] at i2
      exact absurd (e0 i i0) i2
  · obtain ⟨i, i0, i1, -⟩ := ha
    rw [d1] at i1
    omega
/-- a new history over an empty row -/
theorem hist_init (hF : Fix m) (hm : 163 ≤ h) (ho : okc m h 3) (R : RowIs m r []) (hrh : r ≠ h) (nf : ¬ Fp m r h) : ∃ m', fm_X2_init h r m = some (0, m') ∧ HS m' h 0 E ∧ Fix m' ∧ Ext m m' ∧ (∀ a j : Int, a ≠ h → m' a j = m a j) ∧ m' h 0 = r := by
  have s := fun (M : MM) (j v : Int) (F : Fix M) (g : 0 ≤ j) => (⟨fx_new F hm g, mset_ext (by omega) g⟩ : Fix (mset M h j v) ∧ Ext M (mset M h j v))
  obtain ⟨f1, x1⟩ := s m 1 0 hF (by decide)
  obtain ⟨f2, x2⟩ := s _ 2 0 f1 (by decide)
  obtain ⟨f3, x3⟩ := s _ 3 0 f2 (by decide)
  obtain ⟨f4, x4⟩ := s _ 4 0 f3 (by decide)
  obtain ⟨f5, x5⟩ := s _ 0 r f4 (by decide)
  have x := (((x1.tr x2).tr x3).tr x4).tr x5
  have ef : fm_X2_init h r m = some (0, mset (mset (mset (mset (mset m h 1 0) h 2 0) h 3 0) h 4 0) h 0 r) := by
    unfold fm_X2_init
    rw [up_t, up_t, up_t, up_t, gd_t hm, up_t]
  have dO : ∀ a j : Int, a ≠ h → mset (mset (mset (mset (mset m h 1 0) h 2 0) h 3 0) h 4 0) h 0 r a j = m a j := fun a j b => by rw [ms_a b, ms_a b, ms_a b, ms_a b, ms_a b]
  have dh : mset (mset (mset (mset (mset m h 1 0) h 2 0) h 3 0) h 4 0) h 0 r h 0 = r := ms_e
  have d1 : mset (mset (mset (mset (mset m h 1 0) h 2 0) h 3 0) h 4 0) h 0 r h 1 = 0 := by rw [ms_j (by decide), ms_j (by decide), ms_j (by decide), ms_j (by decide), ms_e]
  have d2 : mset (mset (mset (mset (mset m h 1 0) h 2 0) h 3 0) h 4 0) h 0 r h 2 = 0 := by rw [ms_j (by decide), ms_j (by decide), ms_j (by decide), ms_e]
  have d3 : mset (mset (mset (mset (mset m h 1 0) h 2 0) h 3 0) h 4 0) h 0 r h 3 = 0 := by rw [ms_j (by decide), ms_j (by decide), ms_e]
  have d4 : mset (mset (mset (mset (mset m h 1 0) h 2 0) h 3 0) h 4 0) h 0 r h 4 = 0 := by rw [ms_j (by decide), ms_e]
  have r1 := (R.fr x fun a j ha _ => dO a j (fun e => nf (e ▸ ha))).1
  exact ⟨_, ef, ⟨⟨x.ok ho, d1, [], by rw [dh]; exact r1, rfl, fun i v hv => by simp at hv⟩, d2, d3, d4⟩, f5, x, dO, dh⟩
end RIN
