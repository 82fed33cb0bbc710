/-! THE ENGINE: the class's lists of objects: one more, in all cases. -/
section LFS
variable {m m' M : MM} {r a b i j v n T c : Int} {l : List Int}
theorem li_first (hm : 4 ≤ m 0 0) (h : LI m r []) (h1 : m r 1 = 1) (h10 : m 1 (-2) = 0) (hv : okob m v) : ∃ m', fm_Jx4a65c_add_9ea2d r v m = some (1, m') ∧ LI m' r [v] ∧ Ext m m' ∧ (∀ a j : Int, a < m 0 0 → a ≠ 0 → a ≠ r → m' a j = m a j) ∧ m 0 0 ≤ m' r 1 := by
  have hh := h
  obtain ⟨⟨h4, h4'⟩, h2, h3, -, -⟩ := h
  have h2' : m r 2 = 0 := h2
  have x0 : Ext m (mset m r 0 (w32 (m r 0 + 1))) := mset_ext h4 (by decide)
  have e1 : mset m r 0 (w32 (m r 0 + 1)) r 1 = 1 := by rw [ms_j (by decide)]; exact h1
  have e2 : mset m r 0 (w32 (m r 0 + 1)) r 2 = 0 := by rw [ms_j (by decide)]; exact h2'
  have e00 : mset m r 0 (w32 (m r 0 + 1)) 0 0 = m 0 0 := ms_a (by omega)
  have e10 : mset m r 0 (w32 (m r 0 + 1)) 1 (-2) = 0 := by rw [ms_a (by omega)]; exact h10
  have eO : ∀ a j : Int, a ≠ r → mset m r 0 (w32 (m r 0 + 1)) a j = m a j := fun a j ha => ms_a ha
  generalize hM : mset m r 0 (w32 (m r 0 + 1)) = M at x0 e1 e2 e00 e10 eO
  have xm : Ext M (mnew M 107 10) := mnew_ext (by rw [e00]; exact hm)
  have xr : Ext (mnew M 107 10) (mset (mnew M 107 10) r 1 (M 0 0)) := mset_ext h4 (by decide)
  have okN : okc (mnew M 107 10) (M 0 0) 107 := by
    refine ⟨by rw [e00]; exact hm, ?_, ?_⟩
    · rw [(mn_c (by omega)).1]; omega
    · unfold mnew
      rw [if_pos rfl, if_pos rfl]
      rfl
  obtain ⟨r1, r2, r3, r4, r5⟩ := li_new (M := M) (M2 := mset (mnew M 107 10) r 1 (M 0 0)) (NT := M 0 0) (n := 10) hh x0 (xm.tr xr) hv (by decide) (by decide) ms_e (by omega) (by omega) (xr.ok okN) (by rw [ms_a (by omega), mn_l]) (fun i w hi => by simp at hi) (fun a j b1 b2 b3 => by rw [ms_a b3, mn_o (by omega) b2, eO a j b3])
  refine ⟨_, ?_, r2, r3, r4, by rw [r5]; omega⟩
  have hmax : fm_J9_max_7cf53 10 1 M = some 10 := by
    unfold fm_J9_max_7cf53
    rw [if_neg (by decide)]
  have hgr : fm_Jx4a65c_grow_d5877 r M = some (M 0 0, mset (mnew M 107 10) r 1 (M 0 0)) := by
    unfold fm_Jx4a65c_grow_d5877 fm_Jx4a65c_grow_92f84
    rw [lx_p, lx_p, e1, gd_t (Or.inl rfl), lx_p, e10, e2, w32_id (z := 0) (by decide) (by decide), if_neg (by decide), gd_t (Or.inr (Or.inl rfl)), if_pos rfl, show (0 : Int) + 1 = 1 from rfl, w32_id (z := 1) (by decide) (by decide), bp_t hmax, gd_t ⟨by decide, by decide⟩, nw_t, up_t]
    rfl
  have r1' : fj_Jx4a65c_add_72be8_11 r v (M 0 0) 0 (mset (mnew M 107 10) r 1 (M 0 0)) = _ := r1
  unfold fm_Jx4a65c_add_9ea2d
  rw [lx_p, up_t, hM, lx_p, lx_p, e1, e2]
  unfold fm_Jx4a65c_add_72be8
  rw [gd_t (Or.inl rfl), e10, w32_id (z := 0) (by decide) (by decide), if_pos rfl, bd_t hgr, bd_t r1']
/-- one more, in all cases: nothing is written but the list, its array and what is new -/
theorem li_add (hm : 4 ≤ m 0 0) (h : LI m r l) (h10 : m 1 (-2) = 0) (hl : l.length < 1000000) (hv : okob m v) : ∃ m', fm_Jx4a65c_add_9ea2d r v m = some (1, m') ∧ LI m' r (l ++ [v]) ∧ Ext m m' ∧ (∀ a j : Int, a < m 0 0 → a ≠ 0 → a ≠ r → a ≠ m r 1 → m' a j = m a j) ∧ (m' r 1 = m r 1 ∨ m 0 0 ≤ m' r 1) := by
  have hh := h
  obtain ⟨-, h2, h3, h4, h5⟩ := h
  rcases h5 with ⟨g1, g2⟩ | ⟨g1, g2, g3, g4, g5⟩
  · subst g2
    obtain ⟨m', r1, r2, r3, r4, r5⟩ := li_first hm hh g1 h10 hv
    exact ⟨m', r1, r2, r3, fun a j b1 b2 b3 _ => r4 a j b1 b2 b3, Or.inr r5⟩
  · by_cases c : (l.length : Int) < m (m r 1) (-2)
    · obtain ⟨m', r1, r2, r3, r4, r5⟩ := li_room hh g1 c hv
      exact ⟨m', r1, r2, r3, fun a j _ _ b3 b4 => r4 a j b3 b4, Or.inl r5⟩
    · by_cases c0 : 1 ≤ l.length
      · obtain ⟨m', r1, r2, r3, r4, r5⟩ := li_full hm hh g1 (by omega) c0 hl hv
        exact ⟨m', r1, r2, r3, fun a j b1 b2 b3 _ => r4 a j b1 b2 b3, Or.inr r5⟩
      · omega
end LFS
