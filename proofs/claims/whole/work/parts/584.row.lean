/-! LAYER 2: what add does to a row, and to the others. -/
section ROW2
variable {m : MM} {r v : Int}
def stB (m : MM) (r : Int) : MM := mset (mnew m 101 64) (m r 0) (m r 2 / 64) (m 0 0)
theorem addB_st : addB m r v = addA (stB m r) r v (m 0 0) := rfl
/-- what a row needs of the memory, taken apart -/
theorem RowOk.mk2 {m' : MM} (h : RowOk m r) (hx : Ext m m') (e0 : m' r 0 = m r 0) (e1 : m' r 1 = m r 1) (e2 : m' r 2 = m r 2) (e3 : ∀ i, 0 ≤ i → i < m (m r 0) (-2) → m' (m r 0) i = m (m r 0) i ∨ (m' (m r 0) i ≠ 0 ∧ PtOk m' (m' (m r 0) i))) : RowOk m' r := by
  obtain ⟨okr, okp, g1, g2, g3, g4, g5, g6, g7⟩ := h
  have el := (hx.2 _ okp.1 okp.2.1).2
  unfold RowOk
  rw [e0, e1, e2, el]
  refine ⟨hx.ok okr, hx.ok okp, g1, g2, g3, g4, g5, g6, fun i h1 h2 => ?_⟩
  rcases e3 i h1 h2 with h3 | h3
  · rw [h3]
    rcases g7 i h1 h2 with h4 | ⟨h4, h5, h6, h7⟩
    · exact Or.inl h4
    · exact Or.inr ⟨h4, hx.ok h5, h6, by rw [(hx.2 _ h5.1 h5.2.1).2]; exact h7⟩
  · exact Or.inr h3
/-- addA: into a part that is there -/
theorem addA_ext {q : Int} (okr : okc m r 6) (hP : PtOk m q) : Ext m (addA m r v q) := by
  unfold addA
  have h1 : Ext m (mset m q (m r 2 % 64) v) := mset_ext hP.1.1 (by omega)
  exact h1.tr (mset_ext okr.1 (by decide))
theorem addA_at {q a j : Int} (h1 : a ≠ q ∨ j ≠ m r 2 % 64) (h2 : a ≠ r ∨ j ≠ 2) : addA m r v q a j = m a j := by
  unfold addA
  have e1 : mset (mset m q (m r 2 % 64) v) r 2 (m r 2 + 1) a j = mset m q (m r 2 % 64) v a j := if_neg (by omega)
  rw [e1]
  exact if_neg (by omega)
theorem addA_ok (h : RowOk m r) (hpt : m r 2 / 64 < m (m r 0) (-2)) (hq : m (m r 0) (m r 2 / 64) ≠ 0) : RowOk (addA m r v (m (m r 0) (m r 2 / 64))) r ∧ addA m r v (m (m r 0) (m r 2 / 64)) r 2 = m r 2 + 1 ∧ addA m r v (m (m r 0) (m r 2 / 64)) r 1 = m r 1 ∧ addA m r v (m (m r 0) (m r 2 / 64)) r 0 = m r 0 ∧ (∀ i, addA m r v (m (m r 0) (m r 2 / 64)) (m r 0) i = m (m r 0) i) := by
  have hs := h.sz
  obtain ⟨okr, okp, g1, g2, g3, g4, g5, g6, g7⟩ := h
  have hP := ((g7 _ (by omega) hpt).resolve_left (fun hh => hq hh.1)).2
  have hq2 : ∀ i, m (m r 0) i = 0 → i ≠ m r 2 / 64 := fun i h hh => hq (hh ▸ h)
  generalize m (m r 0) (m r 2 / 64) = q at *
  have hx := addA_ext (v := v) okr hP
  have hrq : r ≠ q := okc_ap okr hP.1 (by decide)
  have hpq : m r 0 ≠ q := okc_ap okp hP.1 (by decide)
  have hrp : m r 0 ≠ r := okc_ap okp okr (by decide)
  have e0 : addA m r v q r 0 = m r 0 := addA_at (Or.inl hrq) (Or.inr (by decide))
  have e1 : addA m r v q r 1 = m r 1 := addA_at (Or.inl hrq) (Or.inr (by decide))
  have e2 : addA m r v q r 2 = m r 2 + 1 := ms_e
  have e3 : ∀ i, addA m r v q (m r 0) i = m (m r 0) i := fun i => addA_at (Or.inl hpq) (Or.inl hrp)
  refine ⟨?_, e2, e1, e0, e3⟩
  unfold RowOk
  rw [e0, e1, e2, e3]
  refine ⟨hx.ok okr, hx.ok okp, g1, g2, g3, g4, by omega, by omega, fun i h1 h2 => ?_⟩
  rw [e3]
  rcases g7 i h1 h2 with ⟨h4, h5⟩ | ⟨h4, h5, h6, h7⟩
  · refine Or.inl ⟨h4, ?_⟩
    have := hq2 i h4
    omega
  · exact Or.inr ⟨h4, hx.ok h5, h6, by rw [(hx.2 _ h5.1 h5.2.1).2]; exact h7⟩
end ROW2
