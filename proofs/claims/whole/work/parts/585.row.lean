/-! LAYER 2: rows as lists. -/
section ROW3
variable {m m' : MM} {r v a : Int} {l : List Int}
/-- the cells that a row lies in -/
def Fp (m : MM) (r a : Int) : Prop := a = r ∨ a = m r 0 ∨ ∃ i : Int, 0 ≤ i ∧ i < m (m r 0) (-2) ∧ m (m r 0) i ≠ 0 ∧ a = m (m r 0) i
def PInj (m : MM) (r : Int) : Prop := ∀ i j : Int, 0 ≤ i → i < m (m r 0) (-2) → 0 ≤ j → j < m (m r 0) (-2) → m (m r 0) i ≠ 0 → m (m r 0) i = m (m r 0) j → i = j
def RowIs (m : MM) (r : Int) (l : List Int) : Prop := RowOk m r ∧ PInj m r ∧ m r 2 = (l.length : Int) ∧ ∀ (i : Nat) (v : Int), l[i]? = some v → rv m r (i : Int) = v
theorem RowIs.r4 (h : RowIs m r l) : 4 ≤ r ∧ r < m 0 0 ∧ 4 ≤ m r 0 ∧ m r 0 < m 0 0 ∧ r ≠ m r 0 := ⟨h.1.1.1, h.1.1.2.1, h.1.2.1.1, h.1.2.1.2.1, okc_ap h.1.1 h.1.2.1 (by decide)⟩
theorem RowIs.len (h : RowIs m r l) : m r 2 = (l.length : Int) ∧ l.length < 536870912 := ⟨h.2.2.1, by have := h.1.sz; have := h.2.2.1; omega⟩
/-- a row lies in old cells: itself (kind 6), its array of parts (108), its parts (101) -/
theorem Fp.old (h : RowOk m r) (f : Fp m r a) : okc m a 6 ∨ okc m a 108 ∨ (okc m a 101 ∧ 163 ≤ a) := by
  rcases f with rfl | rfl | ⟨i, h1, h2, h3, rfl⟩
  · exact Or.inl h.1
  · exact Or.inr (Or.inl h.2.1)
  · have := (h.2.2.2.2.2.2.2.2 i h1 h2).resolve_left fun hh => h3 hh.1
    exact Or.inr (Or.inr ⟨this.2.1, this.2.2.1⟩)
theorem Fp.lt (h : RowOk m r) (f : Fp m r a) : 4 ≤ a ∧ a < m 0 0 := by
  rcases f.old h with h1 | h1 | h1
  · exact ⟨h1.1, h1.2.1⟩
  · exact ⟨h1.1, h1.2.1⟩
  · exact ⟨h1.1.1, h1.1.2.1⟩
theorem RowIs.fr (h : RowIs m r l) (hx : Ext m m') (hf : ∀ a j : Int, Fp m r a → 0 ≤ j → m' a j = m a j) : RowIs m' r l ∧ (∀ a, Fp m' r a ↔ Fp m r a) := by
  have e0 : m' r 0 = m r 0 := hf r 0 (Or.inl rfl) (by decide)
  have e1 : m' r 1 = m r 1 := hf r 1 (Or.inl rfl) (by decide)
  have e2 : m' r 2 = m r 2 := hf r 2 (Or.inl rfl) (by decide)
  have e3 : ∀ i : Int, 0 ≤ i → m' (m r 0) i = m (m r 0) i := fun i hi => hf _ i (Or.inr (Or.inl rfl)) hi
  have el : m' (m r 0) (-2) = m (m r 0) (-2) := (hx.2 _ h.1.2.1.1 h.1.2.1.2.1).2
  have hfp : ∀ a, Fp m' r a ↔ Fp m r a := by
    intro a
    unfold Fp
    rw [e0, el]
    constructor
    · rintro (h1 | h1 | ⟨i, h1, h2, h3, h4⟩)
      · exact Or.inl h1
      · exact Or.inr (Or.inl h1)
      · rw [e3 i h1] at h3 h4
        exact Or.inr (Or.inr ⟨i, h1, h2, h3, h4⟩)
    · rintro (h1 | h1 | ⟨i, h1, h2, h3, h4⟩)
      · exact Or.inl h1
      · exact Or.inr (Or.inl h1)
      · rw [← e3 i h1] at h3 h4
        exact Or.inr (Or.inr ⟨i, h1, h2, h3, h4⟩)
  refine ⟨⟨h.1.mk2 hx e0 e1 e2 fun i h1 h2 => Or.inl (e3 i h1), ?_, by rw [e2]; exact h.2.2.1, fun i v hv => ?_⟩, hfp⟩
  · intro i j h1 h2 h3 h4 h5 h6
    rw [e0, el] at h2 h4
    rw [e0, e3 i h1] at h5 h6
    rw [e3 j h3] at h6
    exact h.2.1 i j h1 h2 h3 h4 h5 h6
  · have hi : (i : Int) < m r 2 := by
      have := (List.getElem?_eq_some_iff.mp hv).1
      have := h.2.2.1
      omega
    obtain ⟨p1, p2, p3, p4⟩ := h.1.pt (Int.natCast_nonneg i) hi
    rw [← h.2.2.2 i v hv]
    unfold rv
    rw [e0, e3 _ p1]
    exact hf _ _ (Or.inr (Or.inr ⟨_, p1, p2, p3, rfl⟩)) (by omega)
/-- into a part that is there -/
theorem addA_is (h : RowIs m r l) (hpt : m r 2 / 64 < m (m r 0) (-2)) (hq : m (m r 0) (m r 2 / 64) ≠ 0) : RowIs (addA m r v (m (m r 0) (m r 2 / 64))) r (l ++ [v]) ∧ (∀ a, Fp (addA m r v (m (m r 0) (m r 2 / 64))) r a ↔ Fp m r a) := by
  obtain ⟨a1, a2, a3, a4, a5⟩ := addA_ok (v := v) h.1 hpt hq
  have hs := h.1.sz
  have hP := ((h.1.2.2.2.2.2.2.2.2 _ (by omega) hpt).resolve_left (fun hh => hq hh.1)).2
  have hx := addA_ext (v := v) h.1.1 hP
  have el : addA m r v (m (m r 0) (m r 2 / 64)) (m r 0) (-2) = m (m r 0) (-2) := (hx.2 _ h.1.2.1.1 h.1.2.1.2.1).2
  have hrq : r ≠ m (m r 0) (m r 2 / 64) := okc_ap h.1.1 hP.1 (by decide)
  refine ⟨⟨a1, ?_, ?_, ?_⟩, fun a => ?_⟩
  · intro i j h1 h2 h3 h4 h5 h6
    rw [a4, el] at h2 h4
    rw [a4, a5] at h5 h6
    rw [a5] at h6
    exact h.2.1 i j h1 h2 h3 h4 h5 h6
  · rw [a2, h.2.2.1, List.length_append]
    simp
  · intro i w hw
    unfold rv
    rw [a4, a5]
    rw [List.getElem?_append] at hw
    split at hw
    · rename_i hi
      have hi2 : (i : Int) < m r 2 := by have := h.2.2.1; omega
      obtain ⟨p1, p2, p3, p4⟩ := h.1.pt (Int.natCast_nonneg i) hi2
      rw [← h.2.2.2 i w hw]
      unfold rv
      refine addA_at ?_ (Or.inl (okc_ap p4.1 h.1.1 (by decide)))
      by_cases hh : m (m r 0) ((i : Int) / 64) = m (m r 0) (m r 2 / 64)
      · have := h.2.1 _ _ p1 p2 (by omega) hpt p3 hh
        exact Or.inr (by omega)
      · exact Or.inl hh
    · rename_i hi
      have hi3 : i = l.length := by
        cases hk : i - l.length with
        | zero => omega
        | succ k => rw [hk] at hw; simp at hw
      subst hi3
      simp at hw
      subst hw
      rw [show ((l.length : Nat) : Int) = m r 2 from h.2.2.1.symm]
      unfold addA
      rw [ms_a (Ne.symm hrq), ms_e]
  · unfold Fp
    rw [a4, el]
    simp only [a5]
/-- a part is made -/
theorem stB_is (h0 : 163 ≤ m 0 0) (h : RowIs m r l) (hpt : m r 2 / 64 < m (m r 0) (-2)) (hq : m (m r 0) (m r 2 / 64) = 0) : RowIs (stB m r) r l ∧ (∀ a, Fp (stB m r) r a → Fp m r a ∨ a = m 0 0) ∧ Ext m (stB m r) ∧ (∀ a j : Int, a < m 0 0 → a ≠ 0 → a ≠ m r 0 → stB m r a j = m a j) ∧ stB m r r 2 = m r 2 ∧ stB m r r 0 = m r 0 ∧ stB m r r 1 = m r 1 ∧ stB m r (m r 0) (m r 2 / 64) = m 0 0 ∧ stB m r (m r 0) (-2) = m (m r 0) (-2) := by
  obtain ⟨q1, q2, q3, q4, q5⟩ := h.r4
  have hs := h.1.sz
  have hx : Ext m (stB m r) := (mnew_ext (by omega)).tr (mset_ext q3 (by omega))
  have e : ∀ a j : Int, a < m 0 0 → a ≠ 0 → a ≠ m r 0 → stB m r a j = m a j := fun a j h1 h2 h3 => by
    unfold stB
    rw [ms_a h3, mn_o (by omega) h2]
  have e0 : stB m r r 0 = m r 0 := e r 0 q2 (by omega) q5
  have e1 : stB m r r 1 = m r 1 := e r 1 q2 (by omega) q5
  have e2 : stB m r r 2 = m r 2 := e r 2 q2 (by omega) q5
  have e3 : ∀ i : Int, i ≠ m r 2 / 64 → stB m r (m r 0) i = m (m r 0) i := fun i hi => by
    unfold stB
    rw [ms_j hi, mn_o (by omega) (by omega)]
  have e4 : stB m r (m r 0) (m r 2 / 64) = m 0 0 := ms_e
  have el : stB m r (m r 0) (-2) = m (m r 0) (-2) := (hx.2 _ q3 q4).2
  have hP : PtOk (stB m r) (m 0 0) := by
    have hb : ∀ j, stB m r (m 0 0) j = mnew m 101 64 (m 0 0) j := fun j => ms_a (by omega)
    refine ⟨⟨by omega, ?_, ?_⟩, by omega, ?_⟩
    · have : stB m r 0 0 = m 0 0 + 1 := by
        unfold stB
        rw [ms_a (by omega)]
        exact (mn_c (by omega)).1
      omega
    · rw [hb]
      unfold mnew
      rw [if_pos rfl, if_pos rfl]
      rfl
    · rw [hb]
      exact mn_l
  have hold : ∀ i : Int, 0 ≤ i → i < m (m r 0) (-2) → m (m r 0) i < m 0 0 := by
    intro i h1 h2
    rcases h.1.2.2.2.2.2.2.2.2 i h1 h2 with h3 | h3
    · rw [h3.1]; omega
    · exact h3.2.1.2.1
  refine ⟨⟨h.1.mk2 hx e0 e1 e2 (fun i h1 h2 => ?_), ?_, by rw [e2]; exact h.2.2.1, fun i v hv => ?_⟩, fun a ha => ?_, hx, e, e2, e0, e1, e4, el⟩
  · by_cases hi : i = m r 2 / 64
    · subst hi
      rw [e4]
      exact Or.inr ⟨by omega, hP⟩
    · exact Or.inl (e3 i hi)
  · intro i j h1 h2 h3 h4 h5 h6
    rw [e0, el] at h2 h4
    rw [e0] at h5 h6
    by_cases hi : i = m r 2 / 64
    · by_cases hj : j = m r 2 / 64
      · omega
      · subst hi
        rw [e4, e3 j hj] at h6
        have := hold j h3 h4
        omega
    · by_cases hj : j = m r 2 / 64
      · subst hj
        rw [e4, e3 i hi] at h6
        have := hold i h1 h2
        omega
      · rw [e3 i hi] at h5 h6
        rw [e3 j hj] at h6
        exact h.2.1 i j h1 h2 h3 h4 h5 h6
  · have hi : (i : Int) < m r 2 := by
      have := (List.getElem?_eq_some_iff.mp hv).1
      have := h.2.2.1
      omega
    obtain ⟨p1, p2, p3, p4⟩ := h.1.pt (Int.natCast_nonneg i) hi
    rw [← h.2.2.2 i v hv]
    unfold rv
    rw [e0, e3 _ (fun hh => p3 (by rw [hh]; exact hq))]
    exact e _ _ p4.1.2.1 (by have := p4.2.1; omega) (okc_ap p4.1 h.1.2.1 (by decide))
  · unfold Fp at ha ⊢
    rw [e0, el] at ha
    rcases ha with h1 | h1 | ⟨i, h1, h2, h3, h4⟩
    · exact Or.inl (Or.inl h1)
    · exact Or.inl (Or.inr (Or.inl h1))
    · by_cases hi : i = m r 2 / 64
      · subst hi
        rw [e4] at h4
        exact Or.inr h4
      · rw [e3 i hi] at h3 h4
        exact Or.inl (Or.inr (Or.inr ⟨i, h1, h2, h3, h4⟩))
/-- more room for parts -/
theorem addG_is (h0 : 163 ≤ m 0 0) (h : RowIs m r l) (hl : m (m r 0) (-2) < 4194304) : RowIs (addG m r) r l ∧ (∀ a, Fp (addG m r) r a → Fp m r a ∨ a = m 0 0) ∧ Ext m (addG m r) ∧ (∀ a j : Int, a < m 0 0 → a ≠ 0 → a ≠ r → addG m r a j = m a j) ∧ addG m r r 2 = m r 2 ∧ addG m r r 0 = m 0 0 ∧ addG m r r 1 = m r 1 ∧ addG m r (m 0 0) (-2) = 2 * m (m r 0) (-2) ∧ (∀ i, m (m r 0) (-2) ≤ i → addG m r (m 0 0) i = 0) := by
  obtain ⟨q1, q2, q3, q4, q5⟩ := h.r4
  have hs := h.1.sz
  have g1 := h.1.2.2.1
  have a0 : ∀ b j : Int, b ≠ r ∨ j ≠ 0 → addG m r b j = cpR (mnew m 108 (2 * m (m r 0) (-2))) (m 0 0) (m r 0) 0 (m (m r 0) (-2)) b j := fun b j hb => by
    unfold addG
    exact if_neg (by omega)
  have a1 : ∀ b j : Int, b < m 0 0 → b ≠ 0 → (b ≠ r ∨ j ≠ 0) → addG m r b j = m b j := by
    intro b j b1 b2 b3
    rw [a0 b j b3]
    unfold cpR
    rw [if_neg (by omega), mn_o (by omega) b2]
  have a2 : addG m r r 0 = m 0 0 := ms_e
  have a3 : ∀ j : Int, 0 ≤ j → j < m (m r 0) (-2) → addG m r (m 0 0) j = m (m r 0) j := by
    intro j h1 h2
    rw [a0 _ _ (Or.inl (by omega))]
    unfold cpR
    rw [if_pos ⟨rfl, h1, h2⟩, mn_o (by omega) (by omega)]
  have a4 : ∀ j : Int, j < 0 ∨ m (m r 0) (-2) ≤ j → addG m r (m 0 0) j = mnew m 108 (2 * m (m r 0) (-2)) (m 0 0) j := by
    intro j hj
    rw [a0 _ _ (Or.inl (by omega))]
    unfold cpR
    rw [if_neg (by omega)]
  have a5 : addG m r (m 0 0) (-2) = 2 * m (m r 0) (-2) := by rw [a4 _ (Or.inl (by decide))]; exact mn_l
  have a6 : ∀ i, m (m r 0) (-2) ≤ i → addG m r (m 0 0) i = 0 := fun i hi => by
    rw [a4 _ (Or.inr hi)]
    exact mn_n (by omega) (by omega)
  have a7 : addG m r 0 0 = m 0 0 + 1 := by
    rw [a0 _ _ (Or.inl (by omega))]
    unfold cpR
    rw [if_neg (by omega)]
    exact (mn_c (by omega)).1
  have hx : Ext m (addG m r) := by
    refine ⟨by omega, fun b b1 b2 => ⟨a1 b _ b2 (by omega) (Or.inr (by decide)), a1 b _ b2 (by omega) (Or.inr (by decide))⟩⟩
  have ek : addG m r (m 0 0) (-1) = 108 := by
    rw [a4 _ (Or.inl (by decide))]
    unfold mnew
    rw [if_pos rfl, if_pos rfl]
  have e1 : addG m r r 1 = m r 1 := a1 r 1 q2 (by omega) (Or.inr (by decide))
  have e2 : addG m r r 2 = m r 2 := a1 r 2 q2 (by omega) (Or.inr (by decide))
  have hP : ∀ q, PtOk m q → PtOk (addG m r) q := fun q hq => ⟨hx.ok hq.1, hq.2.1, by rw [(hx.2 _ hq.1.1 hq.1.2.1).2]; exact hq.2.2⟩
  have hok : RowOk (addG m r) r := by
    unfold RowOk
    rw [a2, a5, e1, e2]
    refine ⟨hx.ok h.1.1, ⟨by omega, by omega, ek⟩, by omega, by omega, h.1.2.2.2.2.1, by have := h.1.2.2.2.2.2.1; omega, h.1.2.2.2.2.2.2.1, by have := h.1.2.2.2.2.2.2.2.1; omega, fun i h1 h2 => ?_⟩
    by_cases hi : i < m (m r 0) (-2)
    · rw [a3 i h1 hi]
      exact (h.1.2.2.2.2.2.2.2.2 i h1 hi).imp id fun hh => ⟨hh.1, hP _ hh.2⟩
    · refine Or.inl ⟨a6 i (by omega), ?_⟩
      have := h.1.2.2.2.2.2.2.2.1
      omega
  refine ⟨⟨hok, ?_, by rw [e2]; exact h.2.2.1, fun i v hv => ?_⟩, fun a ha => ?_, hx, fun a j h1 h2 h3 => a1 a j h1 h2 (Or.inl h3), e2, a2, e1, a5, a6⟩
  · intro i j h1 h2 h3 h4 h5 h6
    rw [a2] at h2 h4 h5 h6
    by_cases hi : i < m (m r 0) (-2)
    · rw [a3 i h1 hi] at h5 h6
      by_cases hj : j < m (m r 0) (-2)
      · rw [a3 j h3 hj] at h6
        exact h.2.1 i j h1 hi h3 hj h5 h6
      · rw [a6 j (by omega)] at h6
        exact absurd h6 h5
    · exact absurd (a6 i (by omega)) h5
  · have hi : (i : Int) < m r 2 := by
      have := (List.getElem?_eq_some_iff.mp hv).1
      have := h.2.2.1
      omega
    obtain ⟨p1, p2, p3, p4⟩ := h.1.pt (Int.natCast_nonneg i) hi
    rw [← h.2.2.2 i v hv]
    unfold rv
    rw [a2, a3 _ p1 p2]
    exact a1 _ _ p4.1.2.1 (by have := p4.2.1; omega) (Or.inl (okc_ap p4.1 h.1.1 (by decide)))
  · unfold Fp at ha ⊢
    rw [a2, a5] at ha
    rcases ha with h1 | h1 | ⟨i, h1, h2, h3, h4⟩
    · exact Or.inl (Or.inl h1)
    · exact Or.inr h1
    · by_cases hi : i < m (m r 0) (-2)
      · rw [a3 i h1 hi] at h3 h4
        exact Or.inl (Or.inr (Or.inr ⟨i, h1, hi, h3, h4⟩))
      · exact absurd (a6 i (by omega)) h3
theorem add_is (h0 : 163 ≤ m 0 0) (h : RowIs m r l) (hl : l.length < 268435456) : RowIs (addM m r v) r (l ++ [v]) ∧ (∀ a, Fp (addM m r v) r a → Fp m r a ∨ m 0 0 ≤ a) ∧ Ext m (addM m r v) ∧ (∀ a j : Int, a < m 0 0 → a ≠ 0 → ¬ Fp m r a → addM m r v a j = m a j) ∧ addM m r v r 1 = m r 1 := by
  obtain ⟨q1, q2, q3, q4, q5⟩ := h.r4
  have hs := h.1.sz
  have h26 := h.1.2.2.2.2.2.2.2.1
  have h9 := h.2.2.1
  have hA : ∀ {m : MM}, RowIs m r l → m r 2 / 64 < m (m r 0) (-2) → m (m r 0) (m r 2 / 64) ≠ 0 → RowIs (addA m r v (m (m r 0) (m r 2 / 64))) r (l ++ [v]) ∧ (∀ a, Fp (addA m r v (m (m r 0) (m r 2 / 64))) r a → Fp m r a) ∧ Ext m (addA m r v (m (m r 0) (m r 2 / 64))) ∧ (∀ a j : Int, ¬ Fp m r a → addA m r v (m (m r 0) (m r 2 / 64)) a j = m a j) ∧ addA m r v (m (m r 0) (m r 2 / 64)) r 1 = m r 1 := by
    intro m h k1 k2
    have hs := h.1.sz
    have hP := ((h.1.2.2.2.2.2.2.2.2 _ (by omega) k1).resolve_left (fun hh => k2 hh.1)).2
    obtain ⟨g1, g2⟩ := addA_is (v := v) h k1 k2
    exact ⟨g1, fun a ha => (g2 a).mp ha, addA_ext h.1.1 hP, fun a j ha => addA_at (Or.inl fun hh => ha (Or.inr (Or.inr ⟨_, by omega, k1, k2, hh⟩))) (Or.inl fun hh => ha (Or.inl hh)), (addA_ok h.1 k1 k2).2.2.1⟩
  have hB : ∀ {m : MM}, 163 ≤ m 0 0 → RowIs m r l → m r 2 / 64 < m (m r 0) (-2) → m (m r 0) (m r 2 / 64) = 0 → RowIs (addB m r v) r (l ++ [v]) ∧ (∀ a, Fp (addB m r v) r a → Fp m r a ∨ m 0 0 ≤ a) ∧ Ext m (addB m r v) ∧ (∀ a j : Int, a < m 0 0 → a ≠ 0 → ¬ Fp m r a → addB m r v a j = m a j) ∧ addB m r v r 1 = m r 1 := by
    intro m h0 h k1 k2
    obtain ⟨s1, s2, s3, s4, s5, s6, s7, s8, s9⟩ := stB_is h0 h k1 k2
    have e : addB m r v = addA (stB m r) r v (stB m r (stB m r r 0) (stB m r r 2 / 64)) := by
      rw [s6, s5, s8]
      rfl
    obtain ⟨t1, t2, t3, t4, t5⟩ := hA s1 (by rw [s5, s6, s9]; exact k1) (by rw [s5, s6, s8]; omega)
    rw [e]
    refine ⟨t1, fun a ha => (s2 a (t2 a ha)).imp id fun hh => by omega, s3.tr t3, fun a j b1 b2 b3 => ?_, t5.trans s7⟩
    rw [t4 a j fun hh => (s2 a hh).elim b3 fun hh => by omega]
    exact s4 a j b1 b2 fun hh => b3 (Or.inr (Or.inl hh))
  unfold addM
  by_cases c1 : m r 2 / 64 < m (m r 0) (-2)
  · rw [if_pos c1]
    by_cases c2 : m (m r 0) (m r 2 / 64) = 0
    · rw [if_pos c2]
      exact hB h0 h c1 c2
    · rw [if_neg c2]
      obtain ⟨t1, t2, t3, t4, t5⟩ := hA h c1 c2
      exact ⟨t1, fun a ha => Or.inl (t2 a ha), t3, fun a j _ _ b3 => t4 a j b3, t5⟩
  · rw [if_neg c1]
    obtain ⟨s1, s2, s3, s4, s5, s6, s7, s8, s9⟩ := addG_is h0 h (by omega)
    have g1 := h.1.2.2.1
    obtain ⟨t1, t2, t3, t4, t5⟩ := hB (by have := s3.1; omega) s1 (by rw [s5, s6, s8]; omega) (by rw [s5, s6]; exact s9 _ (by omega))
    refine ⟨t1, fun a ha => ?_, s3.tr t3, fun a j b1 b2 b3 => ?_, t5.trans s7⟩
    · rcases t2 a ha with b | b
      · exact (s2 a b).imp id fun hh => by omega
      · have := s3.1
        exact Or.inr (by omega)
    · rw [t4 a j (by have := s3.1; omega) b2 fun hh => (s2 a hh).elim b3 fun hh => by omega]
      exact s4 a j b1 b2 fun hh => b3 (Or.inl hh)
end ROW3
