/-! THE ENGINE: rows that share their first parts: what is a row's own. -/
section OWN
variable {m m' : MM} {r a i j v n : Int} {l : List Int}
/-- the row's own places: not the parts that it shares -/
def Op (m : MM) (r a : Int) : Prop := a = r ∨ a = m r 0 ∨ ∃ i : Int, m r 1 ≤ i ∧ i < m (m r 0) (-2) ∧ m (m r 0) i ≠ 0 ∧ a = m (m r 0) i
/-- the parts that it shares -/
def Sh (m : MM) (r a : Int) : Prop := ∃ i : Int, 0 ≤ i ∧ i < m r 1 ∧ a = m (m r 0) i
theorem Op.fp (h : RowOk m r) (f : Op m r a) : Fp m r a := by
  rcases f with f | f | ⟨i, h1, h2, h3, h4⟩
  · exact Or.inl f
  · exact Or.inr (Or.inl f)
  · exact Or.inr (Or.inr ⟨i, by have := h.2.2.2.2.1; omega, h2, h3, h4⟩)
theorem Fp.split (h : RowOk m r) (f : Fp m r a) : Op m r a ∨ Sh m r a := by
  rcases f with f | f | ⟨i, h1, h2, h3, h4⟩
  · exact Or.inl (Or.inl f)
  · exact Or.inl (Or.inr (Or.inl f))
  · by_cases c : i < m r 1
    · exact Or.inr ⟨i, h1, c, h4⟩
    · exact Or.inl (Or.inr (Or.inr ⟨i, by omega, h2, h3, h4⟩))
/-- a number more: nothing but the row's own is written; it shares what it shared -/
theorem addA_own (h : RowIs m r l) (hpt : m r 2 / 64 < m (m r 0) (-2)) (hq : m (m r 0) (m r 2 / 64) ≠ 0) : (∀ a j : Int, ¬ Op m r a → addA m r v (m (m r 0) (m r 2 / 64)) a j = m a j) ∧ (∀ a, Op (addA m r v (m (m r 0) (m r 2 / 64))) r a → Op m r a) ∧ ∀ a, Sh (addA m r v (m (m r 0) (m r 2 / 64))) r a ↔ Sh m r a := by
  obtain ⟨q1, q2, q3, q4, q5⟩ := h.r4
  have hs := h.1.sz
  have h7 := h.1.2.2.2.2.2.2.1
  have hP := ((h.1.2.2.2.2.2.2.2.2 _ (by omega) hpt).resolve_left (fun hh => hq hh.1)).2
  obtain ⟨g1, g2, g3, g4, g5⟩ := addA_ok (v := v) h.1 hpt hq
  have g6 : addA m r v (m (m r 0) (m r 2 / 64)) (m r 0) (-2) = m (m r 0) (-2) := ((addA_ext (v := v) h.1.1 hP).2 _ q3 q4).2
  refine ⟨fun a j ha => addA_at (Or.inl fun hh => ha (Or.inr (Or.inr ⟨_, by omega, hpt, hq, hh⟩))) (Or.inl fun hh => ha (Or.inl hh)), fun a ha => ?_, fun a => ?_⟩
  · unfold Op at ha
    rw [g3, g4, g6] at ha
    rcases ha with f | f | ⟨i, h1, h2, h3, h4⟩
    · exact Or.inl f
    · exact Or.inr (Or.inl f)
    · rw [g5] at h3 h4
      exact Or.inr (Or.inr ⟨i, h1, h2, h3, h4⟩)
  · unfold Sh
    rw [g3, g4]
    simp only [g5]
theorem addB_own (h0 : 163 ≤ m 0 0) (h : RowIs m r l) (hpt : m r 2 / 64 < m (m r 0) (-2)) (hq : m (m r 0) (m r 2 / 64) = 0) : (∀ a j : Int, a < m 0 0 → a ≠ 0 → ¬ Op m r a → addB m r v a j = m a j) ∧ (∀ a, Op (addB m r v) r a → Op m r a ∨ m 0 0 ≤ a) ∧ ∀ a, Sh (addB m r v) r a ↔ Sh m r a := by
  obtain ⟨q1, q2, q3, q4, q5⟩ := h.r4
  have hs := h.1.sz
  have h7 := h.1.2.2.2.2.2.2.1
  obtain ⟨s1, s2, s3, s4, s5, s6, s7, s8, s9⟩ := stB_is h0 h hpt hq
  have e : addB m r v = addA (stB m r) r v (stB m r (stB m r r 0) (stB m r r 2 / 64)) := by
    rw [s6, s5, s8]
    rfl
  have e3 : ∀ i : Int, i ≠ m r 2 / 64 → stB m r (m r 0) i = m (m r 0) i := fun i hi => by
    unfold stB
    rw [ms_j hi, mn_o (by omega) (by omega)]
  obtain ⟨t1, t2, t3⟩ := addA_own (v := v) s1 (by rw [s5, s6, s9]; exact hpt) (by rw [s5, s6, s8]; omega)
  have hop : ∀ a, Op (stB m r) r a → Op m r a ∨ a = m 0 0 := fun a ha => by
    unfold Op at ha
    rw [s6, s7, s9] at ha
    rcases ha with f | f | ⟨i, h1, h2, h3, h4⟩
    · exact Or.inl (Or.inl f)
    · exact Or.inl (Or.inr (Or.inl f))
    · by_cases c : i = m r 2 / 64
      · rw [c, s8] at h4
        exact Or.inr h4
      · rw [e3 i c] at h3 h4
        exact Or.inl (Or.inr (Or.inr ⟨i, h1, h2, h3, h4⟩))
  rw [e]
  refine ⟨fun a j b1 b2 b3 => ?_, fun a ha => (hop a (t2 a ha)).imp_right fun hh => by omega, fun a => (t3 a).trans ?_⟩
  · rw [t1 a j fun hh => (hop a hh).elim b3 fun hh => by omega]
    exact s4 a j b1 b2 fun hh => b3 (Or.inr (Or.inl hh))
  · unfold Sh
    rw [s6, s7]
    constructor
    · rintro ⟨i, i0, i1, i2⟩
      rw [e3 i (by omega)] at i2
      exact ⟨i, i0, i1, i2⟩
    · rintro ⟨i, i0, i1, i2⟩
      exact ⟨i, i0, i1, by rw [e3 i (by omega)]; exact i2⟩
theorem addG_own (h0 : 163 ≤ m 0 0) (h : RowIs m r l) (hl : m (m r 0) (-2) < 4194304) : (∀ a, Op (addG m r) r a → Op m r a ∨ a = m 0 0) ∧ ∀ a, Sh (addG m r) r a ↔ Sh m r a := by
  obtain ⟨q1, q2, q3, q4, q5⟩ := h.r4
  have g1 := h.1.2.2.1
  have h6 := h.1.2.2.2.2.2.1
  obtain ⟨s1, s2, s3, s4, s5, s6, s7, s8, s9⟩ := addG_is h0 h hl
  have a3 : ∀ j : Int, 0 ≤ j → j < m (m r 0) (-2) → addG m r (m 0 0) j = m (m r 0) j := by
    intro j h1 h2
    unfold addG
    rw [ms_a (by omega)]
    unfold cpR
    rw [if_pos ⟨rfl, h1, h2⟩, mn_o (by omega) (by omega)]
  refine ⟨fun a ha => ?_, fun a => ?_⟩
  · unfold Op at ha
    rw [s6, s7, s8] at ha
    rcases ha with f | f | ⟨i, h1, h2, h3, h4⟩
    · exact Or.inl (Or.inl f)
    · exact Or.inr f
    · by_cases c : i < m (m r 0) (-2)
      · have h5 := h.1.2.2.2.2.1
        rw [a3 i (by omega) c] at h3 h4
        exact Or.inl (Or.inr (Or.inr ⟨i, h1, c, h3, h4⟩))
      · exact absurd (s9 i (by omega)) h3
  · unfold Sh
    rw [s6, s7]
    constructor
    · rintro ⟨i, i0, i1, i2⟩
      rw [a3 i i0 (by omega)] at i2
      exact ⟨i, i0, i1, i2⟩
    · rintro ⟨i, i0, i1, i2⟩
      exact ⟨i, i0, i1, by rw [a3 i i0 (by omega)]; exact i2⟩
theorem add_own (h0 : 163 ≤ m 0 0) (h : RowIs m r l) (hl : l.length < 268435456) : (∀ a j : Int, a < m 0 0 → a ≠ 0 → ¬ Op m r a → addM m r v a j = m a j) ∧ (∀ a, Op (addM m r v) r a → Op m r a ∨ m 0 0 ≤ a) ∧ ∀ a, Sh (addM m r v) r a ↔ Sh m r a := by
  have hs := h.1.sz
  have h26 := h.1.2.2.2.2.2.2.2.1
  have h9 := h.2.2.1
  unfold addM
  by_cases c1 : m r 2 / 64 < m (m r 0) (-2)
  · rw [if_pos c1]
    by_cases c2 : m (m r 0) (m r 2 / 64) = 0
    · rw [if_pos c2]
      exact addB_own h0 h c1 c2
    · rw [if_neg c2]
      obtain ⟨t1, t2, t3⟩ := addA_own (v := v) h c1 c2
      exact ⟨fun a j _ _ b3 => t1 a j b3, fun a ha => Or.inl (t2 a ha), t3⟩
  · rw [if_neg c1]
    obtain ⟨s1, s2, s3, s4, s5, s6, s7, s8, s9⟩ := addG_is h0 h (by omega)
    obtain ⟨u1, u2⟩ := addG_own h0 h (by omega)
    have g1 := h.1.2.2.1
    have hx := s3.1
    obtain ⟨t1, t2, t3⟩ := addB_own (v := v) (by omega) s1 (by rw [s5, s6, s8]; omega) (by rw [s5, s6]; exact s9 _ (by omega))
    refine ⟨fun a j b1 b2 b3 => ?_, fun a ha => ?_, fun a => (t3 a).trans (u2 a)⟩
    · rw [t1 a j (by omega) b2 fun hh => (u1 a hh).elim b3 fun hh => by omega]
      exact s4 a j b1 b2 fun hh => b3 (Or.inl hh)
    · rcases t2 a ha with b | b
      · exact (u1 a b).imp_right fun hh => by omega
      · exact Or.inr (by omega)
end OWN
