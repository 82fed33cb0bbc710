/-! THE ENGINE: a row is cut among the parts that it shares. -/
section CUT
variable {m m' M : MM} {r a b i j v n z y P T S2 : Int} {l : List Int}
/-- the parts from a place to another are there no more -/
def nulls (M : MM) (T a b : Int) : MM := fun x j => if x = T ∧ a ≤ j ∧ j < b then 0 else M x j
theorem cut_loop {k : MM → Option (Int × MM)} (hrT : r ≠ T) (hT : 4 ≤ T) (y0 : 0 ≤ y) : ∀ (n : Nat) (i : Int) (M : MM), y < i → i ≤ S2 → M r 1 = S2 → M r 0 = T → okc M T 108 → S2 ≤ M T (-2) → M T (-2) < 8388608 → S2 - i < n → fl_X5_cut_26 r y k n i M = k (nulls M T i S2) := by
  intro n
  induction n with
  | zero =>
    intro i M h0 hi h1 h2 h3 h4 h5 h6
    omega
  | succ n ih =>
    intro i M h0 hi h1 h2 h3 h4 h5 h6
    unfold fl_X5_cut_26
    simp only [lx_p]
    rw [h1]
    by_cases c : i < S2
    · have e : nulls (mset M T i 0) T (i + 1) S2 = nulls M T i S2 := by
        funext x j
        show (if x = T ∧ i + 1 ≤ j ∧ j < S2 then 0 else if x = T ∧ j = i then 0 else M x j) = if x = T ∧ i ≤ j ∧ j < S2 then 0 else M x j
        by_cases c1 : x = T ∧ i ≤ j ∧ j < S2
        · rw [if_pos c1]
          by_cases c2 : j = i
          · rw [if_neg (by omega), if_pos ⟨c1.1, c2⟩]
          · rw [if_pos ⟨c1.1, by omega, c1.2.2⟩]
        · rw [if_neg c1, if_neg (by omega), if_neg (by omega)]
      have hx : Ext M (mset M T i 0) := mset_ext hT (by omega)
      have hr := ih (i + 1) (mset M T i 0) (by omega) (by omega) (by rw [ms_a hrT]; exact h1) (by rw [ms_a hrT]; exact h2) (hx.ok h3) (by rw [ms_j (by omega)]; exact h4) (by rw [ms_j (by omega)]; exact h5) (by omega)
      rw [if_pos c, h2, gd_t h3, w32_id (by omega) (by omega), if_pos (by omega), if_neg (by omega)]
      unfold fj_X5_cut_72
      simp only [lx_p]
      rw [if_pos trivial, h2, gd_t h3, gd_t ⟨by omega, by omega⟩, up_t, w32_id (by omega) (by omega), hr, e]
    · have e : nulls M T i S2 = M := by
        funext x j
        show (if x = T ∧ i ≤ j ∧ j < S2 then 0 else M x j) = M x j
        rw [if_neg (by omega)]
      rw [if_neg c, e]
/-- how a row stands behind a cut among its shared parts -/
theorem cut_fin (h : RowIs m r l) (z0 : 0 ≤ z) (z1 : z / 64 < m r 1) (hx : Ext m M) (f1 : ∀ a j : Int, a < m 0 0 → a ≠ 0 → a ≠ r → a ≠ m r 0 → M a j = m a j) (f2 : M r 0 = m r 0 ∧ M r 1 = z / 64 ∧ M r 2 = z) (f3 : ∀ i : Int, M (m r 0) i = if i = z / 64 then P else if z / 64 < i ∧ i < m r 1 then 0 else m (m r 0) i) (f4 : (P = 0 ∧ z % 64 = 0) ∨ (P = m 0 0 ∧ 163 ≤ m 0 0 ∧ okc M P 101 ∧ M P (-2) = 64 ∧ ∀ j : Int, 0 ≤ j → M P j = m (m (m r 0) (z / 64)) j)) : RowIs M r (l.take z.toNat) ∧ (∀ a j : Int, a < m 0 0 → a ≠ 0 → ¬ Op m r a → M a j = m a j) ∧ (∀ a, Op M r a → Op m r a ∨ m 0 0 ≤ a) ∧ (∀ a, Sh M r a → Sh m r a) ∧ (∀ a, OpP M r a → OpP m r a ∨ a = m 0 0) ∧ M (M r 0) (-2) = m (m r 0) (-2) := by
  obtain ⟨q1, q2, q3, q4, q5⟩ := h.r4
  have hs := h.1.sz
  have h9 := h.2.2.1
  have hsh := h.1
  obtain ⟨g1, g2, g3, g4, g5, g6, g7, g8, g9⟩ := hsh
  obtain ⟨e0, e1, e2⟩ := f2
  have eL : M (m r 0) (-2) = m (m r 0) (-2) := (hx.2 _ q3 q4).2
  have hpt : ∀ i : Int, 0 ≤ i → i < m (m r 0) (-2) → m (m r 0) i ≠ 0 → PtOk m (m (m r 0) i) := fun i i0 i1 i2 => ((g9 i i0 i1).resolve_left fun g => i2 g.1).2
  have hpM : ∀ q : Int, PtOk m q → PtOk M q := fun q g => ⟨hx.ok g.1, g.2.1, ((hx.2 _ g.1.1 g.1.2.1).2).trans g.2.2⟩
  have plt : ∀ i : Int, 0 ≤ i → i < m (m r 0) (-2) → m (m r 0) i ≠ 0 → m (m r 0) i < m 0 0 := fun i i0 i1 i2 => (hpt i i0 i1 i2).1.2.1
  have hP : P = 0 ∨ P = m 0 0 := f4.elim (fun g => Or.inl g.1) fun g => Or.inr g.1
  have hm0 : 0 < m 0 0 := by omega
  have zl : z < l.length := by omega
  refine ⟨⟨⟨hx.ok g1, by rw [e0]; exact hx.ok g2, by rw [e0, eL]; exact g3, by rw [e0, eL]; exact g4, by rw [e1]; omega, by rw [e0, eL, e1]; omega, by rw [e1, e2]; omega, by rw [e0, eL, e2]; omega, fun i i0 i1 => ?_⟩, fun i j i0 i1 j0 j1 n0 ee => ?_, ?_, fun i v hv => ?_⟩, fun a j b1 b2 b3 => ?_, fun a ha => ?_, fun a ha => ?_, fun a ha => ?_, by rw [e0, eL]⟩
  · rw [e0, eL] at i1
    rw [e0, e2, f3]
    by_cases c1 : i = z / 64
    · rw [if_pos c1]
      rcases f4 with ⟨p1, p2⟩ | ⟨p1, p2, p3, p4, p5⟩
      · exact Or.inl ⟨p1, by omega⟩
      · exact Or.inr ⟨by omega, p3, by omega, p4⟩
    · rw [if_neg c1]
      by_cases c2 : z / 64 < i ∧ i < m r 1
      · rw [if_pos c2]
        exact Or.inl ⟨rfl, by omega⟩
      · rw [if_neg c2]
        rcases g9 i i0 i1 with g | g
        · exact Or.inl ⟨g.1, by omega⟩
        · exact Or.inr ⟨g.1, hpM _ g.2⟩
  · rw [e0, eL] at i1 j1
    rw [e0] at n0 ee
    rw [f3] at n0 ee
    rw [f3] at ee
    by_cases c1 : i = z / 64
    · rw [if_pos c1] at n0 ee
      by_cases c2 : j = z / 64
      · omega
      · rw [if_neg c2] at ee
        by_cases c3 : z / 64 < j ∧ j < m r 1
        · rw [if_pos c3] at ee
          omega
        · rw [if_neg c3] at ee
          have := plt j j0 j1 (by omega)
          omega
    · rw [if_neg c1] at n0 ee
      by_cases c3 : z / 64 < i ∧ i < m r 1
      · rw [if_pos c3] at n0
        exact absurd rfl n0
      · rw [if_neg c3] at n0 ee
        have hl := plt i i0 i1 n0
        by_cases c2 : j = z / 64
        · rw [if_pos c2] at ee
          omega
        · rw [if_neg c2] at ee
          by_cases c4 : z / 64 < j ∧ j < m r 1
          · rw [if_pos c4] at ee
            omega
          · rw [if_neg c4] at ee
            exact h.2.1 i j i0 i1 j0 j1 n0 ee
  · rw [e2, List.length_take]
    omega
  · have hi : i < z.toNat ∧ l[i]? = some v := by
      have := (List.getElem?_eq_some_iff.mp hv).1
      rw [List.length_take] at this
      refine ⟨by omega, ?_⟩
      rw [List.getElem?_take_of_lt (by omega)] at hv
      exact hv
    have hrv := h.2.2.2 i v hi.2
    obtain ⟨p1, p2, p3, p4⟩ := h.1.pt (i := (i : Int)) (by omega) (by omega)
    rw [← hrv]
    unfold rv
    rw [e0, f3]
    by_cases c1 : (i : Int) / 64 = z / 64
    · rw [if_pos c1]
      rcases f4 with ⟨w1, w2⟩ | ⟨w1, w2, w3, w4, w5⟩
      · omega
      · rw [w5 _ (by omega), c1]
    · rw [if_neg c1, if_neg (by omega)]
      have pl := p4.1
      refine f1 _ _ pl.2.1 (by have := pl.1; omega) ?_ ?_
      · exact okc_ap p4.1 g1 (by decide)
      · exact okc_ap p4.1 g2 (by decide)
  · exact f1 a j b1 b2 (fun e => b3 (Or.inl e)) (fun e => b3 (Or.inr (Or.inl e)))
  · unfold Op at ha
    rw [e0, e1, eL] at ha
    rcases ha with g | g | ⟨i, i0, i1, i2, i3⟩
    · exact Or.inl (Or.inl g)
    · exact Or.inl (Or.inr (Or.inl g))
    · rw [f3] at i2 i3
      by_cases c1 : i = z / 64
      · rw [if_pos c1] at i2 i3
        exact Or.inr (by omega)
      · rw [if_neg c1] at i2 i3
        by_cases c2 : z / 64 < i ∧ i < m r 1
        · rw [if_pos c2] at i2
          exact absurd rfl i2
        · rw [if_neg c2] at i2 i3
          exact Or.inl (Or.inr (Or.inr ⟨i, by omega, i1, i2, i3⟩))
  · obtain ⟨i, i0, i1, i2⟩ := ha
    rw [e1] at i1
    rw [e0, f3, if_neg (by omega), if_neg (by omega)] at i2
    exact ⟨i, i0, by omega, i2⟩
  · obtain ⟨i, i0, i1, i2, i3⟩ := ha
    rw [e1] at i0
    rw [e0, eL] at i1
    rw [e0, f3] at i2 i3
    by_cases c1 : i = z / 64
    · rw [if_pos c1] at i2 i3
      exact Or.inr (by omega)
    · rw [if_neg c1] at i2 i3
      by_cases c2 : z / 64 < i ∧ i < m r 1
      · rw [if_pos c2] at i2
        exact absurd rfl i2
      · rw [if_neg c2] at i2 i3
        exact Or.inl ⟨i, by omega, i1, i2, i3⟩
end CUT
