/-! THE TELLING, plain: numbers, parents, rivals stay in order. -/
section IVP
variable {x : CX} {s s' s2 : TS} {B : Int} {a b c e i j v k h n l w p r t o q : Int}
theorem find_iff (h5 : sg s 0 5 ≤ 12) : 0 ≤ find s v ↔ ∃ i : Int, 0 ≤ i ∧ i < sg s 0 5 ∧ sg s (2 + i) 0 = v := by
  constructor
  · intro h
    obtain ⟨g1, g2, g3⟩ := (find_b (s := s) (v := v)).resolve_left (by omega)
    exact ⟨_, g1, g2, g3⟩
  · rintro ⟨i, i0, i1, i2⟩
    rcases find_b (s := s) (v := v) with g | ⟨g1, -, -⟩
    · exact absurd i2 (find_none g h5 i i0 i1)
    · exact g1
theorem num_inj (hI : SI s) (i0 : 0 ≤ i) (i1 : i < sg s 0 5) (j0 : 0 ≤ j) (j1 : j < sg s 0 5) (h : sg s (2 + i) 0 = sg s (2 + j) 0) : i = j := by
  rcases Int.lt_trichotomy i j with c | c | c
  · have := hI.1 i j i0 c j1; omega
  · exact c
  · have := hI.1 j i j0 c i1; omega
theorem rem_there (hI : SI s) (h5 : sg s 0 5 ≤ 12) (k0 : 0 ≤ k) (k1 : k < sg s 0 5) : 0 ≤ find (sRem k s) v ↔ (0 ≤ find s v ∧ v ≠ sg s (2 + k) 0) := by
  rw [find_iff (by rw [rem_5]; omega), find_iff h5]
  constructor
  · rintro ⟨i, i0, i1, i2⟩
    rw [rem_5] at i1
    rw [rem_g i0 i1 (by decide)] at i2
    refine ⟨⟨_, by split <;> omega, by split <;> omega, i2⟩, fun hv => ?_⟩
    have := num_inj hI (i := if i < k then i else i + 1) (j := k) (by split <;> omega) (by split <;> omega) k0 k1 (i2.trans hv)
    split at this <;> omega
  · rintro ⟨⟨i, i0, i1, i2⟩, hv⟩
    have hne : i ≠ k := fun g => hv (by rw [← i2, g])
    refine ⟨if i < k then i else i - 1, by split <;> omega, by rw [rem_5]; split <;> omega, ?_⟩
    rw [rem_g (by split <;> omega) (by split <;> omega) (by decide)]
    have : (if (if i < k then i else i - 1) < k then (if i < k then i else i - 1) else (if i < k then i else i - 1) + 1) = i := by
      by_cases c : i < k
      · rw [if_pos c, if_pos c]
      · rw [if_neg c, if_neg (by omega)]; omega
    rw [this]
    exact i2
theorem rem_nr (hI : SI s) (h5 : sg s 0 5 ≤ 12) (k0 : 0 ≤ k) (k1 : k < sg s 0 5) (hg : 0 ≤ sg s (2 + k) 0) : ∀ (n : Nat) (p : Int), p < n → -1 ≤ p → p < sg s 0 6 → nr (sRem k s) p = if nr s p = sg s (2 + k) 0 then nr (sRem k s) (sg s (-1) (sg s (2 + k) 0)) else nr s p := by
  have hI' : SI (sRem k s) := rem_si hI
  have e6 : sg (sRem k s) 0 6 = sg s 0 6 := rem_o (Or.inl ⟨rfl, by decide, by decide⟩)
  intro n
  induction n with
  | zero =>
    intro p h0 h1 h2
    rw [show p = -1 by omega]
    have e1 : nr (sRem k s) (-1) = -1 := rfl
    have e2 : nr s (-1) = -1 := rfl
    rw [e1, e2, if_neg (by omega)]
  | succ n ih =>
    intro p h0 h1 h2
    by_cases hp : p = -1
    · have e1 : nr (sRem k s) (-1) = -1 := rfl
      have e2 : nr s (-1) = -1 := rfl
      rw [hp, e1, e2, if_neg (by omega)]
    · have hb := hI.2 p (by omega) h2
      have ht := rem_there (v := p) hI h5 k0 k1
      rw [nr_u hI' (by omega) (by rw [e6]; exact h2), nr_u hI (by omega) h2, rem_p]
      by_cases c : 0 ≤ find s p
      · rw [if_pos c]
        by_cases c2 : p = sg s (2 + k) 0
        · rw [if_pos c2, if_neg (fun g => (ht.mp g).2 c2), c2]
        · rw [if_neg c2, if_pos (ht.mpr ⟨c, c2⟩)]
      · rw [if_neg c, if_neg (fun g => c (ht.mp g).1)]
        exact ih _ (by omega) hb.1 (by omega)
theorem rem_two (h0 : 0 ≤ i) (h1 : i < sg s 0 5 - 1) : sg (sRem k s) (2 + i) 2 = if sg s (2 + (if i < k then i else i + 1)) 2 = sg s (2 + k) 0 then sg s (2 + k) 2 else sg s (2 + (if i < k then i else i + 1)) 2 := by
  have e : sg (sRem k s) (2 + i) 2 = (if 2 + i = 0 ∧ (2 : Int) = 5 then s.1 0 5 - 1 else if 2 ≤ 2 + i ∧ 2 + i < 2 + (s.1 0 5 - 1) then
    (if (2 : Int) = 2 ∧ s.1 (if 2 + i < 2 + k then 2 + i else 2 + i + 1) 2 = s.1 (2 + k) 0 then s.1 (2 + k) 2 else s.1 (if 2 + i < 2 + k then 2 + i else 2 + i + 1) 2) else s.1 (2 + i) 2) := rfl
  have h1' : i < s.1 0 5 - 1 := h1
  have e2 : (if 2 + i < 2 + k then 2 + i else 2 + i + 1) = 2 + (if i < k then i else i + 1) := by split <;> split <;> omega
  rw [e, if_neg (by omega), if_pos (by omega), e2]
  by_cases c : s.1 (2 + (if i < k then i else i + 1)) 2 = s.1 (2 + k) 0
  · rw [if_pos ⟨rfl, c⟩]; exact (if_pos c).symm
  · rw [if_neg (fun g => c g.2)]; exact (if_neg c).symm
theorem rem_ab (hI : SI s) (hA : AB s) (hW : SW x s B) (k0 : 0 ≤ k) (k1 : k < sg s 0 5) : AB (sRem k s) := by
  have h5 := hW.2.2.2.2.2.2.2.1.2
  have hg := (hW.br k0 k1).1
  obtain ⟨w1, w2⟩ := hA k k0 k1
  intro i i0 i1
  rw [rem_5] at i1
  have hj0 : 0 ≤ (if i < k then i else i + 1) := by split <;> omega
  have hj1 : (if i < k then i else i + 1) < sg s 0 5 := by split <;> omega
  rw [rem_two i0 i1, rem_g i0 i1 (by decide), rem_p]
  generalize (if i < k then i else i + 1) = jj at hj0 hj1
  obtain ⟨a1, a2⟩ := hA jj hj0 hj1
  have hn := (hW.br hj0 hj1).1
  have hp := hI.2 _ hn.1 hn.2
  have hpg := hI.2 _ hg.1 hg.2
  have hN := rem_nr hI h5 k0 k1 hg.1 (sg s (-1) (sg s (2 + jj) 0) + 1).toNat _ (by omega) hp.1 (by omega)
  have hG := rem_nr hI h5 k0 k1 hg.1 (sg s (-1) (sg s (2 + k) 0) + 1).toNat _ (by omega) hpg.1 (by omega)
  have hgb : nr s (sg s (-1) (sg s (2 + k) 0)) ≠ sg s (2 + k) 0 := by
    rcases nr_b hI hpg.1 (by omega) with z | ⟨z1, z2, z3⟩ <;> omega
  rw [if_neg hgb] at hG
  by_cases c : sg s (2 + jj) 2 = sg s (2 + k) 0
  · rw [if_pos c]
    refine ⟨by omega, ?_⟩
    have hfk : find s (sg s (2 + k) 0) = k := find_at hI k0 k1 h5
    rw [c, hfk, if_pos k0] at a2
    rw [← a2, if_pos rfl, hG, ← w2] at hN
    rw [hN]
    have ht := rem_there (v := sg s (2 + k) 2) hI h5 k0 k1
    by_cases c2 : 0 ≤ find s (sg s (2 + k) 2)
    · rw [if_pos c2, if_pos (ht.mpr ⟨c2, by omega⟩)]
    · rw [if_neg c2, if_neg (fun g => c2 (ht.mp g).1)]
  · rw [if_neg c]
    refine ⟨a1, ?_⟩
    have ht := rem_there (v := sg s (2 + jj) 2) hI h5 k0 k1
    rw [← a2] at hN
    rw [hN]
    by_cases c2 : 0 ≤ find s (sg s (2 + jj) 2)
    · rw [if_pos (ht.mpr ⟨c2, c⟩), if_pos c2, if_neg c]
    · rw [if_neg (fun g => c2 (ht.mp g).1), if_neg c2, if_neg (by omega)]
/-- rivals: one began the other -/
def RV2 (s : TS) : Prop := ∀ k : Int, 0 ≤ k → k < sg s 0 5 → sg s (2 + k) 3 = -1 ∨ (0 ≤ sg s (2 + k) 3 ∧ (sg s (-1) (sg s (2 + k) 3) = sg s (2 + k) 0 ∨ sg s (-1) (sg s (2 + k) 0) = sg s (2 + k) 3))
/-- a branch knows its parent -/
def PA (s : TS) : Prop := ∀ k : Int, 0 ≤ k → k < sg s 0 5 → sg s (2 + k) 1 = sg s (-1) (sg s (2 + k) 0)
def IV (s : TS) : Prop := SI s ∧ AB s ∧ RI s ∧ RV2 s ∧ PA s
theorem IV.si (h : IV s) : SI s := h.1
theorem IV.ab (h : IV s) : AB s := h.2.1
theorem IV.ri (h : IV s) : RI s := h.2.2.1
theorem IV.cg (h : Cg s s') (h1 : ∀ k : Int, 0 ≤ k → sg s' (2 + k) 1 = sg s (2 + k) 1) (h3 : ∀ k : Int, 0 ≤ k → sg s' (2 + k) 3 = sg s (2 + k) 3 ∨ sg s' (2 + k) 3 = -1) (h6 : 0 ≤ sg s 0 6) (hV : IV s) : IV s' := by
  refine ⟨h.si hV.1, h.ab hV.2.1, h.ri h3 h6 hV.2.2.1, fun k k0 k1 => ?_, fun k k0 k1 => ?_⟩
  · rw [h.1] at k1
    rcases h3 k k0 with g | g
    · rw [g, h.2.2.1 k k0, h.2.2.2.2, h.2.2.2.2]
      exact hV.2.2.2.1 k k0 k1
    · exact Or.inl g
  · rw [h.1] at k1
    rw [h1 k k0, h.2.2.1 k k0, h.2.2.2.2]
    exact hV.2.2.2.2 k k0 k1
theorem IV.of (h6 : 0 ≤ sg s 0 6) (hV : IV s) (h : ∀ a i : Int, (a = 0 ∧ (i = 5 ∨ i = 6)) ∨ (2 ≤ a ∧ (i = 0 ∨ i = 1 ∨ i = 2 ∨ i = 3)) ∨ a = -1 → sg s' a i = sg s a i) : IV s' :=
  IV.cg (Cg.of fun a i hh => h a i (by omega)) (fun k k0 => h _ _ (by omega)) (fun k k0 => Or.inl (h _ _ (by omega))) h6 hV
theorem IV.rem (hV : IV s) (hW : SW x s B) (k0 : 0 ≤ k) (k1 : k < sg s 0 5) : IV (sRem k s) := by
  have e6 : sg (sRem k s) 0 6 = sg s 0 6 := rem_o (Or.inl ⟨rfl, by decide, by decide⟩)
  refine ⟨rem_si hV.1, rem_ab hV.1 hV.2.1 hW k0 k1, fun i i0 i1 => ?_, fun i i0 i1 => ?_, fun i i0 i1 => ?_⟩
  · rw [rem_5] at i1
    rw [rem_g i0 i1 (by decide), e6]
    exact hV.2.2.1 _ (by split <;> omega) (by split <;> omega)
  · rw [rem_5] at i1
    rw [rem_g i0 i1 (by decide), rem_g i0 i1 (by decide), rem_p, rem_p]
    exact hV.2.2.2.1 _ (by split <;> omega) (by split <;> omega)
  · rw [rem_5] at i1
    rw [rem_g i0 i1 (by decide), rem_g i0 i1 (by decide), rem_p]
    exact hV.2.2.2.2 _ (by split <;> omega) (by split <;> omega)
/-- a branch more, below one that is there (or the first) -/
theorem begin_iv (hV : IV s) (hW : SW x s B) (h1 : sg s 0 5 < 12) (hp : p = -1 ∨ 0 ≤ find s p) (hp6 : p < sg s 0 6) : IV (sBegin p l s) := by
  have h5 := hW.2.2.2.2.2.2.2.1
  have h6 := hW.2.2.2.2.2.1
  have hp0 : -1 ≤ p := by
    rcases hp with g | g
    · omega
    · obtain ⟨g1, g2, g3⟩ := (find_b (s := s) (v := p)).resolve_left (by omega)
      have := (hW.br g1 g2).1; omega
  have hI := hV.1
  have hI' : SI (sBegin p l s) := by
    refine ⟨fun i k i0 i1 i2 => ?_, fun n n0 n1 => ?_⟩
    · rw [begin_5] at i2
      rw [begin_b i0 (by omega)]
      by_cases c : k = sg s 0 5
      · rw [c, begin_n h5.1]
        have := (hW.br i0 (by omega)).1
        show sg s (2 + i) 0 < sg s 0 6
        omega
      · rw [begin_b (by omega) (by omega)]
        exact hI.1 i k i0 i1 (by omega)
    · rw [begin_6] at n1
      rw [begin_p h5.1]
      by_cases c : n = sg s 0 6
      · rw [if_pos c]; omega
      · rw [if_neg c]; exact hI.2 n n0 (by omega)
  have hfb : ∀ v, v < sg s 0 6 → find (sBegin p l s) v = find s v := fun v hv => find_begin h5.1 (by omega)
  have hnr : ∀ (n : Nat) (q : Int), q < n → -1 ≤ q → q < sg s 0 6 → nr (sBegin p l s) q = nr s q := by
    intro n
    induction n with
    | zero => intro q q0 q1 q2; rw [show q = -1 by omega]; rfl
    | succ n ih =>
      intro q q0 q1 q2
      by_cases hq : q = -1
      · rw [hq]; rfl
      · have := hI.2 q (by omega) q2
        rw [nr_u hI' (by omega) (by rw [begin_6]; omega), nr_u hI (by omega) q2, hfb q q2, begin_p h5.1, if_neg (show ¬ q = sg s 0 6 by omega), ih _ (by omega) this.1 (by omega)]
  refine ⟨hI', fun k k0 k1 => ?_, fun k k0 k1 => ?_, fun k k0 k1 => ?_, fun k k0 k1 => ?_⟩
  · rw [begin_5] at k1
    by_cases c : k = sg s 0 5
    · rw [c, begin_n h5.1, begin_n h5.1]
      show (-1 ≤ p ∧ p < sg s 0 6) ∧ (if 0 ≤ find (sBegin p l s) p then p else -1) = nr (sBegin p l s) (sg (sBegin p l s) (-1) (sg s 0 6))
      refine ⟨⟨hp0, hp6⟩, ?_⟩
      rw [begin_p h5.1, if_pos rfl, hfb p hp6, hnr (p + 1).toNat p (by omega) hp0 hp6]
      rcases hp with g | g
      · rw [g]
        have : find s (-1) = -1 := find_n fun i i0 i1 => by have := (hW.br i0 i1).1; omega
        rw [this]
        rfl
      · have hp1 : 0 ≤ p := by
          obtain ⟨g1, g2, g3⟩ := (find_b (s := s) (v := p)).resolve_left (by omega)
          have := (hW.br g1 g2).1; omega
        rw [if_pos g, nr_u hI hp1 hp6, if_pos g]
    · have k1' : k < sg s 0 5 := by omega
      have hn := (hW.br k0 k1').1
      have hpn := hI.2 _ hn.1 hn.2
      obtain ⟨a1, a2⟩ := hV.2.1 k k0 k1'
      rw [begin_b k0 k1', begin_b k0 k1', begin_p h5.1, if_neg (show ¬ sg s (2 + k) 0 = sg s 0 6 by omega), hfb _ (by omega), hnr (sg s (-1) (sg s (2 + k) 0) + 1).toNat _ (by omega) hpn.1 (by omega)]
      exact ⟨a1, a2⟩
  · rw [begin_5] at k1
    rw [begin_6]
    by_cases c : k = sg s 0 5
    · rw [c, begin_n h5.1]
      show (-1 : Int) < _
      omega
    · rw [begin_b k0 (by omega)]
      have := hV.2.2.1 k k0 (by omega)
      omega
  · rw [begin_5] at k1
    by_cases c : k = sg s 0 5
    · rw [c, begin_n h5.1]
      exact Or.inl rfl
    · have k1' : k < sg s 0 5 := by omega
      have hn := (hW.br k0 k1').1
      rw [begin_b k0 k1', begin_b k0 k1', begin_p h5.1, begin_p h5.1, if_neg (by omega : ¬ sg s (2 + k) 0 = sg s 0 6)]
      have hr := hV.2.2.1 k k0 k1'
      rw [if_neg (show ¬ sg s (2 + k) 3 = sg s 0 6 by omega)]
      exact hV.2.2.2.1 k k0 k1'
  · rw [begin_5] at k1
    by_cases c : k = sg s 0 5
    · rw [c, begin_n h5.1, begin_n h5.1, begin_p h5.1]
      show p = if sg s 0 6 = sg s 0 6 then p else _
      rw [if_pos rfl]
    · have k1' : k < sg s 0 5 := by omega
      have hn := (hW.br k0 k1').1
      rw [begin_b k0 k1', begin_b k0 k1', begin_p h5.1, if_neg (show ¬ sg s (2 + k) 0 = sg s 0 6 by omega)]
      exact hV.2.2.2.2 k k0 k1'
end IVP
