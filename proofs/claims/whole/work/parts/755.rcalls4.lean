/-! THE REFERENCE'S CALLS: an activity's field, beat. -/
section RXC4
variable {m m' : MM} {e e' : ES} {a b c i j k o r v w p t s p1 p2 q A : Int} {l : List Int}
theorem RXE.ac (h : RXE m e) (hc : CN e) (p0 : 0 ≤ p) (p1 : p < e.1 8 2) (hj : (A = 102 ∧ j = 5) ∨ (A = 103 ∧ j = 6) ∨ (A = 105 ∧ j = 7) ∨ (A = 106 ∧ j = 8) ∨ (A = 107 ∧ j = 9) ∨ (A = 108 ∧ j = 10)) : RXE (mset m A p v) (eS e (8000 + p) j v) := by
  obtain ⟨k1, k2, k3, k4, k5, k6, k7, k8, k9, k10, k11⟩ := h
  obtain ⟨c1, c2, c3, c4, c5⟩ := hc
  have he : ∀ a u : Int, a ≠ 8000 + p → (eS e (8000 + p) j v).1 a u = e.1 a u := fun a u ha => eS_a ha
  have hm : ∀ a u : Int, a ≠ A → mset m A p v a u = m a u := fun a u ha => ms_a ha
  have hn : ∀ r : Int, 0 ≤ r → hN (eS e (8000 + p) j v) r = hN e r := fun r r0 => he _ _ (by omega)
  have key : ∀ B i : Int, (B = A ↔ i = j) → m B p = e.1 (8000 + p) i → mset m A p v B p = (eS e (8000 + p) j v).1 (8000 + p) i := fun B i hB hb => by
    by_cases c : B = A
    · rw [c, hB.mp c, ms_e, eS_e]
    · rw [ms_a c, eS_j (fun hh => c (hB.mpr hh))]
      exact hb
  refine ⟨k1.fr (fun j hj => hm _ _ (by omega)) (fun j => he _ _ (by omega)) (fun c g1 g2 => he _ _ (by omega)) (fun j => he _ _ (by omega)), k2.fr (fun a j g => hm _ _ (by omega)) (fun c g1 g2 => he _ _ (by omega)) (fun c _ _ => rfl) (fun k g0 g1 => ?_), k3.fr (fun a j g1 g2 => hm _ _ (by omega)) (fun c j g1 g2 => he _ _ (by omega)), k4.fr (fun a j g => hm _ _ (by omega)) (he _ _ (by omega)) (fun a j g1 g2 => he _ _ (by omega)) (fun r r0 r1 => ⟨hn r r0, rfl⟩) c1.2, fun p' g0 g1 => ?_, k6.fr (hm _ _ (by omega)) (fun a j g1 g2 => hm _ _ (by omega)) (he _ _ (by omega)) (fun r r0 r1 => ⟨rfl, rfl⟩), k7.fr (fun a j g1 g2 => hm _ _ (by omega)) (he _ _ (by omega)) (fun a j g => he _ _ (by omega)) c3.2, k8.fr (fun a j g1 g2 => hm _ _ (by omega)) (he _ _ (by omega)) (fun a j g1 g2 => he _ _ (by omega)) (fun r r0 r1 => ⟨hn r r0, rfl⟩) c1.2, k9.fr (fun a j g1 g2 => hm _ _ (by omega)) (he _ _ (by omega)) (fun a j g1 g2 => he _ _ (by omega)) c4.2, k10.fr (fun j => hm _ _ (by omega)) rfl, k11.fr (fun a j g => hm _ _ (by omega)) (he _ _ (by omega)) (fun r r0 r1 => ⟨hn r r0, rfl, fun i => he _ _ (by omega)⟩)⟩
  · have := c5 (48 + 4 * k) (isT_4 g0 g1)
    rw [show 49 + 4 * k = 48 + 4 * k + 1 by omega]
    exact this
  · rw [he _ _ (by omega)] at g1
    by_cases c : p' = p
    · subst c
      obtain ⟨b0, b1, b2, b3, b5, b6, b4, b7, b8, b9, b10⟩ := k5 p' g0 g1
      exact ⟨key 98 0 (by omega) b0, key 99 1 (by omega) b1, key 100 2 (by omega) b2, key 101 3 (by omega) b3, key 102 5 (by omega) b5, key 103 6 (by omega) b6, key 104 4 (by omega) b4, key 105 7 (by omega) b7, key 106 8 (by omega) b8, key 107 9 (by omega) b9, key 108 10 (by omega) b10⟩
    · have hm2 : ∀ a, mset m A p v a p' = m a p' := fun a => if_neg fun hh => c hh.2
      simp only [hm2, he (8000 + p') _ (show 8000 + p' ≠ 8000 + p by omega)]
      exact k5 p' g0 g1
theorem x_beat (h : RXE m e) (hc : CN e) : OKr (fm_X12_beat p1 p2 m) cd3 (pcBeat p1 p2 e) := by
  have hv : fm_X12_isValue p2 m = some (if 0 ≤ p2 ∧ p2 < 1000 then 1 else 0) := by
    unfold fm_X12_isValue
    rw [bp_t isIn_e, gd_t (by split <;> omega)]
    by_cases c : 0 ≤ p2 ∧ p2 < 1000
    · rw [if_pos c, if_pos (by omega)]
    · rw [if_neg c, if_neg (by omega)]
  unfold fm_X12_beat pcBeat
  rw [bp_t (rIsA h hc)]
  by_cases c : 0 ≤ p1 ∧ p1 < e.1 8 2
  · rw [if_pos c, if_neg (show ¬ (1 : Int) = 0 by decide), if_pos c, bp_t hv]
    by_cases c2 : 0 ≤ p2 ∧ p2 < 1000
    · have h0 := h.th (q := 0) hc
      have n8 := hc.2.1
      obtain ⟨-, -, -, -, k102, -, -, -, -, -, k108⟩ := h0.2.2.2.2.1 p1 c.1 c.2
      have e0 : mset m 68 129 0 68 0 = e.1 4 14 := h0.1.1
      rw [if_pos c2, if_neg (show ¬ (1 : Int) = 0 by decide), if_pos c2]
      unfold fj_X12_beat_27
      rw [bd_t fails_e, if_neg (show ¬ (0 : Int) < 0 by decide), if_pos (show (0 : Int) = 0 from rfl), gd_t (by omega), lx_p, k102]
      by_cases c5 : e.1 (8000 + p1) 5 = 1
      · have s1 := h0.ac (v := p2) hc c.1 c.2 (A := 108) (j := 10) (by decide)
        have hc1 : CN (eS e (8000 + p1) 10 p2) := by
          obtain ⟨d1, d2, d3, d4, d5⟩ := hc
          refine ⟨by rw [eS_a (by omega)]; exact d1, by rw [eS_a (by omega)]; exact d2, by rw [eS_a (by omega)]; exact d3, by rw [eS_a (by omega)]; exact d4, fun t ht => by rw [eS_a (by have := isT_b ht; omega)]; exact d5 t ht⟩
        have s2 := s1.ac (v := e.1 4 14) hc1 c.1 (by rw [eS_a (by omega)]; exact c.2) (A := 107) (j := 9) (by decide)
        rw [if_pos c5, if_pos c5, lx_p, k108, up_t, lx_p, ms_a (by decide), e0, up_t]
        refine ⟨_, _, rfl, s2, fun z hz => ⟨Sum.inl.inj hz, ?_⟩, fun q hq => absurd hq (by simp)⟩
        rw [ms_a (by decide), ms_a (by decide)]
        exact ms_e
      · rw [if_neg c5, if_neg c5]
        exact OKr.yes h0 ms_e rfl
    · rw [if_neg c2, if_pos (show (0 : Int) = 0 from rfl), if_neg c2]
      unfold fj_X12_beat_27
      rw [bd_t fails_e, if_pos (show (0 : Int) < 2 by decide), if_neg (show ¬ (1 : Int) = 0 by decide)]
      exact OKr.no h hc rfl
  · rw [if_neg c, if_pos (show (0 : Int) = 0 from rfl), if_neg c]
    unfold fj_X12_beat_27
    rw [bd_t fails_e, if_pos (show (0 : Int) < 1 by decide), if_neg (show ¬ (1 : Int) = 0 by decide)]
    exact OKr.no h hc rfl
end RXC4
