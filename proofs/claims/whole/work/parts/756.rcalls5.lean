/-! THE REFERENCE'S CALLS: a schedule's field; togglePause. -/
section RXC5
variable {m m' : MM} {e e' : ES} {a b c i j k o r v w p t s p1 p2 q A : Int} {l : List Int}
theorem RXE.sc10 (h : RXE m e) (hc : CN e) (p0 : 0 ≤ p) (p1 : p < e.1 10 2) (j0 : 0 ≤ j) (j1 : j ≤ 8) : RXE (mset m (128 + j) p v) (eS e (10000 + p) j v) := by
  obtain ⟨k1, k2, k3, k4, k5, k6, k7, k8, k9, k10, k11⟩ := h
  obtain ⟨c1, c2, c3, c4, c5⟩ := hc
  have he : ∀ a u : Int, a ≠ 10000 + p → (eS e (10000 + p) j v).1 a u = e.1 a u := fun a u ha => eS_a ha
  have hm : ∀ a u : Int, a ≠ 128 + j → mset m (128 + j) p v a u = m a u := fun a u ha => ms_a ha
  have hn : ∀ r : Int, 0 ≤ r → hN (eS e (10000 + p) j v) r = e.1 (71000 + r) 1 := fun r r0 => he _ _ (by omega)
  refine ⟨k1.fr (fun j hj => hm _ _ (by omega)) (fun j => he _ _ (by omega)) (fun c g1 g2 => he _ _ (by omega)) (fun j => he _ _ (by omega)), k2.fr (fun a j g => hm _ _ (by omega)) (fun c g1 g2 => he _ _ (by omega)) (fun c _ _ => rfl) (fun k g0 g1 => ?_), k3.fr (fun a j g1 g2 => hm _ _ (by omega)) (fun c j g1 g2 => he _ _ (by omega)), k4.fr (fun a j g => hm _ _ (by omega)) (he _ _ (by omega)) (fun a j g1 g2 => he _ _ (by omega)) (fun r r0 r1 => ⟨hn r r0, rfl⟩) c1.2, k5.fr (fun a j g1 g2 => hm _ _ (by omega)) (he _ _ (by omega)) (fun a j g1 g2 => he _ _ (by omega)) c2.2, k6.fr (hm _ _ (by omega)) (fun a j g1 g2 => hm _ _ (by omega)) (he _ _ (by omega)) (fun r r0 r1 => ⟨rfl, rfl⟩), k7.fr (fun a j g1 g2 => hm _ _ (by omega)) (he _ _ (by omega)) (fun a j g => he _ _ (by omega)) c3.2, k8.fr (fun a j g1 g2 => hm _ _ (by omega)) (he _ _ (by omega)) (fun a j g1 g2 => he _ _ (by omega)) (fun r r0 r1 => ⟨hn r r0, rfl⟩) c1.2, fun p' g0 g1 i i0 i1 => ?_, k10.fr (fun j => hm _ _ (by omega)) rfl, k11.fr (fun a j g => hm _ _ (by omega)) (he _ _ (by omega)) (fun r r0 r1 => ⟨hn r r0, rfl, fun i => he _ _ (by omega)⟩)⟩
  · have := c5 (48 + 4 * k) (isT_4 g0 g1)
    rw [show 49 + 4 * k = 48 + 4 * k + 1 by omega]
    exact this
  · rw [he _ _ (by omega)] at g1
    by_cases c : p' = p ∧ i = j
    · rw [c.1, c.2, ms_e, eS_e]
    · have hm2 : mset m (128 + j) p v (128 + i) p' = m (128 + i) p' := if_neg fun hh => c ⟨hh.2, by have := hh.1; omega⟩
      have he2 : (eS e (10000 + p) j v).1 (10000 + p') i = e.1 (10000 + p') i := if_neg fun hh => c ⟨by have := hh.1; omega, hh.2⟩
      rw [hm2, he2]
      exact k9 p' g0 g1 i i0 i1
theorem rIsS (h : RXE m e) (hc : CN e) : fm_X12_isSchedule p m = some (if 0 ≤ p ∧ p < e.1 10 2 then 1 else 0) := by
  have e69 : m 68 69 = e.1 10 2 := h.1.2.2.2.2.2.2.2.2.1
  have n10 := hc.2.2.2.1
  unfold fm_X12_isSchedule
  rw [lx_p, e69, w32_id (by omega) (by omega), bp_t isIn_e, gd_t (by split <;> omega)]
  by_cases c : 0 ≤ p ∧ p < e.1 10 2
  · rw [if_pos c, if_pos (by omega)]
  · rw [if_neg c, if_neg (by omega)]
theorem x_togglePause (h : RXE m e) (hc : CN e) : OKr (fm_X12_togglePause p1 m) cd1 (pcTogglePause p1 e) := by
  unfold fm_X12_togglePause pcTogglePause
  rw [bp_t (rIsS h hc)]
  by_cases c : 0 ≤ p1 ∧ p1 < e.1 10 2
  · have h0 := h.th (q := 0) hc
    have n10 := hc.2.2.2.1
    have k133 : mset m 68 129 0 133 p1 = e.1 (10000 + p1) 5 := h0.2.2.2.2.2.2.2.2.1 p1 c.1 c.2 5 (by decide) (by decide)
    have fin : ∀ z : Int, (z = 0 ∨ z = 1) → OKr (up (mset m 68 129 0) 133 p1 z fun m_41 => lx (m_41 133 p1) fun x_54 => gd (x_54 = 0 ∨ x_54 = 1) <| some (x_54, m_41)) cd1 (.inl z, eS e (10000 + p1) 5 z) := fun z hz => by
      rw [up_t, lx_p, ms_e, gd_t hz]
      exact ⟨_, _, rfl, h0.sc10 (j := 5) hc c.1 c.2 (by decide) (by decide), fun z' hz' => ⟨Sum.inl.inj hz', by rw [ms_a (by decide)]; exact ms_e⟩, fun q hq => absurd hq (by simp)⟩
    rw [if_pos c, if_neg (show ¬ (1 : Int) = 0 by decide), if_pos c]
    unfold fj_X12_togglePause_14
    rw [bd_t fails_e, if_neg (show ¬ (0 : Int) < 0 by decide), if_pos (show (0 : Int) = 0 from rfl), gd_t (by omega), lx_p, k133]
    by_cases c5 : e.1 (10000 + p1) 5 = 0
    · rw [if_pos c5, if_pos c5]
      exact fin 1 (Or.inr rfl)
    · rw [if_neg c5, if_neg c5]
      exact fin 0 (Or.inl rfl)
  · rw [if_neg c, if_pos (show (0 : Int) = 0 from rfl), if_neg c]
    unfold fj_X12_togglePause_14
    rw [bd_t fails_e, if_pos (show (0 : Int) < 1 by decide), if_neg (show ¬ (1 : Int) = 0 by decide)]
    exact OKr.no h hc rfl
end RXC5
