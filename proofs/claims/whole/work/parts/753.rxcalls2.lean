/-! THE REFERENCE'S CALLS: an activity's field, beat; a schedule's field, togglePause. -/
section RXC4
variable {m m' : MM} {e e' : ES} {a b c i j k o r v w p t s p1 p2 q A : Int} {l : List Int}
/-- fields of one activity -/
theorem RXE.ac (h : RXE m e) (hc : CN e) (p0 : 0 ≤ p) (p1 : p < e.1 8 2) (fR : ∀ a j : Int, ¬ (a = 102 ∨ a = 103 ∨ (105 ≤ a ∧ a ≤ 108)) ∨ j ≠ p → 68 ≤ a → a ≤ 141 → (a = 68 → j ≤ 84) → m' a j = m a j) (fE : ∀ a u : Int, a ≠ 8000 + p → e'.1 a u = e.1 a u) (f2 : e'.2 = e.2) (hq : RXa1 m' e' p) : RXE m' e' := by
  have n8 := hc.2.1
  have n7 := hc.1
  refine h.chg hc (W := fun a => a = 102 ∨ a = 103 ∨ (105 ≤ a ∧ a ≤ 108)) (U := fun a => a = 1000000) (V := fun a => a = 8000 + p) (fun a j g1 g2 g3 => fR _ _ (Or.inl g3) (by omega) g2 (by omega)) (fun u g1 _ => fR _ _ (by omega) (by decide) (by decide) (fun _ => g1)) ⟨fE, fun c _ => congrFun (congrArg (fun x => x.2.1) f2) c, fun i _ => congrFun (congrArg (fun x => x.1) f2) i⟩ (by rw [fE _ _ (by omega)]; omega) (DdM.of fun q q0 q1 => fE _ _ (by omega)) (by rw [fE _ _ (by omega)]; omega) (Or.inl ⟨fun a g => by omega, fun a g => by omega, fun a g => by omega⟩) (Or.inl ⟨fun a g => by omega, fun a g => by omega, fun a g => by omega⟩) (Or.inl ⟨fun a g => by omega, fun a g => by omega, fun a g => by omega⟩) (Or.inl ⟨fun a g => by omega, fun a g => by omega, fun a g => by omega⟩) (Or.inr fun p' g0 g1 => ?_) (Or.inl ⟨fun a g => by omega, fun a g => by omega, fun a g => by omega⟩) (Or.inl ⟨fun a g => by omega, fun a g => by omega, fun a g => by omega⟩) (Or.inl ⟨fun a g => by omega, fun a g => by omega, fun a g => by omega⟩) (Or.inl ⟨fun a g => by omega, fun a g => by omega, fun a g => by omega⟩) (Or.inl ⟨fun a g => by omega, fun a g => by omega, fun a g => by omega⟩) (Or.inl ⟨fun a g => by omega, fun a g => by omega, fun a g => by omega⟩) (Or.inl ⟨fun a g => by omega, fun a g => by omega, fun a g => by omega⟩) (Or.inl ⟨fun a g => by omega, fun a g => by omega, fun a g => by omega⟩)
  rw [fE _ _ (by omega)] at g1
  by_cases c : p' = p
  · rw [c]; exact hq
  · have hm : ∀ a, 98 ≤ a → a ≤ 108 → m' a p' = m a p' := fun a g2 g3 => fR _ _ (Or.inr c) (by omega) (by omega) (by omega)
    obtain ⟨b1, b2, b3⟩ := h.pa p' g0 g1
    unfold RXa1
    simp only [fE (8000 + p') _ (show 8000 + p' ≠ 8000 + p by omega)]
    rw [hm 98 (by decide) (by decide), hm 99 (by decide) (by decide), hm 100 (by decide) (by decide), hm 101 (by decide) (by decide), hm 102 (by decide) (by decide), hm 103 (by decide) (by decide), hm 104 (by decide) (by decide), hm 105 (by decide) (by decide), hm 106 (by decide) (by decide), hm 107 (by decide) (by decide), hm 108 (by decide) (by decide), fE 4 _ (by omega)]
    exact ⟨b1, b2, b3⟩
theorem rIsV : fm_X12_isValue p2 m = some (if 0 ≤ p2 ∧ p2 < 1000 then 1 else 0) := by
  unfold fm_X12_isValue
  rw [bp_t isIn_e, gd_t (by split <;> omega)]
  by_cases c : 0 ≤ p2 ∧ p2 < 1000
  · rw [if_pos c, if_pos (by omega)]
  · rw [if_neg c, if_neg (by omega)]
theorem x_beat (h : RXE m e) (hc : CN e) : OKr (fm_X12_beat p1 p2 m) cd3 (pcBeat p1 p2 e) := by
  unfold fm_X12_beat pcBeat
  rw [bp_t (rIsA h hc)]
  by_cases c : 0 ≤ p1 ∧ p1 < e.1 8 2
  · rw [if_pos c, if_neg (show ¬ (1 : Int) = 0 by decide), if_pos c, bp_t rIsV]
    by_cases c2 : 0 ≤ p2 ∧ p2 < 1000
    · have h0 := h.th (q := 0) hc
      have n8 := hc.2.1
      have hq := h0.pa p1 c.1 c.2
      have k102 := hq.1.2.2.2.2.1
      have k108 := hq.1.2.2.2.2.2.2.2
      have e0 : mset m 68 129 0 68 0 = e.1 4 14 := h0.1.1
      rw [if_pos c2, if_neg (show ¬ (1 : Int) = 0 by decide), if_pos c2]
      unfold fj_X12_beat_27
      rw [bd_t fails_e, if_neg (show ¬ (0 : Int) < 0 by decide), if_pos (show (0 : Int) = 0 from rfl), gd_t (by omega), lx_p, k102]
      by_cases c5 : e.1 (8000 + p1) 5 = 1
      · rw [if_pos c5, if_pos c5, lx_p, k108, up_t, lx_p, ms_a (by decide), e0, up_t]
        refine ⟨_, _, rfl, h0.ac hc c.1 c.2 (fun a j g1 g2 g3 _ => ?_) (fun a u g => ?_) rfl ?_, fun z hz => ⟨Sum.inl.inj hz, ?_⟩, fun q hq => absurd hq (by simp)⟩
        · unfold mset
          rw [if_neg (by omega), if_neg (by omega)]
        · rw [eS_a g, eS_a g]
        · obtain ⟨⟨b0, b1, b2, b3, b4, b5, b6, b7⟩, b8, b9⟩ := hq
          refine ⟨⟨?_, ?_, ?_, ?_, ?_, ?_, ?_, ?_⟩, ?_, fun _ => ⟨?_, ?_⟩⟩
          · rw [eS_j (by decide), eS_j (by decide)]; exact b0
          · rw [eS_j (by decide), eS_j (by decide)]; exact b1
          · rw [eS_j (by decide), eS_j (by decide)]; exact b2
          · rw [eS_j (by decide), eS_j (by decide)]; exact b3
          · rw [eS_j (by decide), eS_j (by decide)]; exact b4
          · rw [eS_j (by decide), eS_j (by decide)]; exact b5
          · rw [eS_j (by decide), eS_j (by decide)]; exact b6
          · rw [eS_j (by decide), eS_e, ms_a (by decide), ms_e]
          · rw [eS_j (by decide), eS_j (by decide), eS_a (by omega), eS_a (by omega)]; exact b8
          · rw [eS_j (by decide), eS_j (by decide)]; exact (b9 c5).1
          · rw [eS_e, ms_e]
        · rw [ms_a (by decide), ms_a (by decide)]
          exact ms_e
      · rw [if_neg c5, if_neg c5]
        exact OKr.yes h0 ms_e rfl
    · rw [if_neg c2, if_pos (show (0 : Int) = 0 from rfl), if_neg c2]
      unfold fj_X12_beat_27
      rw [bd_t fails_e, if_pos (show (0 : Int) < 2 by decide), if_neg (show ¬ (1 : Int) = 0 by decide)]
      exact OKr.no h hc rfl
  · rw [if_neg c, if_pos (show (0 : Int) = 0 from rfl), if_neg c]
    unfold fj_X12_beat_27
    rw [bd_t fails_e, if_pos (show (0 : Int) < 1 by decide), if_neg (show ¬ (1 : Int) = 0 by decide)]
    exact OKr.no h hc rfl
/-- one field of a schedule -/
theorem RXE.sc10 (h : RXE m e) (hc : CN e) (p0 : 0 ≤ p) (p1 : p < e.1 10 2) (j0 : 0 ≤ j) (j1 : j ≤ 8) : RXE (mset m (128 + j) p v) (eS e (10000 + p) j v) := by
  have n10 := hc.2.2.2.1
  have n7 := hc.1
  have fE : ∀ a u : Int, a ≠ 10000 + p → (eS e (10000 + p) j v).1 a u = e.1 a u := fun a u ha => eS_a ha
  refine h.chg hc (W := fun a => a = 128 + j) (U := fun a => a = 1000000) (V := fun a => a = 10000 + p) (fun a u g1 g2 g3 => ms_a g3) (fun u g1 _ => ms_a (by omega)) ⟨fE, fun c _ => rfl, fun i _ => rfl⟩ (by rw [fE _ _ (by omega)]; omega) (DdM.of fun q q0 q1 => fE _ _ (by omega)) (by rw [fE _ _ (by omega)]; omega) (Or.inl ⟨fun a g => by omega, fun a g => by omega, fun a g => by omega⟩) (Or.inl ⟨fun a g => by omega, fun a g => by omega, fun a g => by omega⟩) (Or.inl ⟨fun a g => by omega, fun a g => by omega, fun a g => by omega⟩) (Or.inl ⟨fun a g => by omega, fun a g => by omega, fun a g => by omega⟩) (Or.inl ⟨fun a g => by omega, fun a g => by omega, fun a g => by omega⟩) (Or.inl ⟨fun a g => by omega, fun a g => by omega, fun a g => by omega⟩) (Or.inl ⟨fun a g => by omega, fun a g => by omega, fun a g => by omega⟩) (Or.inl ⟨fun a g => by omega, fun a g => by omega, fun a g => by omega⟩) (Or.inr ⟨fun p' g0 g1 i i0 i1 => ?_, fun p' g0 g1 => ?_⟩) (Or.inl ⟨fun a g => by omega, fun a g => by omega, fun a g => by omega⟩) (Or.inl ⟨fun a g => by omega, fun a g => by omega, fun a g => by omega⟩) (Or.inl ⟨fun a g => by omega, fun a g => by omega, fun a g => by omega⟩) (Or.inl ⟨fun a g => by omega, fun a g => by omega, fun a g => by omega⟩)
  · rw [fE _ _ (by omega)] at g1
    by_cases c : p' = p ∧ i = j
    · rw [c.1, c.2, ms_e, eS_e]
    · have hm2 : mset m (128 + j) p v (128 + i) p' = m (128 + i) p' := if_neg fun hh => c ⟨hh.2, by have := hh.1; omega⟩
      have he2 : (eS e (10000 + p) j v).1 (10000 + p') i = e.1 (10000 + p') i := if_neg fun hh => c ⟨by have := hh.1; omega, hh.2⟩
      rw [hm2, he2]
      exact h.pc.1 p' g0 g1 i i0 i1
  · rw [fE _ _ (by omega)] at g0
    have hm : ∀ a, mset m (128 + j) p v a p' = m a p' := fun a => if_neg fun hh => by have := hh.2; omega
    rw [hm, hm, hm, hm]
    exact h.pc.2 p' g0 g1
theorem rIsS (h : RXE m e) (hc : CN e) : fm_X12_isSchedule p m = some (if 0 ≤ p ∧ p < e.1 10 2 then 1 else 0) := by
  have e69 : m 68 69 = e.1 10 2 := h.1.2.2.2.2.2.2.2.2.1
  have n10 := hc.2.2.2.1
  unfold fm_X12_isSchedule
  rw [lx_p, e69, w32_id (by omega) (by omega), bp_t isIn_e, gd_t (by split <;> omega)]
  by_cases c : 0 ≤ p ∧ p < e.1 10 2
  · rw [if_pos c, if_pos (by omega)]
  · rw [if_neg c, if_neg (by omega)]
theorem x_togglePause (h : RXE m e) (hc : CN e) : OKr (fm_X12_togglePause p1 m) cd1 (pcTogglePause p1 e) := by
  unfold fm_X12_togglePause pcTogglePause
  rw [bp_t (rIsS h hc)]
  by_cases c : 0 ≤ p1 ∧ p1 < e.1 10 2
  · have h0 := h.th (q := 0) hc
    have n10 := hc.2.2.2.1
    have k133 : mset m 68 129 0 133 p1 = e.1 (10000 + p1) 5 := h0.pc.1 p1 c.1 c.2 5 (by decide) (by decide)
    have fin : ∀ z : Int, (z = 0 ∨ z = 1) → OKr (up (mset m 68 129 0) 133 p1 z fun m_41 => lx (m_41 133 p1) fun x_54 => gd (x_54 = 0 ∨ x_54 = 1) <| some (x_54, m_41)) cd1 (.inl z, eS e (10000 + p1) 5 z) := fun z hz => by
      rw [up_t, lx_p, ms_e, gd_t hz]
      exact ⟨_, _, rfl, h0.sc10 (j := 5) hc c.1 c.2 (by decide) (by decide), fun z' hz' => ⟨Sum.inl.inj hz', by rw [ms_a (by decide)]; exact ms_e⟩, fun q hq => absurd hq (by simp)⟩
    rw [if_pos c, if_neg (show ¬ (1 : Int) = 0 by decide), if_pos c]
    unfold fj_X12_togglePause_14
    rw [bd_t fails_e, if_neg (show ¬ (0 : Int) < 0 by decide), if_pos (show (0 : Int) = 0 from rfl), gd_t (by omega), lx_p, k133]
    by_cases c5 : e.1 (10000 + p1) 5 = 0
    · rw [if_pos c5, if_pos c5]
      exact fin 1 (Or.inr rfl)
    · rw [if_neg c5, if_neg c5]
      exact fin 0 (Or.inl rfl)
  · rw [if_neg c, if_pos (show (0 : Int) = 0 from rfl), if_neg c]
    unfold fj_X12_togglePause_14
    rw [bd_t fails_e, if_pos (show (0 : Int) < 1 by decide), if_neg (show ¬ (1 : Int) = 0 by decide)]
    exact OKr.no h hc rfl
end RXC4
