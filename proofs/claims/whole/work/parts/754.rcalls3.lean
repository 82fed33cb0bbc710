/-! THE REFERENCE'S CALLS: shift. -/
section RXC3
variable {m m' : MM} {e e' : ES} {a b c i j k o r v w p t s p1 p2 q : Int} {l : List Int}
theorem x_shift (h : RXE m e) (hc : CN e) (hb : 0 ≤ e.1 4 14 ∧ e.1 4 14 < 1000000) (hg : -20000 ≤ e.1 4 15 ∧ e.1 4 15 ≤ 20000) : OKr (fm_X12_shift p1 m) cd1 (pcShift p1 e) := by
  have h0 := h.th (q := 0) hc
  obtain ⟨g0, g1, g2, g3, g4, g5, g6, g7, g8, g9, g10⟩ := h0.1
  unfold fm_X12_shift pcShift
  rw [bp_t isIn_e]
  by_cases c : -20 ≤ p1 ∧ p1 ≤ 20
  · rw [if_pos c, if_neg (show ¬ (1 : Int) = 0 by decide), if_neg (show ¬ (p1 < -20 ∨ 20 < p1) by omega)]
    unfold fj_X12_shift_17
    rw [bd_t fails_e, if_neg (show ¬ (0 : Int) < 0 by decide), if_pos (show (0 : Int) = 0 from rfl), lx_p, g7, w32_id (z := e.1 4 15 + p1) (by omega) (by omega), up_t, lx_p, ms_j (i := 0) (by decide), g0, lx_p, ms_e, w32_id (by omega) (by omega)]
    refine ⟨_, _, rfl, h0.sc hc (by decide) ?_, fun z hz => ⟨Sum.inl.inj hz, ?_⟩, fun q hq => absurd hq (by simp)⟩
    · unfold RXs
      rw [ms_j (i := 0) (by decide), ms_j (i := 12) (by decide), ms_j (i := 29) (by decide), ms_j (i := 30) (by decide), ms_j (i := 34) (by decide), ms_j (i := 50) (by decide), ms_j (i := 51) (by decide), ms_e, ms_j (i := 69) (by decide), ms_j (i := 79) (by decide), ms_j (i := 80) (by decide)]
      exact ⟨g0.trans (eS_j (by decide)).symm, g1.trans (eS_a (by decide)).symm, g2.trans (eS_a (by decide)).symm, g3.trans (eS_a (by decide)).symm, g4.trans (eS_a (by decide)).symm, g5.trans (eS_j (by decide)).symm, g6.trans (eS_a (by decide)).symm, eS_e.symm, g8.trans (eS_a (by decide)).symm, g9.trans (eS_j (by decide)).symm, g10.trans (eS_j (by decide)).symm⟩
    · rw [ms_j (by decide)]
      exact ms_e
  · rw [if_neg c, if_pos (show (0 : Int) = 0 from rfl), if_pos (show p1 < -20 ∨ 20 < p1 by omega)]
    unfold fj_X12_shift_17
    rw [bd_t fails_e, if_pos (show (0 : Int) < 1 by decide), if_neg (show ¬ (1 : Int) = 0 by decide)]
    exact OKr.no h hc rfl
end RXC3
