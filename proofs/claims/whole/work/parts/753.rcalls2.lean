/-! THE REFERENCE'S CALLS: runs, replays, standing, activity. -/
section RXC2
variable {m m' : MM} {e e' : ES} {a b c i j k o r v w p t s p1 p2 q : Int} {l : List Int}
theorem rIsW : fm_X12_isWorker p m = some (if 0 ≤ p ∧ p < 3 then 1 else 0) := by
  unfold fm_X12_isWorker
  rw [bp_t isIn_e, gd_t (by split <;> omega)]
  by_cases c : 0 ≤ p ∧ p < 3
  · rw [if_pos c, if_pos (by omega)]
  · rw [if_neg c, if_neg (by omega)]
theorem rIsR (h : RXE m e) (hc : CN e) : fm_X12_isRun p m = some (if 0 ≤ p ∧ p < e.1 7 2 then 1 else 0) := by
  have e12 : m 68 12 = e.1 7 2 := h.1.2.1
  have n7 := hc.1
  unfold fm_X12_isRun
  rw [lx_p, e12, w32_id (by omega) (by omega), bp_t isIn_e, gd_t (by split <;> omega)]
  by_cases c : 0 ≤ p ∧ p < e.1 7 2
  · rw [if_pos c, if_pos (by omega)]
  · rw [if_neg c, if_neg (by omega)]
theorem rIsA (h : RXE m e) (hc : CN e) : fm_X12_isActivity p m = some (if 0 ≤ p ∧ p < e.1 8 2 then 1 else 0) := by
  have e34 : m 68 34 = e.1 8 2 := h.1.2.2.2.2.1
  have n8 := hc.2.1
  unfold fm_X12_isActivity
  rw [lx_p, e34, w32_id (by omega) (by omega), bp_t isIn_e, gd_t (by split <;> omega)]
  by_cases c : 0 ≤ p ∧ p < e.1 8 2
  · rw [if_pos c, if_pos (by omega)]
  · rw [if_neg c, if_neg (by omega)]
/-- it fails; it answers -/
theorem OKr.no {cd : Nat → Int} {n : Nat} (h : RXE m e) (hc : CN e) (hq : cd n = q) : OKr (some (v, mset m 68 129 q)) cd (rT n e) := ⟨_, _, rfl, h.thr hc, fun z hz => absurd hz (by unfold rT; simp), fun q' hq' => by
  have : n = q' := Sum.inr.inj hq'
  rw [← this, hq]
  exact ms_e⟩
theorem OKr.yes {cd : Nat → Int} (h : RXE m e) (h1 : m 68 129 = 0) (hv : v = w) : OKr (some (v, m)) cd (.inl w, e) := ⟨_, _, rfl, h, fun z hz => ⟨hv.trans (Sum.inl.inj hz), h1⟩, fun q hq => absurd hq (by simp)⟩
theorem x_replays (h : RXE m e) (hc : CN e) : OKr (fm_X12_replays p1 m) cd1 (pcReplays p1 e) := by
  unfold fm_X12_replays pcReplays
  rw [bp_t rIsW]
  by_cases c : 0 ≤ p1 ∧ p1 < 3
  · have h0 := h.th (q := 0) hc
    rw [if_pos c, if_neg (show ¬ (1 : Int) = 0 by decide), if_pos c]
    unfold fj_X12_replays_13
    rw [bd_t fails_e, if_neg (show ¬ (0 : Int) < 0 by decide), if_pos (show (0 : Int) = 0 from rfl), gd_t c, lx_p]
    exact OKr.yes h0 ms_e (h0.2.2.2.2.2.2.1.2 p1 c.1 c.2).1
  · rw [if_neg c, if_pos (show (0 : Int) = 0 from rfl), if_neg c]
    unfold fj_X12_replays_13
    rw [bd_t fails_e, if_pos (show (0 : Int) < 1 by decide), if_neg (show ¬ (1 : Int) = 0 by decide)]
    exact OKr.no h hc rfl
theorem x_standing (h : RXE m e) (hc : CN e) (h6 : ∀ i : Int, 0 ≤ i → i < e.1 7 2 → 0 ≤ e.1 (7000 + i) 6 ∧ e.1 (7000 + i) 6 ≤ 6) (hN' : ∀ i : Int, 0 ≤ i → i < e.1 7 2 → 0 ≤ hN e i ∧ hN e i ≤ 100000000) : OKr (fm_X12_standing p1 m) cd1 (pcStanding p1 e) := by
  unfold fm_X12_standing pcStanding
  rw [bp_t (rIsR h hc)]
  by_cases c : 0 ≤ p1 ∧ p1 < e.1 7 2
  · have h0 := h.th (q := 0) hc
    have n7 := hc.1
    obtain ⟨⟨-, -, -, k83, -⟩, ⟨k86, -⟩, -⟩ := h0.2.2.2.1.1 p1 c.1 c.2
    have b1 := h6 p1 c.1 c.2
    have b2 := hN' p1 c.1 c.2
    rw [if_pos c, if_neg (show ¬ (1 : Int) = 0 by decide), if_pos c]
    unfold fj_X12_standing_14
    rw [bd_t fails_e, if_neg (show ¬ (0 : Int) < 0 by decide), if_pos (show (0 : Int) = 0 from rfl), gd_t (by omega), lx_p, k86, lx_p, k83, w32_id (z := 10 * hN e p1) (by omega) (by omega), w32_id (by omega) (by omega)]
    exact OKr.yes h0 ms_e rfl
  · rw [if_neg c, if_pos (show (0 : Int) = 0 from rfl), if_neg c]
    unfold fj_X12_standing_14
    rw [bd_t fails_e, if_pos (show (0 : Int) < 1 by decide), if_neg (show ¬ (1 : Int) = 0 by decide)]
    exact OKr.no h hc rfl
theorem x_activity (h : RXE m e) (hc : CN e) (hA : ∀ i : Int, 0 ≤ i → i < e.1 8 2 → AcW e i) : OKr (fm_X12_activity p1 m) cd1 (pcActivity p1 e) := by
  unfold fm_X12_activity pcActivity
  rw [bp_t (rIsA h hc)]
  by_cases c : 0 ≤ p1 ∧ p1 < e.1 8 2
  · have h0 := h.th (q := 0) hc
    have n7 := hc.1
    have n8 := hc.2.1
    obtain ⟨k98, -, -, -, k102, k103, -⟩ := h0.2.2.2.2.1 p1 c.1 c.2
    obtain ⟨⟨-, -, -, -, w5, w6, -⟩, b1, -⟩ := hA p1 c.1 c.2
    rw [if_pos c, if_neg (show ¬ (1 : Int) = 0 by decide), if_pos c]
    unfold fj_X12_activity_14
    rw [bd_t fails_e, if_neg (show ¬ (0 : Int) < 0 by decide), if_pos (show (0 : Int) = 0 from rfl), gd_t (by omega), lx_p, k98, lx_p, k103, lx_p, k102, w32_id (z := 100 * e.1 (8000 + p1) 0) (by omega) (by omega), w32_id (z := 10 * e.1 (8000 + p1) 6) (by omega) (by omega), w32_id (z := 100 * e.1 (8000 + p1) 0 + 10 * e.1 (8000 + p1) 6) (by omega) (by omega), w32_id (by omega) (by omega)]
    exact OKr.yes h0 ms_e rfl
  · rw [if_neg c, if_pos (show (0 : Int) = 0 from rfl), if_neg c]
    unfold fj_X12_activity_14
    rw [bd_t fails_e, if_pos (show (0 : Int) < 1 by decide), if_neg (show ¬ (1 : Int) = 0 by decide)]
    exact OKr.no h hc rfl
theorem x_runs (h : RXE m e) (hc : CN e) : OKr (fm_X12_runs m) cd1 (.inl (e.1 7 2), e) := by
  have e12 : m 68 12 = e.1 7 2 := h.1.2.1
  have ht : fm_X12_tells (e.1 7 2) m = some (e.1 7 2, mset m 68 129 0) := by
    unfold fm_X12_tells
    rw [up_t]
  unfold fm_X12_runs
  rw [lx_p, e12, bd_t ht]
  exact OKr.yes (h.th hc) ms_e rfl
end RXC2
