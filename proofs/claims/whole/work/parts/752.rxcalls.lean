/-! THE REFERENCE'S CALLS: setRate, shift, runs, replays, standing, activity. -/
section RXC
variable {m m' : MM} {e e' : ES} {a b c i j k o r v w p t s p1 p2 q A : Int} {l : List Int} {W U V : Int → Prop}
theorem fails_e : fm_X12_fails p m = some (if 0 < p then 1 else 0, mset m 68 129 p) := by
  unfold fm_X12_fails
  rw [up_t]
  by_cases c : 0 < p
  · rw [if_pos c, if_pos c]
  · rw [if_neg c, if_neg c]
/-- the reference's numbers of exceptions: where all three are caught, and where only one is -/
def cd3 : Nat → Int := fun q => (q : Int) + 1
def cd1 : Nat → Int := fun _ => 1
theorem RXE.th (h : RXE m e) (hc : CN e) : RXE (mset m 68 129 q) e := h.fr hc (fun a j g _ _ _ => if_neg fun hh => by have := g hh.1; omega) (fun _ _ _ => rfl) ⟨rfl, rfl⟩
theorem RXE.thr (h : RXE m e) (hc : CN e) : RXE (mset m 68 129 q) (pThr e) := h.fr hc (fun a j g _ _ _ => if_neg fun hh => by have := g hh.1; omega) (fun a j ha => eS_a ha) ⟨rfl, rfl⟩
theorem DdM.of (h : ∀ q : Int, 0 ≤ q → q < e.1 7 2 → e'.1 (7000 + q) 6 = e.1 (7000 + q) 6) : DdM e e' := fun q q0 q1 hq => by
  unfold Dead
  rw [h q q0 q1]
  exact hq
/-- one scalar -/
theorem RXE.sc (h : RXE m e) (hc : CN e) (fR : ∀ a j : Int, 69 ≤ a → a ≤ 141 → m' a j = m a j) (fS : ∀ u : Int, u ≤ 84 → u ≠ j → m' 68 u = m 68 u) (hj : j ≠ 32 ∧ j ≠ 46 ∧ j ≠ 83 ∧ j ≠ 84) (hi : i ≠ 14 ∧ i ≠ 17) (hs : RXs m' (eS e 4 i w)) : RXE m' (eS e 4 i w) := by
  have he : ∀ a u : Int, a ≠ 4 → (eS e 4 i w).1 a u = e.1 a u := fun a u ha => eS_a ha
  have n7 := hc.1
  refine h.chg hc (W := fun a => a = 1000000) (U := fun a => a = j) (V := fun a => a = 4) (fun a j g1 g2 _ => fR a j g1 g2) (fun u g1 g2 => fS u g1 g2) ⟨he, fun c _ => rfl, fun i _ => rfl⟩ (by rw [eS_j (by omega)]; omega) (DdM.of fun q q0 q1 => he _ _ (by omega)) (by rw [he _ _ (by decide)]; omega) (Or.inr hs) (Or.inl ⟨fun a g => by omega, fun a g => by omega, fun a g => by omega⟩) (Or.inl ⟨fun a g => by omega, fun a g => by omega, fun a g => by omega⟩) (Or.inl ⟨fun a g => by omega, fun a g => by omega, fun a g => by omega⟩) (Or.inl ⟨fun a g => by omega, fun a g => by omega, fun a g => by omega⟩) (Or.inl ⟨fun a g => by omega, fun a g => by omega, fun a g => by omega⟩) (Or.inl ⟨fun a g => by omega, fun a g => by omega, fun a g => by omega⟩) (Or.inl ⟨fun a g => by omega, fun a g => by omega, fun a g => by omega⟩) (Or.inl ⟨fun a g => by omega, fun a g => by omega, fun a g => by omega⟩) (Or.inl ⟨fun a g => by omega, fun a g => by omega, fun a g => by omega⟩) (Or.inl ⟨fun a g => by omega, fun a g => by omega, fun a g => by omega⟩) (Or.inl ⟨fun a g => by omega, fun a g => by omega, fun a g => by omega⟩) (Or.inr ?_)
  have k := h.pl
  have hl : pLst (eS e 4 i w) ((eS e 4 i w).1 7 2).toNat = pLst e (e.1 7 2).toNat := by
    rw [he _ _ (by decide)]
    exact pLst_eq fun i i0 i1 => rfl
  unfold RXl
  rw [hl, fS 83 (by decide) (by omega), fS 84 (by decide) (by omega), eS_j (by omega)]
  exact ⟨k.1, k.2.1, fun i q hq => by rw [fR 139 _ (by decide) (by decide), fR 140 _ (by decide) (by decide), fR 141 _ (by decide) (by decide)]; exact k.2.2 i q hq⟩
theorem x_setRate (h : RXE m e) (hc : CN e) : OKr (fm_X12_setRate p1 m) cd1 (pcSetRate p1 e) := by
  have h0 := h.th (q := 0) hc
  have e50 : m 68 50 = e.1 4 13 := h.1.2.2.2.2.2.1
  unfold fm_X12_setRate pcSetRate
  rw [bp_t isIn_e]
  by_cases c : 1 ≤ p1 ∧ p1 ≤ 10
  · rw [if_pos c, if_neg (show ¬ (1 : Int) = 0 by decide), if_neg (by omega)]
    unfold fj_X12_setRate_16
    rw [bd_t fails_e, if_neg (show ¬ (0 : Int) < 0 by decide), if_pos (show (0 : Int) = 0 from rfl), lx_p, ms_j (by decide), e50, up_t]
    refine ⟨_, _, rfl, h0.sc (j := 50) hc (fun a j g1 g2 => ms_a (by omega)) (fun u g1 g2 => ms_j g2) (by decide) (by decide) ?_, fun z hz => ⟨Sum.inl.inj hz, ?_⟩, fun q hq => absurd hq (by simp)⟩
    · obtain ⟨g0, g1, g2, g3, g4, g5, g6, g7, g8, g9, g10⟩ := h0.1
      unfold RXs
      rw [ms_j (i := 0) (by decide), ms_j (i := 12) (by decide), ms_j (i := 29) (by decide), ms_j (i := 30) (by decide), ms_j (i := 34) (by decide), ms_e, ms_j (i := 51) (by decide), ms_j (i := 68) (by decide), ms_j (i := 69) (by decide), ms_j (i := 79) (by decide), ms_j (i := 80) (by decide)]
      exact ⟨g0.trans (eS_j (by decide)).symm, g1.trans (eS_a (by decide)).symm, g2.trans (eS_a (by decide)).symm, g3.trans (eS_a (by decide)).symm, g4.trans (eS_a (by decide)).symm, eS_e.symm, g6.trans (eS_a (by decide)).symm, g7.trans (eS_j (by decide)).symm, g8.trans (eS_a (by decide)).symm, g9.trans (eS_j (by decide)).symm, g10.trans (eS_j (by decide)).symm⟩
    · rw [ms_j (by decide)]
      exact ms_e
  · rw [if_neg c, if_pos (show (0 : Int) = 0 from rfl), if_pos (by omega)]
    unfold fj_X12_setRate_16
    rw [bd_t fails_e, if_pos (show (0 : Int) < 1 by decide), if_neg (show ¬ (1 : Int) = 0 by decide)]
    exact ⟨_, _, rfl, h.thr hc, fun z hz => absurd hz (by unfold rT; simp), fun q hq => ms_e⟩
theorem rIsW : fm_X12_isWorker p m = some (if 0 ≤ p ∧ p < 3 then 1 else 0) := by
  unfold fm_X12_isWorker
  rw [bp_t isIn_e, gd_t (by split <;> omega)]
  by_cases c : 0 ≤ p ∧ p < 3
  · rw [if_pos c, if_pos (by omega)]
  · rw [if_neg c, if_neg (by omega)]
theorem rIsR (h : RXE m e) (hc : CN e) : fm_X12_isRun p m = some (if 0 ≤ p ∧ p < e.1 7 2 then 1 else 0) := by
  have e12 : m 68 12 = e.1 7 2 := h.1.2.1
  have n7 := hc.1
  unfold fm_X12_isRun
  rw [lx_p, e12, w32_id (by omega) (by omega), bp_t isIn_e, gd_t (by split <;> omega)]
  by_cases c : 0 ≤ p ∧ p < e.1 7 2
  · rw [if_pos c, if_pos (by omega)]
  · rw [if_neg c, if_neg (by omega)]
theorem rIsA (h : RXE m e) (hc : CN e) : fm_X12_isActivity p m = some (if 0 ≤ p ∧ p < e.1 8 2 then 1 else 0) := by
  have e34 : m 68 34 = e.1 8 2 := h.1.2.2.2.2.1
  have n8 := hc.2.1
  unfold fm_X12_isActivity
  rw [lx_p, e34, w32_id (by omega) (by omega), bp_t isIn_e, gd_t (by split <;> omega)]
  by_cases c : 0 ≤ p ∧ p < e.1 8 2
  · rw [if_pos c, if_pos (by omega)]
  · rw [if_neg c, if_neg (by omega)]
/-- it fails; it answers -/
theorem OKr.no {cd : Nat → Int} {n : Nat} (h : RXE m e) (hc : CN e) (hq : cd n = q) : OKr (some (v, mset m 68 129 q)) cd (rT n e) := ⟨_, _, rfl, h.thr hc, fun z hz => absurd hz (by unfold rT; simp), fun q' hq' => by
  have : n = q' := Sum.inr.inj hq'
  rw [← this, hq]
  exact ms_e⟩
theorem OKr.yes {cd : Nat → Int} (h : RXE m e) (h1 : m 68 129 = 0) (hv : v = w) : OKr (some (v, m)) cd (.inl w, e) := ⟨_, _, rfl, h, fun z hz => ⟨hv.trans (Sum.inl.inj hz), h1⟩, fun q hq => absurd hq (by simp)⟩
theorem x_replays (h : RXE m e) (hc : CN e) : OKr (fm_X12_replays p1 m) cd1 (pcReplays p1 e) := by
  unfold fm_X12_replays pcReplays
  rw [bp_t rIsW]
  by_cases c : 0 ≤ p1 ∧ p1 < 3
  · have h0 := h.th (q := 0) hc
    rw [if_pos c, if_neg (show ¬ (1 : Int) = 0 by decide), if_pos c]
    unfold fj_X12_replays_13
    rw [bd_t fails_e, if_neg (show ¬ (0 : Int) < 0 by decide), if_pos (show (0 : Int) = 0 from rfl), gd_t c, lx_p]
    exact OKr.yes h0 ms_e (h0.pj.2.2 p1 c.1 c.2).1
  · rw [if_neg c, if_pos (show (0 : Int) = 0 from rfl), if_neg c]
    unfold fj_X12_replays_13
    rw [bd_t fails_e, if_pos (show (0 : Int) < 1 by decide), if_neg (show ¬ (1 : Int) = 0 by decide)]
    exact OKr.no h hc rfl
theorem x_standing (h : RXE m e) (hc : CN e) (h6 : ∀ i : Int, 0 ≤ i → i < e.1 7 2 → 0 ≤ e.1 (7000 + i) 6 ∧ e.1 (7000 + i) 6 ≤ 6) (hN' : ∀ i : Int, 0 ≤ i → i < e.1 7 2 → 0 ≤ hN e i ∧ hN e i ≤ 100000000) : OKr (fm_X12_standing p1 m) cd1 (pcStanding p1 e) := by
  unfold fm_X12_standing pcStanding
  rw [bp_t (rIsR h hc)]
  by_cases c : 0 ≤ p1 ∧ p1 < e.1 7 2
  · have h0 := h.th (q := 0) hc
    have n7 := hc.1
    obtain ⟨⟨-, -, -, k83, -⟩, ⟨k86, -⟩, -⟩ := h0.pr.1 p1 c.1 c.2
    have b1 := h6 p1 c.1 c.2
    have b2 := hN' p1 c.1 c.2
    rw [if_pos c, if_neg (show ¬ (1 : Int) = 0 by decide), if_pos c]
    unfold fj_X12_standing_14
    rw [bd_t fails_e, if_neg (show ¬ (0 : Int) < 0 by decide), if_pos (show (0 : Int) = 0 from rfl), gd_t (by omega), lx_p, k86, lx_p, k83, w32_id (z := 10 * hN e p1) (by omega) (by omega), w32_id (by omega) (by omega)]
    exact OKr.yes h0 ms_e rfl
  · rw [if_neg c, if_pos (show (0 : Int) = 0 from rfl), if_neg c]
    unfold fj_X12_standing_14
    rw [bd_t fails_e, if_pos (show (0 : Int) < 1 by decide), if_neg (show ¬ (1 : Int) = 0 by decide)]
    exact OKr.no h hc rfl
theorem x_activity (h : RXE m e) (hc : CN e) (hA : ∀ i : Int, 0 ≤ i → i < e.1 8 2 → AcW e i) : OKr (fm_X12_activity p1 m) cd1 (pcActivity p1 e) := by
  unfold fm_X12_activity pcActivity
  rw [bp_t (rIsA h hc)]
  by_cases c : 0 ≤ p1 ∧ p1 < e.1 8 2
  · have h0 := h.th (q := 0) hc
    have n7 := hc.1
    have n8 := hc.2.1
    obtain ⟨⟨k98, -, -, -, k102, k103, -⟩, -⟩ := h0.pa p1 c.1 c.2
    obtain ⟨⟨-, -, -, -, w5, w6, -⟩, b1, -⟩ := hA p1 c.1 c.2
    rw [if_pos c, if_neg (show ¬ (1 : Int) = 0 by decide), if_pos c]
    unfold fj_X12_activity_14
    rw [bd_t fails_e, if_neg (show ¬ (0 : Int) < 0 by decide), if_pos (show (0 : Int) = 0 from rfl), gd_t (by omega), lx_p, k98, lx_p, k103, lx_p, k102, w32_id (z := 100 * e.1 (8000 + p1) 0) (by omega) (by omega), w32_id (z := 10 * e.1 (8000 + p1) 6) (by omega) (by omega), w32_id (z := 100 * e.1 (8000 + p1) 0 + 10 * e.1 (8000 + p1) 6) (by omega) (by omega), w32_id (by omega) (by omega)]
    exact OKr.yes h0 ms_e rfl
  · rw [if_neg c, if_pos (show (0 : Int) = 0 from rfl), if_neg c]
    unfold fj_X12_activity_14
    rw [bd_t fails_e, if_pos (show (0 : Int) < 1 by decide), if_neg (show ¬ (1 : Int) = 0 by decide)]
    exact OKr.no h hc rfl
theorem x_runs (h : RXE m e) (hc : CN e) : OKr (fm_X12_runs m) cd1 (.inl (e.1 7 2), e) := by
  have e12 : m 68 12 = e.1 7 2 := h.1.2.1
  have ht : fm_X12_tells (e.1 7 2) m = some (e.1 7 2, mset m 68 129 0) := by
    unfold fm_X12_tells
    rw [up_t]
  unfold fm_X12_runs
  rw [lx_p, e12, bd_t ht]
  exact OKr.yes (h.th hc) ms_e rfl
theorem x_shift (h : RXE m e) (hc : CN e) (hb : 0 ≤ e.1 4 14 ∧ e.1 4 14 < 1000000) (hg : -20000 ≤ e.1 4 15 ∧ e.1 4 15 ≤ 20000) : OKr (fm_X12_shift p1 m) cd1 (pcShift p1 e) := by
  have h0 := h.th (q := 0) hc
  obtain ⟨g0, g1, g2, g3, g4, g5, g6, g7, g8, g9, g10⟩ := h0.1
  unfold fm_X12_shift pcShift
  rw [bp_t isIn_e]
  by_cases c : -20 ≤ p1 ∧ p1 ≤ 20
  · rw [if_pos c, if_neg (show ¬ (1 : Int) = 0 by decide), if_neg (show ¬ (p1 < -20 ∨ 20 < p1) by omega)]
    unfold fj_X12_shift_17
    rw [bd_t fails_e, if_neg (show ¬ (0 : Int) < 0 by decide), if_pos (show (0 : Int) = 0 from rfl), lx_p, g7, w32_id (z := e.1 4 15 + p1) (by omega) (by omega), up_t, lx_p, ms_j (i := 0) (by decide), g0, lx_p, ms_e, w32_id (by omega) (by omega)]
    refine ⟨_, _, rfl, h0.sc (j := 68) hc (fun a j g1 g2 => ms_a (by omega)) (fun u g1 g2 => ms_j g2) (by decide) (by decide) ?_, fun z hz => ⟨Sum.inl.inj hz, ?_⟩, fun q hq => absurd hq (by simp)⟩
    · unfold RXs
      rw [ms_j (i := 0) (by decide), ms_j (i := 12) (by decide), ms_j (i := 29) (by decide), ms_j (i := 30) (by decide), ms_j (i := 34) (by decide), ms_j (i := 50) (by decide), ms_j (i := 51) (by decide), ms_e, ms_j (i := 69) (by decide), ms_j (i := 79) (by decide), ms_j (i := 80) (by decide)]
      exact ⟨g0.trans (eS_j (by decide)).symm, g1.trans (eS_a (by decide)).symm, g2.trans (eS_a (by decide)).symm, g3.trans (eS_a (by decide)).symm, g4.trans (eS_a (by decide)).symm, g5.trans (eS_j (by decide)).symm, g6.trans (eS_a (by decide)).symm, eS_e.symm, g8.trans (eS_a (by decide)).symm, g9.trans (eS_j (by decide)).symm, g10.trans (eS_j (by decide)).symm⟩
    · rw [ms_j (by decide)]
      exact ms_e
  · rw [if_neg c, if_pos (show (0 : Int) = 0 from rfl), if_pos (show p1 < -20 ∨ 20 < p1 by omega)]
    unfold fj_X12_shift_17
    rw [bd_t fails_e, if_pos (show (0 : Int) < 1 by decide), if_neg (show ¬ (1 : Int) = 0 by decide)]
    exact OKr.no h hc rfl
end RXC
