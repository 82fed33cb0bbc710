/-! THE REFERENCE'S CALLS: setRate, shift, runs. -/
section RXC
variable {m m' : MM} {e e' : ES} {a b c i j k o r v w p t s p1 p2 q : Int} {l : List Int}
theorem fails_e : fm_X12_fails p m = some (if 0 < p then 1 else 0, mset m 68 129 p) := by
  unfold fm_X12_fails
  rw [up_t]
  by_cases c : 0 < p
  · rw [if_pos c, if_pos c]
  · rw [if_neg c, if_neg c]
/-- the reference's numbers of exceptions: where all three are caught, and where only one is -/
def cd3 : Nat → Int := fun q => (q : Int) + 1
def cd1 : Nat → Int := fun _ => 1
theorem RXE.th (h : RXE m e) (hc : CN e) : RXE (mset m 68 129 q) e := h.fr hc (fun a j g _ _ => if_neg fun hh => by have := g hh.1; omega) (fun _ _ _ => rfl) ⟨rfl, rfl⟩
theorem RXE.thr (h : RXE m e) (hc : CN e) : RXE (mset m 68 129 q) (pThr e) := h.fr hc (fun a j g _ _ => if_neg fun hh => by have := g hh.1; omega) (fun a j ha => eS_a ha) ⟨rfl, rfl⟩
/-- one scalar -/
theorem RXE.sc (h : RXE m e) (hc : CN e) (hj : j ≠ 46) (hs : RXs (mset m 68 j v) (eS e 4 i w)) : RXE (mset m 68 j v) (eS e 4 i w) := by
  obtain ⟨k1, k2, k3, k4, k5, k6, k7, k8, k9, k10, k11⟩ := h
  obtain ⟨c1, c2, c3, c4, c5⟩ := hc
  have he : ∀ a u : Int, a ≠ 4 → (eS e 4 i w).1 a u = e.1 a u := fun a u ha => eS_a ha
  have hm : ∀ a u : Int, a ≠ 68 → mset m 68 j v a u = m a u := fun a u ha => ms_a ha
  have hn : ∀ r : Int, 0 ≤ r → hN (eS e 4 i w) r = hN e r := fun r r0 => he _ _ (by omega)
  refine ⟨hs, k2.fr (fun a j g => hm _ _ (by omega)) (fun c g1 g2 => he _ _ (by omega)) (fun c _ _ => rfl) (fun k g0 g1 => ?_), k3.fr (fun a j g1 g2 => hm _ _ (by omega)) (fun c j g1 g2 => he _ _ (by omega)), k4.fr (fun a j g => hm _ _ (by omega)) (he _ _ (by decide)) (fun a j g1 g2 => he _ _ (by omega)) (fun r r0 r1 => ⟨hn r r0, rfl⟩) c1.2, k5.fr (fun a j g1 g2 => hm _ _ (by omega)) (he _ _ (by decide)) (fun a j g1 g2 => he _ _ (by omega)) c2.2, k6.fr (ms_j (Ne.symm hj)) (fun a j g1 g2 => hm _ _ (by omega)) (he _ _ (by decide)) (fun r r0 r1 => ⟨rfl, rfl⟩), k7.fr (fun a j g1 g2 => hm _ _ (by omega)) (he _ _ (by decide)) (fun a j g => he _ _ (by omega)) c3.2, k8.fr (fun a j g1 g2 => hm _ _ (by omega)) (he _ _ (by decide)) (fun a j g1 g2 => he _ _ (by omega)) (fun r r0 r1 => ⟨hn r r0, rfl⟩) c1.2, k9.fr (fun a j g1 g2 => hm _ _ (by omega)) (he _ _ (by decide)) (fun a j g1 g2 => he _ _ (by omega)) c4.2, k10.fr (fun j => hm _ _ (by decide)) rfl, k11.fr (fun a j g => hm _ _ (by omega)) (he _ _ (by decide)) (fun r r0 r1 => ⟨hn r r0, rfl, fun i => he _ _ (by omega)⟩)⟩
  have := c5 (48 + 4 * k) (isT_4 g0 g1)
  rw [show 49 + 4 * k = 48 + 4 * k + 1 by omega]
  exact this
theorem x_setRate (h : RXE m e) (hc : CN e) : OKr (fm_X12_setRate p1 m) cd1 (pcSetRate p1 e) := by
  have h0 := h.th (q := 0) hc
  have e50 : m 68 50 = e.1 4 13 := h.1.2.2.2.2.2.1
  unfold fm_X12_setRate pcSetRate
  rw [bp_t isIn_e]
  by_cases c : 1 ≤ p1 ∧ p1 ≤ 10
  · rw [if_pos c, if_neg (show ¬ (1 : Int) = 0 by decide), if_neg (by omega)]
    unfold fj_X12_setRate_16
    rw [bd_t fails_e, if_neg (show ¬ (0 : Int) < 0 by decide), if_pos (show (0 : Int) = 0 from rfl), lx_p, ms_j (by decide), e50, up_t]
    refine ⟨_, _, rfl, h0.sc hc (by decide) ?_, fun z hz => ⟨Sum.inl.inj hz, ?_⟩, fun q hq => absurd hq (by simp)⟩
    · obtain ⟨g0, g1, g2, g3, g4, g5, g6, g7, g8, g9, g10⟩ := h0.1
      unfold RXs
      rw [ms_j (i := 0) (by decide), ms_j (i := 12) (by decide), ms_j (i := 29) (by decide), ms_j (i := 30) (by decide), ms_j (i := 34) (by decide), ms_e, ms_j (i := 51) (by decide), ms_j (i := 68) (by decide), ms_j (i := 69) (by decide), ms_j (i := 79) (by decide), ms_j (i := 80) (by decide)]
      exact ⟨g0.trans (eS_j (by decide)).symm, g1.trans (eS_a (by decide)).symm, g2.trans (eS_a (by decide)).symm, g3.trans (eS_a (by decide)).symm, g4.trans (eS_a (by decide)).symm, eS_e.symm, g6.trans (eS_a (by decide)).symm, g7.trans (eS_j (by decide)).symm, g8.trans (eS_a (by decide)).symm, g9.trans (eS_j (by decide)).symm, g10.trans (eS_j (by decide)).symm⟩
    · rw [ms_j (by decide)]
      exact ms_e
  · rw [if_neg c, if_pos (show (0 : Int) = 0 from rfl), if_pos (by omega)]
    unfold fj_X12_setRate_16
    rw [bd_t fails_e, if_pos (show (0 : Int) < 1 by decide), if_neg (show ¬ (1 : Int) = 0 by decide)]
    exact ⟨_, _, rfl, h.thr hc, fun z hz => absurd hz (by unfold rT; simp), fun q hq => ms_e⟩
end RXC
