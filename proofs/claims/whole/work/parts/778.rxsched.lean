/-! THE REFERENCE'S CALLS: schedules in a tick; pass. -/
section RXU3
variable {m m' M : MM} {e e' e2 : ES} {a b c i j k o r v w p t s x y n tn par pe inp p1 q A B N L : Int} {l : List Int}
/-- a schedule's latest run is one -/
def LsB (e : ES) : Prop := ∀ p : Int, 0 ≤ p → p < e.1 10 2 → -1 ≤ e.1 (10000 + p) 6 ∧ e.1 (10000 + p) 6 < e.1 7 2
theorem LsB.mono (h : LsB e) (h10 : e'.1 10 2 = e.1 10 2) (h7 : e.1 7 2 ≤ e'.1 7 2) (h6 : ∀ p : Int, 0 ≤ p → p < e.1 10 2 → e'.1 (10000 + p) 6 = e.1 (10000 + p) 6 ∨ (-1 ≤ e'.1 (10000 + p) 6 ∧ e'.1 (10000 + p) 6 < e'.1 7 2)) : LsB e' := fun p p0 p1 => by
  rw [h10] at p1
  have := h p p0 p1
  rcases h6 p p0 p1 with g | g
  · omega
  · exact g
theorem tms_start (h : TmS e) (hc : CN e) (hn : e.1 7 2 < 30) : TmS (pStart t tn inp par pe e) := fun i i0 i1 => by
  have n7 := hc.1
  rw [start_n n7.1] at i1
  by_cases c : i = e.1 7 2
  · have z1 : eL (pStart t tn inp par pe e) (73000 + i) = [] := by
      unfold pStart
      rw [arr_l, c, show 73000 + e.1 7 2 = 1000 * 73 + e.1 7 2 by omega]
      exact pNewRun_r (Or.inl rfl)
    have z2 : eL (pStart t tn inp par pe e) (74000 + i) = [] := by
      unfold pStart
      rw [arr_l, c, show 74000 + e.1 7 2 = 1000 * 74 + e.1 7 2 by omega]
      exact pNewRun_r (Or.inr (Or.inl rfl))
    rw [z1, z2]
    exact ⟨⟨rfl, fun v hv => absurd hv (by simp)⟩, List.Pairwise.nil, fun g => absurd rfl g⟩
  · obtain ⟨q1, q2, q3⟩ := h i i0 (by omega)
    rw [start_l (by omega) (by omega) (by omega), start_l (by omega) (by omega) (by omega)]
    refine ⟨q1, q2, fun g hd => q3 g ?_⟩
    unfold Dead at hd ⊢
    rw [start_a n7.1 (by omega) (by omega) (by omega) (by omega) (by omega) (by omega) (by omega)] at hd
    exact hd
/-- what a step of a tick keeps -/
def KT (e e' : ES) : Prop := MR e e' ∧ CN e' ∧ (TmS e → TmS e') ∧ (LsB e → LsB e') ∧ e'.1 10 2 = e.1 10 2 ∧ e'.1 4 14 = e.1 4 14 ∧ e'.1 4 15 = e.1 4 15 ∧ (∀ p u : Int, 0 ≤ p → p < e.1 10 2 → u ≠ 4 → u ≠ 6 → u ≠ 7 → u ≠ 8 → e'.1 (10000 + p) u = e.1 (10000 + p) u)
theorem KT.rf (hc : CN e) : KT e e := ⟨MR.rf, hc, id, id, rfl, rfl, rfl, fun _ _ _ _ _ _ _ _ => rfl⟩
theorem KT.tr (h : KT e e') (g : KT e' e2) : KT e e2 := ⟨h.1.tr g.1, g.2.1, fun z => g.2.2.1 (h.2.2.1 z), fun z => g.2.2.2.1 (h.2.2.2.1 z), g.2.2.2.2.1.trans h.2.2.2.2.1, g.2.2.2.2.2.1.trans h.2.2.2.2.2.1, g.2.2.2.2.2.2.1.trans h.2.2.2.2.2.2.1, fun p u p0 p1 h4 h6 h7 h8 => (g.2.2.2.2.2.2.2 p u p0 (by rw [h.2.2.2.2.1]; exact p1) h4 h6 h7 h8).trans (h.2.2.2.2.2.2.2 p u p0 p1 h4 h6 h7 h8)⟩
theorem kt_s10 (hc : CN e) (p0 : 0 ≤ p) (p1 : p < e.1 10 2) (hj : j = 4 ∨ j = 7 ∨ j = 8 ∨ (j = 6 ∧ -1 ≤ v ∧ v < e.1 7 2)) : KT e (eS e (10000 + p) j v) := by
  have n10 := hc.2.2.2.1
  refine ⟨mr_eS (by omega) (by omega) (by omega) (by omega) (by omega), cn_eS hc (by omega), fun h => tms_eS h hc (by omega) (by omega), fun h => h.mono (eS_a (by omega)) (by rw [eS_a (by omega)]; omega) (fun q q0 q1 => ?_), eS_a (by omega), eS_a (by omega), eS_a (by omega), fun q u q0 q1 h4 h6 h7 h8 => ?_⟩
  · by_cases c : q = p ∧ j = 6
    · right
      rw [c.1, c.2, eS_e, eS_a (by omega)]
      omega
    · left
      by_cases cq : q = p
      · rw [cq, eS_j (by omega)]
      · exact eS_a (by omega)
  · by_cases cq : q = p
    · rw [cq]; exact eS_j (by omega)
    · exact eS_a (by omega)
theorem kt_start (hc : CN e) (hn : e.1 7 2 < 30) : KT e (pStart t tn inp par pe e) := by
  have n7 := hc.1
  have n10 := hc.2.2.2.1
  have sa : ∀ a u : Int, a ≠ 68 → a ≠ 3 → a ≠ 7 → (a < 7000 ∨ (8000 ≤ a ∧ a < 71000)) → (a ≠ 4 ∨ u ≠ 16) → (pStart t tn inp par pe e).1 a u = e.1 a u := fun a u h1 h2 h3 h4 h5 => start_a n7.1 h1 h2 (by omega) (by omega) h5 h3 (by omega)
  exact ⟨mr_start hc hn, hc.start hn, fun h => tms_start h hc hn, fun h => h.mono (sa _ _ (by omega) (by omega) (by omega) (by omega) (by omega)) (by rw [start_n n7.1]; omega) (fun p p0 p1 => Or.inl (sa _ _ (by omega) (by omega) (by omega) (by omega) (by omega))), sa _ _ (by omega) (by omega) (by omega) (by omega) (by omega), sa _ _ (by omega) (by omega) (by omega) (by omega) (by omega), sa _ _ (by omega) (by omega) (by omega) (by omega) (by omega), fun p u p0 p1 _ _ _ _ => sa _ _ (by omega) (by omega) (by omega) (by omega) (by omega)⟩
theorem kt_can (hc : CN e) (r0 : 0 ≤ r) (r1 : r < e.1 7 2) : KT e (pCan r e).2 := by
  have n7 := hc.1
  have n10 := hc.2.2.2.1
  unfold pCan
  split
  · exact KT.rf hc
  · have sa : ∀ a u : Int, a ≠ 68 → a ≠ 3 → (a < 71000) → (a ≠ 4 ∨ u ≠ 16) → (pArr r 7 0 0 e).1 a u = e.1 a u := fun a u h1 h2 h3 h5 => arr_a h1 h2 (by omega) (by omega) h5
    exact ⟨mr_arr hc r0 r1, hc.arr r0, fun h => h.arr hc r0, fun h => h.mono (sa _ _ (by omega) (by omega) (by omega) (by omega)) (by rw [sa _ _ (by omega) (by omega) (by omega) (by omega)]; omega) (fun p p0 p1 => Or.inl (sa _ _ (by omega) (by omega) (by omega) (by omega))), sa _ _ (by omega) (by omega) (by omega) (by omega), sa _ _ (by omega) (by omega) (by omega) (by omega), sa _ _ (by omega) (by omega) (by omega) (by omega), fun p u p0 p1 _ _ _ _ => sa _ _ (by omega) (by omega) (by omega) (by omega)⟩
theorem kt_stF (hc : CN e) (p0 : 0 ≤ p) (p1 : p < e.1 10 2) : KT e (pStF p v e) := by
  have n7 := hc.1
  unfold pStF
  by_cases c : e.1 7 2 < 30
  · rw [if_pos c]
    have k1 := kt_start (t := e.1 (10000 + p) 0) (tn := e.1 (10000 + p) 1) (inp := v) (par := -1) (pe := 0) hc c
    exact k1.tr (kt_s10 k1.2.1 p0 (by rw [k1.2.2.2.2.1]; exact p1) (Or.inr (Or.inr (Or.inr ⟨rfl, by omega, by rw [start_n n7.1]; omega⟩))))
  · rw [if_neg c]
    exact KT.rf hc
theorem kt_meet (hc : CN e) (p0 : 0 ≤ p) (p1 : p < e.1 10 2) : KT e (pMeet p v e) := by
  unfold pMeet
  by_cases c1 : ¬ lastO e p ∨ e.1 (10000 + p) 3 = 3
  · rw [if_pos c1]; exact kt_stF hc p0 p1
  · rw [if_neg c1]
    split
    · split
      · have k1 := kt_s10 (v := 1) hc p0 p1 (j := 7) (by omega)
        exact k1.tr (kt_s10 k1.2.1 p0 (by rw [k1.2.2.2.2.1]; exact p1) (by omega))
      · exact KT.rf hc
    · split
      · have lo : lastO e p := by
          by_cases cc : lastO e p
          · exact cc
          · exact absurd (Or.inl cc) c1
        have k1 := kt_can hc lo.1.1 lo.1.2
        exact k1.tr (kt_stF k1.2.1 p0 (by rw [k1.2.2.2.2.1]; exact p1))
      · exact KT.rf hc
theorem kt_pt (hc : CN e) (p0 : 0 ≤ p) (p1 : p < e.1 10 2) : KT e (pPt p t e) := by
  unfold pPt
  split
  · exact kt_meet hc p0 p1
  · exact KT.rf hc
theorem kt_schL : ∀ (n : Nat) (t : Int) (e : ES), CN e → 0 ≤ p → p < e.1 10 2 → KT e (pSchL p N n t e) := by
  intro n
  induction n with
  | zero => intro t e hc _ _; exact KT.rf hc
  | succ n ih =>
    intro t e hc p0 p1
    unfold pSchL
    split
    · exact KT.rf hc
    · have k1 := kt_pt (t := t) hc p0 p1
      exact k1.tr (ih (t + 1) _ k1.2.1 p0 (by rw [k1.2.2.2.2.1]; exact p1))
theorem kt_lkS1 (hc : CN e) (p0 : 0 ≤ p) (p1 : p < e.1 10 2) : KT e (pLkS1 p e) := by
  unfold pLkS1
  split
  · have k1 := kt_s10 (v := 0) hc p0 p1 (j := 7) (by omega)
    exact k1.tr (kt_stF k1.2.1 p0 (by rw [k1.2.2.2.2.1]; exact p1))
  · exact KT.rf hc
theorem kt_lk29 (hc : CN e) (p0 : 0 ≤ p) (p1 : p < e.1 10 2) : KT e (pLk29 p e) := by
  unfold pLk29
  have k1 := kt_schL (p := p) (N := e.1 4 14 + e.1 4 15) ((e.1 4 14 + e.1 4 15 - e.1 (10000 + p) 4).toNat + 1) (e.1 (10000 + p) 4 + 1) e hc p0 p1
  exact k1.tr (kt_s10 k1.2.1 p0 (by rw [k1.2.2.2.2.1]; exact p1) (by omega))
theorem kt_lookS (hc : CN e) (p0 : 0 ≤ p) (p1 : p < e.1 10 2) : KT e (pLookS p e) := by
  unfold pLookS
  have k1 := kt_lkS1 (p := p) hc p0 p1
  exact k1.tr (kt_lk29 k1.2.1 p0 (by rw [k1.2.2.2.2.1]; exact p1))
/-- a run begins for a schedule, where there is room -/
theorem RXE.stF (h : RXE m e) (hc : CN e) (hl : RLw e) (hf : RFw (pStF p v e)) (p0 : 0 ≤ p) (p1 : p < e.1 10 2) (ht : 0 ≤ e.1 (10000 + p) 0 ∧ e.1 (10000 + p) 0 < 4) (v0 : 0 ≤ v) (v1 : v < 1000) : ∃ m', fm_X12_comes p v m = some (0, m') ∧ RXE m' (pStF p v e) ∧ SCR m m' := by
  have n7 := hc.1
  have n10 := hc.2.2.2.1
  unfold fm_X12_comes
  unfold pStF at hf ⊢
  by_cases c : e.1 7 2 < 30
  · rw [if_pos c] at hf ⊢
    have k1 := kt_start (t := e.1 (10000 + p) 0) (tn := e.1 (10000 + p) 1) (inp := v) (par := -1) (pe := 0) hc c
    obtain ⟨m1, g1, g2, g3⟩ := rBeg h hc hl (fun _ => hf.bk (mr_eS (by omega) (by omega) (by omega) (by omega) (by omega))) p0 p1 ht v0 v1
    rw [if_pos c] at g1 g2
    rw [bd_t g1, if_neg (show ¬ e.1 7 2 = -1 by omega), gd_t (by omega), up_t]
    exact ⟨_, rfl, g2.sc10 (j := 6) k1.2.1 p0 (by rw [k1.2.2.2.2.1]; exact p1) (by decide) (by decide), g3.tr (SCR.ms (by decide) (by decide) (by decide) (by omega))⟩
  · rw [if_neg c]
    obtain ⟨m1, g1, g2, g3⟩ := rBeg (v := v) h hc hl (fun hh => absurd hh c) p0 p1 ht v0 v1
    rw [if_neg c] at g1 g2
    rw [bd_t g1, if_pos rfl, gd_t (by omega), lx_p, up_t, ms_id]
    exact ⟨_, rfl, g2, g3⟩
theorem rRun (h : RXE m e) (hc : CN e) (hL : LsB e) (p0 : 0 ≤ p) (p1 : p < e.1 10 2) : fm_X12_isRunning p m = some (if lastO e p then 1 else 0) := by
  have n7 := hc.1
  have n10 := hc.2.2.2.1
  have k134 : m 134 p = e.1 (10000 + p) 6 := h.pc.1 p p0 p1 6 (by decide) (by decide)
  have lb := hL p p0 p1
  unfold fm_X12_isRunning
  rw [gd_t (by omega), lx_p, k134]
  by_cases c1 : e.1 (10000 + p) 6 = -1
  · rw [if_pos c1, if_neg (show ¬ lastO e p from fun hh => by have := hh.1.1; omega)]
  · have k83 := (h.pr.1 (e.1 (10000 + p) 6) (by omega) lb.2).1.2.2.2.1
    rw [if_neg c1, gd_t (by omega), lx_p, k83]
    by_cases c2 : e.1 (7000 + e.1 (10000 + p) 6) 6 = 0
    · rw [if_pos c2, if_pos (show lastO e p from ⟨⟨by omega, lb.2⟩, c2⟩)]
    · rw [if_neg c2, if_neg (show ¬ lastO e p from fun hh => c2 hh.2)]
theorem RXE.meet (h : RXE m e) (hc : CN e) (hl : RLw e) (hf : RFw (pMeet p v e)) (hL : LsB e) (p0 : 0 ≤ p) (p1 : p < e.1 10 2) (ht : 0 ≤ e.1 (10000 + p) 0 ∧ e.1 (10000 + p) 0 < 4) (v0 : 0 ≤ v) (v1 : v < 1000) : ∃ m', fm_X12_point p v m = some (0, m') ∧ RXE m' (pMeet p v e) ∧ SCR m m' := by
  have n7 := hc.1
  have n10 := hc.2.2.2.1
  have k131 : m 131 p = e.1 (10000 + p) 3 := h.pc.1 p p0 p1 3 (by decide) (by decide)
  have k135 : m 135 p = e.1 (10000 + p) 7 := h.pc.1 p p0 p1 7 (by decide) (by decide)
  have k134 : m 134 p = e.1 (10000 + p) 6 := h.pc.1 p p0 p1 6 (by decide) (by decide)
  have hs18 : RFw (pStF p v e) → ∃ m', fj_X12_point_18 p v m = some (0, m') ∧ RXE m' (pStF p v e) ∧ SCR m m' := fun hf => by
    obtain ⟨m', g1, g2, g3⟩ := h.stF hc hl hf p0 p1 ht v0 v1
    unfold fj_X12_point_18
    rw [bd_t g1]
    exact ⟨m', rfl, g2, g3⟩
  unfold fm_X12_point
  unfold pMeet at hf ⊢
  rw [bp_t (rRun h hc hL p0 p1)]
  by_cases c1 : lastO e p
  · rw [if_pos c1, if_neg (show ¬ (1 : Int) = 0 by decide), gd_t (by omega), lx_p, k131]
    by_cases c3 : e.1 (10000 + p) 3 = 3
    · rw [if_pos (show ¬ lastO e p ∨ e.1 (10000 + p) 3 = 3 from Or.inr c3)] at hf ⊢
      rw [if_pos c3]
      exact hs18 hf
    · rw [if_neg (show ¬ (¬ lastO e p ∨ e.1 (10000 + p) 3 = 3) from fun hh => hh.elim (fun g => g c1) c3)] at hf ⊢
      rw [if_neg c3]
      have h63 : e.1 (10000 + p) 3 ≠ 1 ∨ e.1 (10000 + p) 7 ≠ 0 → RFw (if e.1 (10000 + p) 3 = 1 then (if e.1 (10000 + p) 7 = 0 then eS (eS e (10000 + p) 7 1) (10000 + p) 8 v else e) else if e.1 (10000 + p) 3 = 2 then pStF p v (pCan (e.1 (10000 + p) 6) e).2 else e) → ∃ m', fj_X12_point_63 p v m = some (0, m') ∧ RXE m' (if e.1 (10000 + p) 3 = 1 then (if e.1 (10000 + p) 7 = 0 then eS (eS e (10000 + p) 7 1) (10000 + p) 8 v else e) else if e.1 (10000 + p) 3 = 2 then pStF p v (pCan (e.1 (10000 + p) 6) e).2 else e) ∧ SCR m m' := fun hh hf => by
        unfold fj_X12_point_63
        rw [gd_t (by omega), lx_p, k131]
        by_cases d1 : e.1 (10000 + p) 3 = 1
        · rw [if_neg (by omega), if_pos d1, if_neg (show ¬ e.1 (10000 + p) 7 = 0 by omega)]
          exact ⟨m, rfl, h, SCR.rf⟩
        · rw [if_neg d1] at hf ⊢
          by_cases d2 : e.1 (10000 + p) 3 = 2
          · rw [if_pos d2] at hf
            rw [if_pos d2, if_pos d2, lx_p, k134]
            have kc := kt_can hc c1.1.1 c1.1.2
            have ks := kt_stF (p := p) (v := v) kc.2.1 p0 (by rw [kc.2.2.2.2.1]; exact p1)
            obtain ⟨m1, g1, g2, g3⟩ := h.can hc hl (hf.bk ks.1) c1.1.1 c1.1.2 (fun hd => hd.1 c1.2)
            have t0 : (pCan (e.1 (10000 + p) 6) e).2.1 (10000 + p) 0 = e.1 (10000 + p) 0 := kc.2.2.2.2.2.2.2 p 0 p0 p1 (by decide) (by decide) (by decide) (by decide)
            obtain ⟨m2, u1, u2, u3⟩ := g2.stF kc.2.1 (kc.1.2.2 hl) hf p0 (by rw [kc.2.2.2.2.1]; exact p1) (by rw [t0]; exact ht) v0 v1
            rw [bd_t g1, bd_t u1]
            exact ⟨m2, rfl, u2, g3.tr u3⟩
          · rw [if_neg d2, if_neg d2]
            exact ⟨m, rfl, h, SCR.rf⟩
      by_cases c4 : e.1 (10000 + p) 3 = 1
      · rw [if_pos c4, lx_p, k135]
        by_cases c5 : e.1 (10000 + p) 7 = 0
        · rw [if_pos c5, if_pos c4, if_pos c5, up_t, up_t]
          have k1 := kt_s10 (v := 1) hc p0 p1 (j := 7) (by omega)
          exact ⟨_, rfl, (h.sc10 (j := 7) hc p0 p1 (by decide) (by decide)).sc10 (j := 8) k1.2.1 p0 (by rw [k1.2.2.2.2.1]; exact p1) (by decide) (by decide), (SCR.ms (by decide) (by decide) (by decide) (by omega)).tr (SCR.ms (by decide) (by decide) (by decide) (by omega))⟩
        · rw [if_neg c5]
          exact h63 (Or.inr c5) hf
      · rw [if_neg c4]
        exact h63 (Or.inl c4) hf
  · rw [if_pos (show ¬ lastO e p ∨ e.1 (10000 + p) 3 = 3 from Or.inl c1)] at hf ⊢
    rw [if_neg c1, if_pos (show (0 : Int) = 0 from rfl)]
    exact hs18 hf
theorem rTh2 (h0 : -1000000 < x) (h1 : x < 100000000) : fm_X12_ofThousand x m = some (x % 1000) := by
  unfold fm_X12_ofThousand
  rw [lx_p]
  by_cases c : 0 ≤ x
  · rw [show Int.tmod x 1000 = x % 1000 from Int.tmod_eq_emod_of_nonneg c, if_neg (by omega)]
  · have e1 : Int.tmod x 1000 = -((-x) % 1000) := by
      rw [show x = -(-x) by omega, Int.neg_tmod, Int.tmod_eq_emod_of_nonneg (show 0 ≤ - x by omega)]
      omega
    by_cases c2 : (-x) % 1000 = 0
    · rw [e1, c2, if_neg (by decide)]
      congr 1
      omega
    · rw [e1, if_pos (by omega), w32_id (by omega) (by omega)]
      congr 1
      omega
theorem tm0 : Int.tmod t q = 0 ↔ t % q = 0 := by
  rw [← Int.dvd_iff_tmod_eq_zero, ← Int.dvd_iff_emod_eq_zero]
theorem schLr {K : MM → Option (Int × MM)} (p0 : 0 ≤ p) (hN : -1000000 < N ∧ N < 3000000) : ∀ (n f : Nat) (t : Int) (m : MM) (e : ES), RXE m e → CN e → RLw e → LsB e → RFw (pSchL p N n t e) → p < e.1 10 2 → (0 ≤ e.1 (10000 + p) 0 ∧ e.1 (10000 + p) 0 < 4) → (1 ≤ e.1 (10000 + p) 2 ∧ e.1 (10000 + p) 2 ≤ 50) → -1000000 < t → t < 3000002 → N < t + n → N + 1 - t < f → 0 < n → 0 < f → ∃ m', fl_X12_looksAtSchedule_54 p N K f t m = K m' ∧ RXE m' (pSchL p N n t e) ∧ SCR m m' := by
  intro n
  induction n with
  | zero => intro f t m e h hc hl hL hf p1 ht hq t0 t1 t2 h2 hn; omega
  | succ n ih =>
    intro f t m e h hc hl hL hf p1 ht hq t0 t1 t2 h2 hn hf0
    obtain ⟨f, rfl⟩ : ∃ g, f = g + 1 := ⟨f - 1, by omega⟩
    have n10 := hc.2.2.2.1
    have hu : pSchL p N (n + 1) t e = if N < t then e else pSchL p N n (t + 1) (pPt p t e) := rfl
    rw [hu] at hf ⊢
    unfold fl_X12_looksAtSchedule_54
    by_cases c1 : N < t
    · rw [if_pos c1, if_pos c1]
      exact ⟨m, rfl, h, SCR.rf⟩
    · rw [if_neg c1] at hf ⊢
      have k130 : m 130 p = e.1 (10000 + p) 2 := h.pc.1 p p0 p1 2 (by decide) (by decide)
      have k133 : m 133 p = e.1 (10000 + p) 5 := h.pc.1 p p0 p1 5 (by decide) (by decide)
      have kp := kt_pt (t := t) hc p0 p1
      have kl := kt_schL (p := p) (N := N) n (t + 1) (pPt p t e) kp.2.1 p0 (by rw [kp.2.2.2.2.1]; exact p1)
      have hfp := hf.bk kl.1
      have on : ∀ m1, RXE m1 (pPt p t e) → SCR m m1 → ∃ m', fl_X12_looksAtSchedule_54 p N K f (t + 1) m1 = K m' ∧ RXE m' (pSchL p N n (t + 1) (pPt p t e)) ∧ SCR m m' := fun m1 g1 g2 => by
        have s0 : (pPt p t e).1 (10000 + p) 0 = e.1 (10000 + p) 0 := kp.2.2.2.2.2.2.2 p 0 p0 p1 (by decide) (by decide) (by decide) (by decide)
        have s2 : (pPt p t e).1 (10000 + p) 2 = e.1 (10000 + p) 2 := kp.2.2.2.2.2.2.2 p 2 p0 p1 (by decide) (by decide) (by decide) (by decide)
        by_cases hn1 : n = 0
        · subst hn1
          obtain ⟨f, rfl⟩ : ∃ g, f = g + 1 := ⟨f - 1, by omega⟩
          unfold fl_X12_looksAtSchedule_54
          rw [if_pos (by omega)]
          exact ⟨m1, rfl, g1, g2⟩
        · obtain ⟨m', u1, u2, u3⟩ := ih f (t + 1) m1 _ g1 kp.2.1 (kp.1.2.2 hl) (kp.2.2.2.1 hL) hf (by rw [kp.2.2.2.2.1]; exact p1) (by rw [s0]; exact ht) (by rw [s2]; exact hq) (by omega) (by omega) (by omega) (by omega) (by omega) (by omega)
          exact ⟨m', u1, u2, g2.tr u3⟩
      rw [if_neg c1, gd_t (by omega), lx_p, k130, gd_t (by omega)]
      by_cases c2 : t % e.1 (10000 + p) 2 = 0
      · rw [if_pos (tm0.mpr c2), lx_p, k133]
        by_cases c3 : e.1 (10000 + p) 5 = 0
        · have hp : pPt p t e = pMeet p (t % 1000) e := if_pos ⟨c2, c3⟩
          rw [hp] at hfp
          obtain ⟨m1, g1, g2, g3⟩ := h.meet (v := t % 1000) hc hl hfp hL p0 p1 ht (by omega) (by omega)
          rw [if_pos c3, bp_t (rTh2 t0 (by omega)), bd_t g1, lx_p, w32_id (by omega) (by omega)]
          exact on m1 (by rw [hp]; exact g2) g3
        · have hp : pPt p t e = e := if_neg (fun hh => c3 hh.2)
          rw [if_neg c3, lx_p, w32_id (by omega) (by omega)]
          exact on m (by rw [hp]; exact h) SCR.rf
      · have hp : pPt p t e = e := if_neg (fun hh => c2 hh.1)
        rw [if_neg (fun hh => c2 (tm0.mp hh)), lx_p, w32_id (by omega) (by omega)]
        exact on m (by rw [hp]; exact h) SCR.rf
theorem rLookS (h : RXE m e) (hP : PW e) (hl : RLw e) (hL : LsB e) (hf : RFw (pLookS p e)) (p0 : 0 ≤ p) (p1 : p < e.1 10 2) (h8 : 0 ≤ e.1 (10000 + p) 8 ∧ e.1 (10000 + p) 8 ≤ 999) : ∃ m', fm_X12_looksAtSchedule p m = some (0, m') ∧ RXE m' (pLookS p e) ∧ SCR m m' := by
  have hc := hP.1.2
  have n10 := hc.2.2.2.1
  have k1 := kt_lkS1 (p := p) hc p0 p1
  have k2 := kt_lk29 (p := p) k1.2.1 p0 (by rw [k1.2.2.2.2.1]; exact p1)
  have hS := hP.2.2.2 p p0 p1
  have g15 := hP.1.1.1
  have k135 : m 135 p = e.1 (10000 + p) 7 := h.pc.1 p p0 p1 7 (by decide) (by decide)
  have k136 : m 136 p = e.1 (10000 + p) 8 := h.pc.1 p p0 p1 8 (by decide) (by decide)
  have hf2 : RFw (pLk29 p (pLkS1 p e)) := hf
  have hf1 : RFw (pLkS1 p e) := hf2.bk k2.1
  have h35 : ∀ m1, RXE m1 (pLkS1 p e) → SCR m m1 → ∃ m', fj_X12_looksAtSchedule_35 p m1 = some (0, m') ∧ RXE m' (pLookS p e) ∧ SCR m m' := fun m1 g1 g2 => by
    obtain ⟨E, hE⟩ : ∃ E, E = pLkS1 p e := ⟨_, rfl⟩
    rw [← hE] at g1 hf2 hf1 k1 k2
    have q1 : p < E.1 10 2 := by rw [k1.2.2.2.2.1]; exact p1
    have e0 : m1 68 0 = E.1 4 14 := g1.ps.1
    have e68 : m1 68 68 = E.1 4 15 := g1.ps.2.2.2.2.2.2.2.1
    have k132 : m1 132 p = E.1 (10000 + p) 4 := g1.pc.1 p p0 q1 4 (by decide) (by decide)
    have x14 := k1.2.2.2.2.2.1
    have x15 := k1.2.2.2.2.2.2.1
    have lE := k1.1.2.2 hl
    have tE := lE.1
    have b4 : -20000 ≤ E.1 (10000 + p) 4 ∧ E.1 (10000 + p) 4 < 2000000 := by
      have : E.1 (10000 + p) 4 = e.1 (10000 + p) 4 := by
        rw [hE]
        unfold pLkS1
        split
        · unfold pStF
          split
          · have n7 := hc.1
            have z7 : (eS e (10000 + p) 7 0).1 7 2 = e.1 7 2 := eS_a (by omega)
            rw [eS_j (by decide), start_a (by rw [z7]; omega) (by omega) (by omega) (by rw [z7]; omega) (by rw [z7]; omega) (by omega) (by omega) (by rw [z7]; omega), eS_j (by decide)]
          · exact eS_j (by decide)
        · rfl
      rw [this]
      exact hS.2
    have s0 : E.1 (10000 + p) 0 = e.1 (10000 + p) 0 := k1.2.2.2.2.2.2.2 p 0 p0 p1 (by decide) (by decide) (by decide) (by decide)
    have s2 : E.1 (10000 + p) 2 = e.1 (10000 + p) 2 := k1.2.2.2.2.2.2.2 p 2 p0 p1 (by decide) (by decide) (by decide) (by decide)
    obtain ⟨N, hN⟩ : ∃ N, N = E.1 4 14 + E.1 4 15 := ⟨_, rfl⟩
    have hu : pLk29 p E = eS (pSchL p N ((N - E.1 (10000 + p) 4).toNat + 1) (E.1 (10000 + p) 4 + 1) E) (10000 + p) 4 (if E.1 (10000 + p) 4 < N then N else E.1 (10000 + p) 4) := by rw [hN]; rfl
    have hL' : pLookS p e = pLk29 p E := by rw [hE]; rfl
    rw [hL', hu]
    rw [hu] at hf2
    have kl := kt_schL (p := p) (N := N) ((N - E.1 (10000 + p) 4).toNat + 1) (E.1 (10000 + p) 4 + 1) E k1.2.1 p0 q1
    have kse := kt_s10 (j := 4) (v := if E.1 (10000 + p) 4 < N then N else E.1 (10000 + p) 4) kl.2.1 p0 (by rw [kl.2.2.2.2.1]; exact q1) (Or.inl rfl)
    obtain ⟨m2, u1, u2, u3⟩ := schLr (p := p) (N := N) (K := fun m_142 => lx (m_142 132 p) fun x_156 => bp (fm_X12_most x_156 N m_142) fun x_159 => up m_142 132 p x_159 fun m_167 => some (0, m_167)) p0 (by omega) ((N - E.1 (10000 + p) 4).toNat + 1) BIG (E.1 (10000 + p) 4 + 1) m1 E g1 k1.2.1 lE (k1.2.2.2.1 hL) (hf2.bk kse.1) q1 (by rw [s0]; exact hS.1.1) (by rw [s2]; exact hS.1.2.1) (by omega) (by omega) (by omega) (by have : BIG = 1000000000 := rfl; omega) (by omega) (by have : BIG = 1000000000 := rfl; omega)
    have l4 : ∀ (n : Nat) (t : Int) (X : ES), CN X → p < X.1 10 2 → (pSchL p N n t X).1 (10000 + p) 4 = X.1 (10000 + p) 4 := by
      have st4 : ∀ (X : ES) (v : Int), CN X → p < X.1 10 2 → (pStF p v X).1 (10000 + p) 4 = X.1 (10000 + p) 4 := fun X v hX pX => by
        have n7 := hX.1
        unfold pStF
        split
        · rw [eS_j (by decide), start_a n7.1 (by omega) (by omega) (by omega) (by omega) (by omega) (by omega) (by omega)]
        · rfl
      have pt4 : ∀ (t : Int) (X : ES), CN X → p < X.1 10 2 → (pPt p t X).1 (10000 + p) 4 = X.1 (10000 + p) 4 := fun t X hX pX => by
        unfold pPt
        split
        · unfold pMeet
          by_cases z1 : ¬ lastO X p ∨ X.1 (10000 + p) 3 = 3
          · rw [if_pos z1]; exact st4 X _ hX pX
          · rw [if_neg z1]
            split
            · split
              · rw [eS_j (by decide), eS_j (by decide)]
              · rfl
            · split
              · have lo : lastO X p := by
                  by_cases cc : lastO X p
                  · exact cc
                  · exact absurd (Or.inl cc) z1
                have kc := kt_can hX lo.1.1 lo.1.2
                rw [st4 _ _ kc.2.1 (by rw [kc.2.2.2.2.1]; exact pX)]
                have n7 := hX.1
                unfold pCan
                split
                · rfl
                · exact arr_a (by omega) (by omega) (by omega) (by omega) (by omega)
              · rfl
        · rfl
      intro n
      induction n with
      | zero => intro t X _ _; rfl
      | succ n ih =>
        intro t X hX pX
        unfold pSchL
        split
        · rfl
        · have kp := kt_pt (p := p) (t := t) hX p0 pX
          rw [ih (t + 1) _ kp.2.1 (by rw [kp.2.2.2.2.1]; exact pX), pt4 t X hX pX]
    have q2 : p < (pSchL p N ((N - E.1 (10000 + p) 4).toNat + 1) (E.1 (10000 + p) 4 + 1) E).1 10 2 := by rw [kl.2.2.2.2.1]; exact q1
    have k132b : m2 132 p = E.1 (10000 + p) 4 := by
      have : m2 132 p = (pSchL p N ((N - E.1 (10000 + p) 4).toNat + 1) (E.1 (10000 + p) 4 + 1) E).1 (10000 + p) 4 := u2.pc.1 p p0 q2 4 (by decide) (by decide)
      rw [this, l4 _ _ E k1.2.1 q1]
    have hm : fm_X12_most (E.1 (10000 + p) 4) N m2 = some (if E.1 (10000 + p) 4 < N then N else E.1 (10000 + p) 4) := by
      unfold fm_X12_most
      by_cases z : N < E.1 (10000 + p) 4
      · rw [if_pos z, if_neg (by omega)]
      · rw [if_neg z]
        by_cases z2 : E.1 (10000 + p) 4 < N
        · rw [if_pos z2]
        · rw [if_neg z2]
          congr 1
          omega
    unfold fj_X12_looksAtSchedule_35
    rw [lx_p, e0, lx_p, e68, lx_p, w32_id (z := E.1 4 14 + E.1 4 15) (by omega) (by omega), gd_t (by omega), lx_p, k132, lx_p, w32_id (z := E.1 (10000 + p) 4 + 1) (by omega) (by omega), ← hN, u1, lx_p, k132b, bp_t hm, up_t]
    exact ⟨_, rfl, u2.sc10 (j := 4) kl.2.1 p0 q2 (by decide) (by decide), (g2.tr u3).tr (SCR.ms (by decide) (by decide) (by decide) (by omega))⟩
  unfold fm_X12_looksAtSchedule
  rw [gd_t (by omega), lx_p, k135]
  by_cases c1 : e.1 (10000 + p) 7 = 0
  · rw [if_pos c1]
    exact h35 m (by unfold pLkS1; rw [if_neg (fun hh => hh.1 c1)]; exact h) SCR.rf
  · rw [if_neg c1, bp_t (rRun h hc hL p0 p1)]
    by_cases c2 : lastO e p
    · rw [if_pos c2, if_neg (show ¬ (1 : Int) = 0 by decide)]
      exact h35 m (by unfold pLkS1; rw [if_neg (fun hh => hh.2 c2)]; exact h) SCR.rf
    · have h1 : RXE (mset m 135 p 0) (eS e (10000 + p) 7 0) := h.sc10 (j := 7) (v := 0) hc p0 p1 (by decide) (by decide)
      have ks := kt_s10 (v := 0) hc p0 p1 (j := 7) (by omega)
      have eP : pLkS1 p e = pStF p (e.1 (10000 + p) 8) (eS e (10000 + p) 7 0) := by
        unfold pLkS1
        rw [if_pos ⟨c1, c2⟩]
      rw [eP] at hf1
      obtain ⟨m1, g1, g2, g3⟩ := h1.stF (p := p) (v := e.1 (10000 + p) 8) ks.2.1 (ks.1.2.2 hl) hf1 p0 (by rw [ks.2.2.2.2.1]; exact p1) (by rw [eS_j (by decide)]; exact hS.1.1) h8.1 (by omega)
      rw [if_neg c2, if_pos (show (0 : Int) = 0 from rfl), up_t, lx_p, ms_a (by decide), k136, bd_t g1]
      exact h35 m1 (by rw [eP]; exact g2) ((SCR.ms (by decide) (by decide) (by decide) (by omega)).tr g3)
end RXU3
