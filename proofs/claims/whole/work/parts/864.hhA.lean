/-! ALL THAT STANDS BETWEEN THE CALLS, through the calls that put nothing. -/
section HHA
variable {e e' e1 e2 : ES} {Z : Int → Prop} {S D T S' D' T' a b c d i j k q r v w N M p y t o p1 p2 p3 p4 p5 p6 : Int} {n : Nat} {s : TS} {l : List Int}
theorem FBi.fr2 (h : FBi Z e) (ha : ∀ a u : Int, (a = 7 ∧ u = 2) ∨ (a = 8 ∧ u = 2) ∨ (a = 9 ∧ u = 2) ∨ (a = 4 ∧ (u = 11 ∨ u = 12)) ∨ (7000 ≤ a ∧ a < 7030 ∧ u ≤ 10 ∧ u ≠ 7 ∧ u ≠ 9 ∧ u ≠ 8) ∨ (8000 ≤ a ∧ a < 8060 ∧ u = 5) → e'.1 a u = e.1 a u) (hA : ∀ p : Int, 0 ≤ p → p < e.1 8 2 → WAs e' p ∧ e'.1 (8000 + p) 0 = e.1 (8000 + p) 0) (h8 : ∀ r : Int, 0 ≤ r → r < e.1 7 2 → 0 ≤ e'.1 (7000 + r) 8 ∧ e'.1 (7000 + r) 8 ≤ hN e' r) (hv : ∀ t : Int, 0 ≤ t → t < 4 → e.1 (48 + 4 * t + 1) 2 ≤ e'.1 (48 + 4 * t + 1) 2) (hc : CN e) (hl : ∀ c : Int, c = 14 ∨ (73000 ≤ c ∧ c < 76000) → eL e' c = eL e c) : FBi Z e' := by
  have n7 := hc.1
  have n8 := hc.2.1
  obtain ⟨f1, f2, f3, f4, f5⟩ := h
  have e7 : e'.1 7 2 = e.1 7 2 := ha _ _ (by omega)
  have e8 : e'.1 8 2 = e.1 8 2 := ha _ _ (by omega)
  have hD : ∀ j : Int, 0 ≤ j → j < e.1 7 2 → (Dead e' j ↔ Dead e j) := fun j j0 j1 => Dead.eq (ha _ _ (by omega))
  refine ⟨fun j j0 j1 => ?_, fun j j0 j1 => ?_, fun p p0 p1 => ?_, fun j j0 j1 => ?_, ?_⟩
  · rw [e7] at j1
    obtain ⟨q1, q2, q3, q4, q5, q6, q7, q8⟩ := f1 j j0 j1
    have hvv := hv _ q1.1 q1.2
    unfold RunF
    rw [ha (7000 + j) 1 (by omega), ha (7000 + j) 2 (by omega), ha (7000 + j) 3 (by omega), ha (7000 + j) 4 (by omega), ha (7000 + j) 5 (by omega), ha (7000 + j) 6 (by omega), ha (7000 + j) 10 (by omega), ha 9 2 (by omega), e7]
    exact ⟨q1, q2, ⟨q3.1, by omega⟩, q4, q5, q6, h8 j j0 j1, q8⟩
  · rw [e7] at j1
    unfold TmF
    rw [hl _ (by omega), hl _ (by omega), hD j j0 j1]
    exact f2 j j0 j1
  · rw [e8] at p1
    obtain ⟨q1, q2, q3⟩ := f3 p p0 p1
    obtain ⟨w1, w2⟩ := hA p p0 p1
    unfold AcF
    rw [w2, ha (8000 + p) 5 (by omega), e7, hD _ q2.1 q2.2]
    exact ⟨w1, q2, q3⟩
  · rw [e7] at j1
    rw [hl _ (by omega)]
    exact f4 j j0 j1
  · unfold TgF
    rw [hl _ (by omega), e7, ha _ _ (by omega), ha _ _ (by omega)]
    exact f5
theorem HH.fr2 (h : HH S D T e) (hp : PHs S' D' T' e') (ha : ∀ a u : Int, (a = 7 ∧ u = 2) ∨ (a = 8 ∧ u = 2) ∨ (a = 9 ∧ u = 2) ∨ (a = 4 ∧ (u = 11 ∨ u = 12)) ∨ (7000 ≤ a ∧ a < 7030 ∧ u ≤ 10 ∧ u ≠ 7 ∧ u ≠ 9 ∧ u ≠ 8) ∨ (8000 ≤ a ∧ a < 8060 ∧ u = 5) → e'.1 a u = e.1 a u) (hk : ∀ a u : Int, (a = 7 ∧ u = 2) ∨ (a = 9 ∧ u = 2) ∨ (a = 4 ∧ u = 16) ∨ (a = 68 ∧ (u = 29 ∨ u = 30)) ∨ (7000 ≤ a ∧ a < 7030 ∧ (u = 1 ∨ u = 9 ∨ (12 ≤ u ∧ u ≤ 15))) ∨ (9000 ≤ a ∧ a < 9512 ∧ (u = 1 ∨ u = 3 ∨ u = 4)) ∨ (71000 ≤ a ∧ a < 71030 ∧ u = 1) ∨ (76000 ≤ a ∧ a < 76030) → e'.1 a u = e.1 a u) (hA : ∀ p : Int, 0 ≤ p → p < e.1 8 2 → WAs e' p ∧ e'.1 (8000 + p) 0 = e.1 (8000 + p) 0) (h8 : ∀ r : Int, 0 ≤ r → r < e.1 7 2 → 0 ≤ e'.1 (7000 + r) 8 ∧ e'.1 (7000 + r) 8 ≤ hN e' r) (hl : ∀ c : Int, c = 14 ∨ (73000 ≤ c ∧ c < 76000) → eL e' c = eL e c) (hvv : ∀ t : Int, 0 ≤ t → t < 4 → e.1 (48 + 4 * t + 1) 2 ≤ e'.1 (48 + 4 * t + 1) 2) (hv : ∀ t v : Int, 0 ≤ t → t < 4 → 0 ≤ v → v < e.1 (48 + 4 * t + 1) 2 → eL e' (1000 * (48 + 4 * t) + v) = eL e (1000 * (48 + 4 * t) + v)) (hh : ∀ r : Int, 0 ≤ r → r < e.1 7 2 → eH e' r = eH e r) (hm : ∀ r : Int, 0 ≤ r → e'.1 16 7 = r → e.1 16 7 = r ∧ eT e' = eT e ∧ eB e' = eB e) : HH S' D' T' e' := by
  obtain ⟨h1, h2, h3⟩ := h
  have hc := h1.cn
  have n7 := hc.1
  exact ⟨hp, h2.fr2 ha hA h8 hvv hc hl, h3.fr h2.1 h1.1.hnn hc hk hvv hv (fun r r0 r1 => (Dead.eq (ha _ _ (by omega))).mpr) hh hm⟩
theorem FBi.wa (h : FBi Z e) (ha : ∀ a u : Int, 8000 ≤ a ∧ a < 8060 → e'.1 a u = e.1 a u) (hc : CN e) : ∀ p : Int, 0 ≤ p → p < e.1 8 2 → WAs e' p ∧ e'.1 (8000 + p) 0 = e.1 (8000 + p) 0 := fun p p0 p1 => by
  have n8 := hc.2.1
  have := (h.2.2.1 p p0 p1).1
  unfold WAs WAct at this ⊢
  simp only [fun u => ha (8000 + p) u (by omega)]
  exact ⟨this, trivial⟩
/-- a field that nothing of this hangs on -/
theorem HH.es (h : HH S D T e) (hp : PHs S D T (eS e a j v)) (ha : ¬ ((a = 7 ∧ j = 2) ∨ (a = 8 ∧ j = 2) ∨ (a = 9 ∧ j = 2) ∨ (a = 4 ∧ (j = 11 ∨ j = 12 ∨ j = 16)) ∨ (a = 68 ∧ (j = 29 ∨ j = 30)) ∨ (7000 ≤ a ∧ a < 7030 ∧ j ≤ 15 ∧ j ≠ 7) ∨ (8000 ≤ a ∧ a < 8060) ∨ (9000 ≤ a ∧ a < 9512 ∧ (j = 1 ∨ j = 3 ∨ j = 4)) ∨ (71000 ≤ a ∧ a < 71030 ∧ j = 1) ∨ (76000 ≤ a ∧ a < 76030) ∨ (a = 16 ∧ j = 7) ∨ ((a = 49 ∨ a = 53 ∨ a = 57 ∨ a = 61) ∧ j = 2))) : HH S D T (eS e a j v) := by
  have hc := h.cn
  have n7 := hc.1
  have pa : ∀ b u : Int, b ≠ a ∨ u ≠ j → (eS e a j v).1 b u = e.1 b u := fun b u hb => by rw [es_pt, if_neg (by omega)]
  refine h.fr2 hp (fun b u hb => pa b u (by omega)) (fun b u hb => pa b u (by omega)) (h.2.1.wa (fun b u hb => pa b u (by omega)) hc) (fun r r0 r1 => ?_) (fun _ _ => rfl) (fun t t0 t1 => by rw [pa _ _ (by omega)]; omega) (fun _ _ _ _ _ _ => rfl) (fun _ _ _ => rfl) fun r r0 g => ⟨by rw [pa _ _ (by omega)] at g; exact g, rfl, rfl⟩
  have := (h.2.1.1 r r0 r1).2.2.2.2.2.2.1
  unfold hN
  rw [pa _ _ (by omega), pa _ _ (by omega)]
  exact this
/-- only the machine is new, and of no run -/
theorem HH.eqm (h : HH S D T e) (g : EQM e e') (hm : e'.1 16 7 = -1) : HH S D T e' := by
  have hc := h.cn
  have n7 := hc.1
  obtain ⟨g1, g2, g3⟩ := g
  refine h.fr (h.1.eqm ⟨g1, g2, g3⟩) (fun a u ha => g1 _ _ (by omega)) (fun c _ => congrFun g3 c) (fun _ _ _ _ _ _ => congrFun g3 _) (fun r _ _ => congrFun g2 r) fun r r0 g => ?_
  rw [hm] at g
  omega
theorem hh_line (h : HH S D T e) : HH S D T (pcLine p1 p2 p3 p4 e).2 := by
  have hp := ph_line (p1 := p1) (p2 := p2) (p3 := p3) (p4 := p4) h.1
  have hc := h.cn
  have n7 := hc.1
  unfold pcLine at hp ⊢
  by_cases c : 0 ≤ p1 ∧ p1 < 4
  · rw [if_pos c] at hp ⊢
    have hr := dRow_b hc c.1 c.2
    have hvs := hc.2.2.2.2 _ (isT_4 c.1 c.2)
    by_cases c2 : p2 < 0 ∨ 23 < p2
    · rw [if_pos c2]; exact h.thr
    rw [if_neg c2] at hp ⊢
    by_cases c3 : p3 < (if p2 = 3 then 1 else 0) ∨ tA p2 < p3 ∨ p4 < 0 ∨ tB p2 < p4
    · rw [if_pos c3]; exact h.thr
    rw [if_neg c3] at hp ⊢
    by_cases c4 : ((eL e (dRow (48 + 4 * p1) e)).length : Int) < 24
    · rw [if_pos c4] at hp ⊢
      refine h.fr hp (fun _ _ _ => rfl) (fun c hcc => eLs_a (by omega)) (fun t v t0 t1 v0 v1 => eLs_a ?_) (fun _ _ _ => rfl) fun r r0 g => ⟨g, rfl, rfl⟩
      have hvt := hc.2.2.2.2 _ (isT_4 t0 t1)
      unfold dRow
      by_cases ct : t = p1
      · subst ct; omega
      · omega
    · rw [if_neg c4]; exact h.thr
  · rw [if_neg c]; exact h.thr
theorem hh_deploy (h : HH S D T e) (hc' : CN (pcDeploy p1 e).2) : HH S D T (pcDeploy p1 e).2 := by
  have hp := ph_deploy (p1 := p1) h.1 hc'
  have hc := h.cn
  have n7 := hc.1
  unfold pcDeploy at hp ⊢
  by_cases c : 0 ≤ p1 ∧ p1 < 4
  · rw [if_pos c] at hp ⊢
    by_cases c2 : eL e (dRow (48 + 4 * p1) e) = []
    · rw [if_pos c2]; exact h.thr
    rw [if_neg c2] at hp ⊢
    by_cases c3 : e.1 (48 + 4 * p1 + 1) 2 < 4
    · rw [if_pos c3] at hp ⊢
      have hv0 := hc.2.2.2.2 _ (isT_4 c.1 c.2)
      have pa : ∀ a u : Int, a ≠ 48 + 4 * p1 + 1 ∨ u ≠ 2 → (pDep (48 + 4 * p1) e).1 a u = e.1 a u := fun a u hh => by
        unfold pDep
        rw [es_pt, if_neg (by omega)]
        rfl
      have pl : ∀ c, c ≠ 1000 * (48 + 4 * p1) + (e.1 (48 + 4 * p1 + 1) 2 + 1) → eL (pDep (48 + 4 * p1) e) c = eL e c := fun c hcc => eLs_a hcc
      refine h.fr2 hp (fun a u ha => pa a u (by omega)) (fun a u ha => pa a u (by omega)) (h.2.1.wa (fun b u hb => pa b u (by omega)) hc) (fun r r0 r1 => ?_) (fun c hcc => pl c (by omega)) (fun t t0 t1 => ?_) (fun t v t0 t1 v0 v1 => pl _ ?_) (fun _ _ _ => rfl) fun r r0 g => ⟨by
        have e16 := pa 16 7 (by omega)
        exact e16.symm.trans g, rfl, rfl⟩
      · have := (h.2.1.1 r r0 r1).2.2.2.2.2.2.1
        unfold hN
        rw [pa _ _ (by omega), pa _ _ (by omega)]
        exact this
      · by_cases ct : t = p1
        · subst ct
          unfold pDep
          rw [eS_e]
          omega
        · rw [pa _ _ (by omega)]
          omega
      · have hvt := hc.2.2.2.2 _ (isT_4 t0 t1)
        by_cases ct : t = p1
        · subst ct; omega
        · omega
    · rw [if_neg c3]; exact h.thr
  · rw [if_neg c]; exact h.thr
theorem hh_setKind (h : HH S D T e) : HH S D T (pcSetKind p1 p2 p3 p4 p5 p6 e).2 := by
  unfold pcSetKind
  split
  · split
    · exact h.thr
    · have h1 := h.es (v := p2) (h.1.es0 (a := 64 + p1) (j := 0) (by omega) (by omega)) (by omega)
      have h2 := h1.es (v := p3) (h1.1.es0 (a := 64 + p1) (j := 1) (by omega) (by omega)) (by omega)
      have h3 := h2.es (v := p4) (h2.1.es0 (a := 64 + p1) (j := 2) (by omega) (by omega)) (by omega)
      have h4 := h3.es (v := p5) (h3.1.es0 (a := 64 + p1) (j := 3) (by omega) (by omega)) (by omega)
      exact h4.es (v := p6) (h4.1.es0 (a := 64 + p1) (j := 4) (by omega) (by omega)) (by omega)
  · exact h.thr
theorem hh_setPolicy (h : HH S D T e) (hc : CN (pcSetPolicy p1 p2 e).2) : HH S D T (pcSetPolicy p1 p2 e).2 := by
  have hp := ph_setPolicy (p1 := p1) (p2 := p2) h.1 hc
  unfold pcSetPolicy at hp ⊢
  split
  · rename_i c
    rw [if_pos c] at hp
    split
    · exact h.thr
    · rename_i c2
      rw [if_neg c2] at hp
      exact h.es hp (by omega)
  · exact h.thr
theorem hh_setRate (h : HH S D T e) : HH S D T (pcSetRate p1 e).2 := by
  unfold pcSetRate
  split
  · exact h.thr
  · exact h.es (h.1.es0 (by omega) (by omega)) (by omega)
theorem hh_replays (h : HH S D T e) : HH S D T (pcReplays p1 e).2 := by
  unfold pcReplays
  split
  · exact h
  · exact h.thr
theorem hh_standing (h : HH S D T e) : HH S D T (pcStanding p1 e).2 := by
  unfold pcStanding
  split
  · exact h
  · exact h.thr
theorem hh_event (h : HH S D T e) : HH S D T (pcEvent p1 p2 e).2 := by
  unfold pcEvent
  split
  · split
    · exact h
    · exact h.thr
  · exact h.thr
theorem hh_difference (h : HH S D T e) : HH S D T (pcDifference p1 e).2 := by
  unfold pcDifference
  split
  · split
    · exact h
    · exact h.thr
  · exact h.thr
theorem hh_activity (h : HH S D T e) : HH S D T (pcActivity p1 e).2 := by
  unfold pcActivity
  split
  · exact h
  · exact h.thr
theorem hh_search (h : HH S D T e) : HH S D T (pcSearch p1 e).2 := by
  unfold pcSearch
  split
  · exact h
  · exact h.thr
theorem hh_shift (h : HH S D T e) : HH S D T (pcShift p1 e).2 := by
  unfold pcShift
  split
  · exact h.thr
  · exact h.es (h.1.es0 (by omega) (by omega)) (by omega)
theorem hh_togglePause (h : HH S D T e) : HH S D T (pcTogglePause p1 e).2 := by
  have := h.cn.2.2.2.1
  unfold pcTogglePause
  split
  · exact h.es (h.1.es0 (by omega) (by omega)) (by omega)
  · exact h.thr
theorem hh_copy (h : HH S D T e) : HH S D T (pcCopy p1 p2 e).2 := by
  have hp := ph_copy (p1 := p1) (p2 := p2) h.1
  have hc := h.cn
  have n7 := hc.1
  unfold pcCopy at hp ⊢
  by_cases c : 0 ≤ p1 ∧ p1 < e.1 7 2
  · rw [if_pos c] at hp ⊢
    by_cases c2 : p2 < 1 ∨ 100 < p2
    · rw [if_pos c2]; exact h.thr
    rw [if_neg c2] at hp ⊢
    dsimp only at hp ⊢
    have hl := h.1.1.len c.1 c.2
    have h80 := (h.2.1.1 p1 c.1 c.2).2.2.2.2.2.2.1
    have hz : 0 ≤ (if e.1 (7000 + p1) 8 + p2 < hN e p1 then e.1 (7000 + p1) 8 + p2 else hN e p1) ∧ (if e.1 (7000 + p1) 8 + p2 < hN e p1 then e.1 (7000 + p1) 8 + p2 else hN e p1) ≤ hN e p1 := by
      split <;> omega
    generalize (if e.1 (7000 + p1) 8 + p2 < hN e p1 then e.1 (7000 + p1) 8 + p2 else hN e p1) = z at hp hz ⊢
    have pa : ∀ b u : Int, b ≠ 7000 + p1 ∨ u ≠ 8 → (eS e (7000 + p1) 8 z).1 b u = e.1 b u := fun b u hb => by rw [es_pt, if_neg (by omega)]
    refine h.fr2 hp (fun b u hb => pa b u (by omega)) (fun b u hb => pa b u (by omega)) (h.2.1.wa (fun b u hb => pa b u (by omega)) hc) (fun r r0 r1 => ?_) (fun _ _ => rfl) (fun t t0 t1 => by rw [pa _ _ (by omega)]; omega) (fun _ _ _ _ _ _ => rfl) (fun _ _ _ => rfl) fun r r0 g => ⟨by rw [pa _ _ (by omega)] at g; exact g, rfl, rfl⟩
    have := (h.2.1.1 r r0 r1).2.2.2.2.2.2.1
    have hNr : hN (eS e (7000 + p1) 8 z) r = hN e r := pa _ _ (by omega)
    rw [hNr]
    by_cases cr : r = p1
    · subst cr
      rw [eS_e]
      exact hz
    · rw [pa _ _ (by omega)]
      exact this
  · rw [if_neg c]; exact h.thr
end HHA
