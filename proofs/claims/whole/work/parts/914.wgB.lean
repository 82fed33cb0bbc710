/-! WHAT EVERY PLAIN CALL LEAVES: fields, workers, what is brought in. -/
section WGB
variable {e e' e1 e2 : ES} {S D T a b c d i j k q r v w N M p x y t o n m s z p1 p2 p3 p4 p5 p6 : Int} {nn : Nat}
theorem wc_line (hc : CN e) : WL e (pcLine p1 p2 p3 p4 e).2 := by
  unfold pcLine
  by_cases c : 0 ≤ p1 ∧ p1 < 4
  · rw [if_pos c]
    have hr := dRow_b hc c.1 c.2
    by_cases c2 : p2 < 0 ∨ 23 < p2
    · rw [if_pos c2]; exact wg_thr hc
    rw [if_neg c2]
    by_cases c3 : p3 < (if p2 = 3 then 1 else 0) ∨ tA p2 < p3 ∨ p4 < 0 ∨ tB p2 < p4
    · rw [if_pos c3]; exact wg_thr hc
    rw [if_neg c3]
    by_cases c4 : ((eL e (dRow (48 + 4 * p1) e)).length : Int) < 24
    · rw [if_pos c4]
      exact wg_ls hc (by omega)
    · rw [if_neg c4]; exact wg_thr hc
  · rw [if_neg c]; exact wg_thr hc
theorem wc_deploy (hc : CN e) : WL e (pcDeploy p1 e).2 := by
  unfold pcDeploy
  by_cases c : 0 ≤ p1 ∧ p1 < 4
  · rw [if_pos c]
    by_cases c2 : eL e (dRow (48 + 4 * p1) e) = []
    · rw [if_pos c2]; exact wg_thr hc
    rw [if_neg c2]
    by_cases c3 : e.1 (48 + 4 * p1 + 1) 2 < 4
    · rw [if_pos c3]
      have n7 := hc.1
      have n8 := hc.2.1
      have hv0 := hc.2.2.2.2 _ (isT_4 c.1 c.2)
      have pa : ∀ a u : Int, a ≠ 48 + 4 * p1 + 1 ∨ u ≠ 2 → (pDep (48 + 4 * p1) e).1 a u = e.1 a u := fun a u hh => by
        unfold pDep
        rw [es_pt, if_neg (by omega)]
        rfl
      have pl : ∀ c, c ≠ 1000 * (48 + 4 * p1) + (e.1 (48 + 4 * p1 + 1) 2 + 1) → eL (pDep (48 + 4 * p1) e) c = eL e c := fun c hcc => eLs_a hcc
      exact WL.fr (pa _ _ (by omega)) (pa _ _ (by omega)) (pa _ _ (by omega)) (pa _ _ (by omega)) (fun u => pa _ _ (by omega)) (fun i _ _ => pl _ (by omega)) fun i _ _ => ⟨pa _ _ (by omega), rfl⟩
    · rw [if_neg c3]; exact wg_thr hc
  · rw [if_neg c]; exact wg_thr hc
theorem wc_setRate (hc : CN e) : WL e (pcSetRate p1 e).2 := by
  unfold pcSetRate
  split
  · exact wg_thr hc
  · exact wg_es hc (by omega)
theorem wc_shift (hc : CN e) : WL e (pcShift p1 e).2 := by
  unfold pcShift
  split
  · exact wg_thr hc
  · exact wg_es hc (by omega)
theorem wc_setKind (hc : CN e) : WL e (pcSetKind p1 p2 p3 p4 p5 p6 e).2 := by
  unfold pcSetKind
  split
  · rename_i c
    split
    · exact wg_thr hc
    · have hs : ∀ (e1 : ES) (j v : Int), WL e e1 ∧ CN e1 → WL e (eS e1 (64 + p1) j v) ∧ CN (eS e1 (64 + p1) j v) := fun e1 j v g => ⟨g.1.tr (wg_es g.2 (by omega)), g.2.of fun a ha => eS_a (by omega)⟩
      exact (hs _ _ _ (hs _ _ _ (hs _ _ _ (hs _ _ _ (hs _ _ _ ⟨WL.rf, hc⟩))))).1
  · exact wg_thr hc
theorem wc_setPolicy (hc : CN e) : WL e (pcSetPolicy p1 p2 e).2 := by
  unfold pcSetPolicy
  split
  · split
    · exact wg_thr hc
    · exact wg_es hc (by omega)
  · exact wg_thr hc
theorem wc_togglePause (hc : CN e) : WL e (pcTogglePause p1 e).2 := by
  have n10 := hc.2.2.2.1
  unfold pcTogglePause
  split
  · exact wg_es hc (by omega)
  · exact wg_thr hc
theorem wc_beat (hc : CN e) : WL e (pcBeat p1 p2 e).2 := by
  have n8 := hc.2.1
  unfold pcBeat
  split
  · split
    · split
      · exact (wg_es hc (by omega)).tr (wg_es (hc.of fun a ha => by rw [es_pt, if_neg (by omega)]) (by omega))
      · exact WL.rf
    · exact wg_thr hc
  · exact wg_thr hc
theorem wc_copy (hc : CN e) : WL e (pcCopy p1 p2 e).2 := by
  have n7 := hc.1
  unfold pcCopy
  split
  · split
    · exact wg_thr hc
    · exact wg_es hc (by omega)
  · exact wg_thr hc
theorem wc_take (hc : CN e) : WL e (pcTake p1 e).2 := by
  have n7 := hc.1
  have n8 := hc.2.1
  unfold pcTake
  split
  · split
    · exact WL.rf
    · rename_i c
      obtain ⟨b1, -⟩ := fTk_c (e := e) (k := p1) 61 0 (Int.le_refl _) (by omega)
      generalize hp : fTk e p1 61 0 = p at b1 c ⊢
      have pa : ∀ b u : Int, b ≠ 8000 + p ∨ u ≠ 5 → (eS e (8000 + p) 5 1).1 b u = e.1 b u := fun b u h => by rw [es_pt, if_neg (by omega)]
      have h1 : WL e (eS e (8000 + p) 5 1) := wg_es hc (by omega)
      have hs : ∀ (e1 : ES) (j v : Int), j ≠ 5 → WL e e1 ∧ CN e1 → WL e (eS e1 (8000 + p) j v) ∧ CN (eS e1 (8000 + p) j v) := fun e1 j v hj g => ⟨g.1.tr (wg_es g.2 (by omega)), g.2.of fun a ha => eS_a (by omega)⟩
      exact (hs _ _ _ (by decide) (hs _ _ _ (by decide) (hs _ _ _ (by decide) ⟨h1, hc.of fun a ha => pa _ _ (by omega)⟩))).1
  · exact wg_thr hc
theorem wc_query (hc : CN e) : WL e (pcQuery p1 p2 e).2 := by
  have hq : EQM e (qM e p1 (e.1 (7000 + p1) 3) 0) := eM_eq
  have g := wg_eqm hc hq
  have hc2 : CN (qM e p1 (e.1 (7000 + p1) 3) 0) := hc.of fun a ha => hq.1 _ _ (by omega)
  unfold pcQuery
  split
  · split
    · split
      · exact g
      · exact g.tr (wg_thr hc2)
    · exact wg_thr hc
  · exact wg_thr hc
theorem wc_plain (hc : CN e) : WL e (pcPlain p1 p2 e).2 := by
  have hq : EQM e (qM e p1 (e.1 (7000 + p1) 3) 0) := eM_eq
  have g := wg_eqm hc hq
  have hc2 : CN (qM e p1 (e.1 (7000 + p1) 3) 0) := hc.of fun a ha => hq.1 _ _ (by omega)
  unfold pcPlain
  split
  · split
    · split
      · exact g.tr (wg_eqm hc2 eM_eq)
      · exact g.tr (wg_thr hc2)
    · exact wg_thr hc
  · exact wg_thr hc
theorem wc_move (hc : CN e) : WL e (pcMove p1 p2 e).2 := by
  have n7 := hc.1
  have n8 := hc.2.1
  unfold pcMove
  split
  · split
    · split
      · rename_i c3
        have h1 : WL e (eS e (7000 + p1) 3 p2) := wg_es hc (by omega)
        have hc1 : CN (eS e (7000 + p1) 3 p2) := hc.of fun a ha => by rw [es_pt, if_neg (by omega)]
        have pa : ∀ b u : Int, b ≠ 7000 + p1 ∨ u ≠ 6 → (pMv2 p1 p2 e).1 b u = (eS e (7000 + p1) 3 p2).1 b u := fun b u h => by unfold pMv2; rw [es_pt, if_neg (by omega)]
        have h2 : WL (eS e (7000 + p1) 3 p2) (pMv2 p1 p2 e) := by
          unfold pMv2
          exact wg_es hc1 (by omega)
        have hc2 : CN (pMv2 p1 p2 e) := hc1.of fun a ha => pa _ _ (by omega)
        exact (h1.tr h2).tr (wg_eqm hc2 eM_eq)
      · exact wg_thr hc
    · exact wg_thr hc
  · exact wg_thr hc
theorem wc_unL : ∀ (n : Nat) (a i : Int) (e : ES), CN e → WL e (pUnL t v n a i e).2 := by
  intro n
  induction n with
  | zero => intro a i e _; exact WL.rf
  | succ n ih =>
    intro a i e hc
    unfold pUnL
    split
    · split
      · exact (wg_eqm hc eM_eq).tr (ih _ _ _ (hc.of fun a ha => eM_eq.1 _ _ (by omega)))
      · exact ih _ _ _ hc
    · exact WL.rf
theorem wc_27 (hc : CN e) : WL e (pcUnsafe p1 p2 e).2 := by
  unfold pcUnsafe
  split
  · split
    · exact wc_unL _ _ _ _ hc
    · exact wg_thr hc
  · exact wg_thr hc
theorem wc_schedule (hc : CN e) : WL e (pcSchedule p1 p2 p3 p4 e).2 := by
  unfold pcSchedule
  by_cases c1 : 0 ≤ p1 ∧ p1 < 4
  · rw [if_pos c1]
    by_cases c2 : 0 ≤ p2 ∧ p2 < 3
    · rw [if_pos c2]
      by_cases c3 : p3 < 1 ∨ 50 < p3 ∨ p4 < 0 ∨ 3 < p4
      · rw [if_pos c3]; exact wg_thr hc
      rw [if_neg c3]
      by_cases c4 : 0 < e.1 (48 + 4 * p1 + 1) 2 ∧ e.1 10 2 < 4
      · rw [if_pos c4]
        exact wg_new hc (Or.inr (Or.inr rfl))
      · rw [if_neg c4]; exact wg_thr hc
    · rw [if_neg c2]; exact wg_thr hc
  · rw [if_neg c1]; exact wg_thr hc
theorem wc_poll (hc : CN e) (hp : fPo e 4 (-1) 0 < 30) : WL e (pcPoll p1 e).2 := by
  unfold pcPoll
  by_cases c1 : 0 ≤ p1 ∧ p1 < 3
  · rw [if_pos c1]
    by_cases c2 : fPo e 4 (-1) 0 < 0
    · rw [if_pos c2]; exact WL.rf
    rw [if_neg c2]
    dsimp only
    generalize fPo e 4 (-1) 0 = b at hp c2 ⊢
    have h1 : WL e (eS e 12 (e.1 (7000 + b) 2) (e.1 12 (e.1 (7000 + b) 2) + 1)) := wg_es hc (by omega)
    have hc1 : CN (eS e 12 (e.1 (7000 + b) 2) (e.1 12 (e.1 (7000 + b) 2) + 1)) := hc.of fun a ha => eS_a (by omega)
    have h2 : WL _ (pGiv (e.1 (7000 + b) 2) e) := wg_es hc1 (by omega)
    have hc2 : CN (pGiv (e.1 (7000 + b) 2) e) := hc1.of fun a ha => eS_a (by omega)
    have h3 : WL (pGiv (e.1 (7000 + b) 2) e) (eS (pGiv (e.1 (7000 + b) 2) e) (7000 + b) 10 (e.1 9 2)) := wg_es hc2 (by omega)
    have hc3 : CN (eS (pGiv (e.1 (7000 + b) 2) e) (7000 + b) 10 (e.1 9 2)) := hc2.of fun a ha => eS_a (by omega)
    exact ((h1.tr h2).tr h3).tr (wg_new hc3 (Or.inr (Or.inl rfl)))
  · rw [if_neg c1]; exact wg_thr hc
theorem wc_dieL : ∀ (n : Nat) (c i : Int) (e : ES), CN e → 0 ≤ i → WL e (pDieL w n c i e).2 ∧ CN (pDieL w n c i e).2 := by
  intro n
  induction n with
  | zero => intro c i e hc _; exact ⟨WL.rf, hc⟩
  | succ n ih =>
    intro c i e hc i0
    have n9 := hc.2.2.1
    unfold pDieL
    split
    · rename_i ci
      split
      · obtain ⟨g1, g2⟩ := ih (c + 1) (i + 1) (eS e (9000 + i) 5 1) (hc.of fun a ha => eS_a (by omega)) (by omega)
        exact ⟨(wg_es hc (by omega)).tr g1, g2⟩
      · exact ih _ _ _ hc (by omega)
    · exact ⟨WL.rf, hc⟩
theorem wc_die2 : ∀ (n : Nat) (i : Int) (e : ES), CN e → 0 ≤ i → WL e (pDie2 w n i e) := by
  intro n
  induction n with
  | zero => intro i e _ _; exact WL.rf
  | succ n ih =>
    intro i e hc i0
    have n7 := hc.1
    unfold pDie2
    split
    · exact (wg_es hc (by omega)).tr (ih _ _ (hc.of fun a ha => eS_a (by omega)) (by omega))
    · exact WL.rf
theorem wc_die (hc : CN e) : WL e (pcDie p1 e).2 := by
  unfold pcDie
  split
  · obtain ⟨g1, g2⟩ := wc_dieL (w := p1) 513 0 0 e hc (Int.le_refl _)
    exact g1.tr (wc_die2 _ _ _ g2 (Int.le_refl _))
  · exact wg_thr hc
theorem wc_brL : ∀ (n : Nat) (i : Int) (e : ES), HH S D T e → WL e (pBrL N n i e).2 := by
  intro n
  induction n with
  | zero => intro i e _; exact WL.rf
  | succ n ih =>
    intro i e hH
    unfold pBrL
    split
    · split
      · rename_i c
        have n7 := hH.cn.1
        have n8 := hH.cn.2.1
        have pa : ∀ b u : Int, (b ≠ 4 ∨ u ≠ 12) → (b < 7000 ∨ 7030 ≤ b ∨ u ≠ 11) → (pBr1 e).1 b u = e.1 b u := fun b u h1 h2 => br1_b h1 h2 hH.tags.2 hH.cn.1.2
        have h2 : (pBr1 e).2 = e.2 := by
          unfold pBr1
          show (if _ then eS e _ _ _ else e).2 = e.2
          split <;> rfl
        have h1 : WL e (pBr1 e) := WL.fr (pa _ _ (by omega) (by omega)) (pa _ _ (by omega) (by omega)) (pa _ _ (by omega) (by omega)) (pa _ _ (by omega) (by omega)) (fun u => pa _ _ (by omega) (by omega)) (fun i _ _ => br1_l) fun i _ _ => ⟨pa _ _ (by omega) (by omega), by unfold eH; rw [h2]⟩
        exact h1.tr (ih _ _ (hh_br1 hH c (ph_br1 hH.1)))
      · exact WL.rf
    · exact WL.rf
theorem wc_bringIn (hH : HH S D T e) : WL e (pcBringIn p1 e).2 := by
  unfold pcBringIn
  split
  · exact wg_thr hH.cn
  · exact wc_brL _ _ _ hH
theorem wc_bfL (p0 : 0 ≤ p) (p1' : p < 1000) : ∀ (n : Nat) (a t : Int) (e : ES), HH S D T e → ScB p e → WL e (pBfL p N n a t e).2 := by
  intro n
  induction n with
  | zero => intro a t e _ _; exact WL.rf
  | succ n ih =>
    intro a t e hH hs
    unfold pBfL
    split
    · exact WL.rf
    · split
      · rename_i c
        obtain ⟨g1, g2⟩ := hH.start (inp := t * e.1 (10000 + p) 2 % 1000) c (by omega) (by omega) hs.1 hs.2.1 hs.2.2
        exact (wg_start hH.cn hH.hn c).tr (ih _ _ _ g1 (hs.sd g2.sd p0 p1'))
      · exact WL.rf
theorem wc_backfill (gl : GLo k e) (hH : HH S D T e) : WL e (pcBackfill p1 p2 e).2 := by
  have n10 := hH.cn.2.2.2.1
  unfold pcBackfill
  split
  · rename_i c
    have g := gl.2.2.2.2.2.2.2 p1 c.1 c.2
    split
    · exact wg_thr hH.cn
    · exact wc_bfL c.1 (by omega) _ _ _ _ hH ⟨⟨g.1.1, g.1.2.1⟩, g.2.1, g.1.2.2⟩
  · exact wg_thr hH.cn
end WGB
