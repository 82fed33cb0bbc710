/-! WHAT EVERY CALL LEAVES: time, versions, code: fields, workers, what is brought in. -/
section TVB
variable {e e' e1 e2 : ES} {S D T a b c d i j k q r v w N M p x y t o n m s z p1 p2 p3 p4 p5 p6 : Int} {nn : Nat}
theorem tc_line (hc : CN e) : ((pcLine p1 p2 p3 p4 e).2.1 4 14 = e.1 4 14 ∧ VA e (pcLine p1 p2 p3 p4 e).2 ∧ VT e (pcLine p1 p2 p3 p4 e).2 ∧ VJ e (pcLine p1 p2 p3 p4 e).2) ∧ ∀ c : Int, 48000 ≤ c → c < 62000 → (eL (pcLine p1 p2 p3 p4 e).2 c).length ≤ (eL e c).length + 1 ∧ ((eL (pcLine p1 p2 p3 p4 e).2 c).length ≤ (eL e c).length ∨ (eL (pcLine p1 p2 p3 p4 e).2 c).length ≤ 24) := by
  have th : ∀ n : Nat, ((rT n e).2.1 4 14 = e.1 4 14 ∧ VA e (rT n e).2 ∧ VT e (rT n e).2 ∧ VJ e (rT n e).2) ∧ ∀ c : Int, 48000 ≤ c → c < 62000 → (eL (rT n e).2 c).length ≤ (eL e c).length + 1 ∧ ((eL (rT n e).2 c).length ≤ (eL e c).length ∨ (eL (rT n e).2 c).length ≤ 24) := fun n => ⟨⟨(tv_thr hc).1, (tv_thr hc).2.1, (tv_thr hc).2.2.2⟩, fun c _ _ => ⟨Nat.le_succ _, Or.inl (Nat.le_refl _)⟩⟩
  unfold pcLine
  by_cases c : 0 ≤ p1 ∧ p1 < 4
  · rw [if_pos c]
    by_cases c2 : p2 < 0 ∨ 23 < p2
    · rw [if_pos c2]; exact th _
    rw [if_neg c2]
    by_cases c3 : p3 < (if p2 = 3 then 1 else 0) ∨ tA p2 < p3 ∨ p4 < 0 ∨ tB p2 < p4
    · rw [if_pos c3]; exact th _
    rw [if_neg c3]
    by_cases c4 : ((eL e (dRow (48 + 4 * p1) e)).length : Int) < 24
    · rw [if_pos c4]
      refine ⟨⟨rfl, ⟨Int.le_refl _, fun _ _ _ => rfl⟩, ⟨rfl, fun _ _ _ h => h⟩, rfl, rfl⟩, fun c c0 c1 => ?_⟩
      by_cases cc : c = dRow (48 + 4 * p1) e
      · rw [cc]
        show (eL (eLs e (dRow (48 + 4 * p1) e) _) (dRow (48 + 4 * p1) e)).length ≤ _ ∧ ((eL (eLs e (dRow (48 + 4 * p1) e) _) (dRow (48 + 4 * p1) e)).length ≤ _ ∨ (eL (eLs e (dRow (48 + 4 * p1) e) _) (dRow (48 + 4 * p1) e)).length ≤ 24)
        rw [eLs_e, List.length_append]
        refine ⟨Nat.le_refl _, Or.inr ?_⟩
        show (eL e (dRow (48 + 4 * p1) e)).length + 1 ≤ 24
        omega
      · show (eL (eLs e (dRow (48 + 4 * p1) e) _) c).length ≤ _ ∧ ((eL (eLs e (dRow (48 + 4 * p1) e) _) c).length ≤ _ ∨ _)
        rw [eLs_a cc]
        exact ⟨Nat.le_succ _, Or.inl (Nat.le_refl _)⟩
    · rw [if_neg c4]; exact th _
  · rw [if_neg c]; exact th _
theorem tc_deploy (hc : CN e) : TV e (pcDeploy p1 e).2 := by
  unfold pcDeploy
  by_cases c : 0 ≤ p1 ∧ p1 < 4
  · rw [if_pos c]
    by_cases c2 : eL e (dRow (48 + 4 * p1) e) = []
    · rw [if_pos c2]; exact tv_thr hc
    rw [if_neg c2]
    by_cases c3 : e.1 (48 + 4 * p1 + 1) 2 < 4
    · rw [if_pos c3]
      have n7 := hc.1
      have hv0 := hc.2.2.2.2 _ (isT_4 c.1 c.2)
      have pa : ∀ a u : Int, a ≠ 48 + 4 * p1 + 1 ∨ u ≠ 2 → (pDep (48 + 4 * p1) e).1 a u = e.1 a u := fun a u hh => by
        unfold pDep
        rw [es_pt, if_neg (by omega)]
        rfl
      have n9 := hc.2.2.1
      refine ⟨pa _ _ (by omega), ⟨by rw [pa _ _ (by omega)]; exact Int.le_refl _, fun r r0 r1 => pa _ _ (by omega)⟩, fun c _ _ => ?_, ⟨pa _ _ (by omega), fun q q0 q1 hq => by rw [pa _ _ (by omega)]; exact hq⟩, pa _ _ (by omega), pa _ _ (by omega)⟩
      show (eL (eLs e (1000 * (48 + 4 * p1) + (e.1 (48 + 4 * p1 + 1) 2 + 1)) []) c).length ≤ _
      by_cases cc : c = 1000 * (48 + 4 * p1) + (e.1 (48 + 4 * p1 + 1) 2 + 1)
      · rw [cc, eLs_e]
        exact Nat.zero_le _
      · rw [eLs_a cc]
        exact Nat.le_refl _
    · rw [if_neg c3]; exact tv_thr hc
  · rw [if_neg c]; exact tv_thr hc
theorem tc_setPolicy (hc : CN e) : TV e (pcSetPolicy p1 p2 e).2 := by
  unfold pcSetPolicy
  split
  · rename_i c
    split
    · exact tv_thr hc
    · exact tv_es hc (by omega)
  · exact tv_thr hc
/-- a task is given -/
theorem tc_poll (hc : CN e) (hp : fPo e 4 (-1) 0 < 30) : ((pcPoll p1 e).2.1 4 14 = e.1 4 14 ∧ VA e (pcPoll p1 e).2 ∧ VL e (pcPoll p1 e).2 ∧ VJ e (pcPoll p1 e).2) ∧ (e.1 9 2 ≤ (pcPoll p1 e).2.1 9 2 ∧ (pcPoll p1 e).2.1 9 2 ≤ e.1 9 2 + 1) ∧ ∀ p : Int, 0 ≤ p → p < e.1 9 2 → e.1 (9000 + p) 5 ≠ 0 → (pcPoll p1 e).2.1 (9000 + p) 5 ≠ 0 := by
  have n7 := hc.1
  have n9 := hc.2.2.1
  have th : ∀ e' : ES, TV e e' → ((e'.1 4 14 = e.1 4 14 ∧ VA e e' ∧ VL e e' ∧ VJ e e') ∧ (e.1 9 2 ≤ e'.1 9 2 ∧ e'.1 9 2 ≤ e.1 9 2 + 1) ∧ ∀ p : Int, 0 ≤ p → p < e.1 9 2 → e.1 (9000 + p) 5 ≠ 0 → e'.1 (9000 + p) 5 ≠ 0) := fun e' t => ⟨⟨t.1, t.2.1, t.2.2.1, t.2.2.2.2⟩, by rw [t.2.2.2.1.1]; omega, t.2.2.2.1.2⟩
  unfold pcPoll
  by_cases c1 : 0 ≤ p1 ∧ p1 < 3
  · rw [if_pos c1]
    by_cases c2 : fPo e 4 (-1) 0 < 0
    · rw [if_pos c2]; exact th _ TV.rf
    rw [if_neg c2]
    dsimp only
    generalize fPo e 4 (-1) 0 = b at hp c2 ⊢
    have h1 : TV e (eS e 12 (e.1 (7000 + b) 2) (e.1 12 (e.1 (7000 + b) 2) + 1)) := tv_es hc (by omega)
    have hc1 : CN (eS e 12 (e.1 (7000 + b) 2) (e.1 12 (e.1 (7000 + b) 2) + 1)) := hc.of fun a ha => eS_a (by omega)
    have h2 : TV _ (pGiv (e.1 (7000 + b) 2) e) := tv_es hc1 (by omega)
    have hc2 : CN (pGiv (e.1 (7000 + b) 2) e) := hc1.of fun a ha => eS_a (by omega)
    have h3 : TV (pGiv (e.1 (7000 + b) 2) e) (eS (pGiv (e.1 (7000 + b) 2) e) (7000 + b) 10 (e.1 9 2)) := tv_es hc2 (by omega)
    have hc3 : CN (eS (pGiv (e.1 (7000 + b) 2) e) (7000 + b) 10 (e.1 9 2)) := hc2.of fun a ha => eS_a (by omega)
    obtain ⟨t1, t2, t3, t4, t5⟩ := (h1.tr h2).tr h3
    have n9' := hc3.2.2.1
    generalize eS (pGiv (e.1 (7000 + b) 2) e) (7000 + b) 10 (e.1 9 2) = e3 at t1 t2 t3 t4 t5 hc3 n9' ⊢
    generalize fTsk p1 b (e.1 4 14) (hA e b) (pMark e b) = f
    have pa : ∀ a u : Int, a ≠ 9 → a ≠ 9000 + e3.1 9 2 → (pNew 9 f e3).1 a u = e3.1 a u := fun a u h1 h2 => pNew_a h1 (by omega)
    have pn : (pNew 9 f e3).1 9 2 = e3.1 9 2 + 1 := pNew_n
    refine ⟨⟨(pa _ _ (by omega) (by omega)).trans t1, t2.tr ⟨by rw [pa _ _ (by omega) (by omega)]; exact Int.le_refl _, fun r r0 r1 => pa _ _ (by have := hc3.1; omega) (by have := hc3.1; omega)⟩, t3, (pa _ _ (by omega) (by omega)).trans t5.1, (pa _ _ (by omega) (by omega)).trans t5.2⟩, ?_, fun p p0 p1' hp => ?_⟩
    · rw [pn, t4.1]
      omega
    · have := t4.1
      rw [pa _ _ (by omega) (by omega)]
      exact t4.2 p p0 p1' hp
  · rw [if_neg c1]; exact th _ (tv_thr hc)
/-- copied: of one run 100 more at most -/
theorem tc_copy (hc : CN e) (h8 : ∀ r : Int, 0 ≤ r → r < e.1 7 2 → e.1 (7000 + r) 8 ≤ hN e r) : ((pcCopy p1 p2 e).2.1 4 14 = e.1 4 14 ∧ e.1 7 2 = (pcCopy p1 p2 e).2.1 7 2 ∧ VL e (pcCopy p1 p2 e).2 ∧ VT e (pcCopy p1 p2 e).2 ∧ VJ e (pcCopy p1 p2 e).2) ∧ ∃ q : Int, ∀ r : Int, 0 ≤ r → r < e.1 7 2 → (pcCopy p1 p2 e).2.1 (7000 + r) 8 ≤ e.1 (7000 + r) 8 + if r = q then 100 else 0 := by
  have n7 := hc.1
  have n9 := hc.2.2.1
  have th : ∀ n : Nat, ((rT n e).2.1 4 14 = e.1 4 14 ∧ e.1 7 2 = (rT n e).2.1 7 2 ∧ VL e (rT n e).2 ∧ VT e (rT n e).2 ∧ VJ e (rT n e).2) ∧ ∃ q : Int, ∀ r : Int, 0 ≤ r → r < e.1 7 2 → (rT n e).2.1 (7000 + r) 8 ≤ e.1 (7000 + r) 8 + if r = q then 100 else 0 := fun n => by
    obtain ⟨t1, ⟨t2, t3⟩, t4, t5, t6⟩ := tv_thr hc
    have pa : ∀ a u : Int, a ≠ 99 → (rT n e).2.1 a u = e.1 a u := fun a u h => eS_a h
    exact ⟨⟨t1, (pa _ _ (by decide)).symm, t4, t5, t6⟩, -1, fun r r0 r1 => by rw [pa _ _ (by omega), if_neg (by omega)]; omega⟩
  unfold pcCopy
  split
  · rename_i c1
    split
    · exact th _
    · rename_i c2
      generalize hv : (if e.1 (7000 + p1) 8 + p2 < hN e p1 then e.1 (7000 + p1) 8 + p2 else hN e p1) = v
      have hv2 : v ≤ e.1 (7000 + p1) 8 + 100 := by rw [← hv]; split <;> omega
      have pa : ∀ (a u : Int), a ≠ 7000 + p1 ∨ u ≠ 8 → (eS e (7000 + p1) 8 v).1 a u = e.1 a u := fun a u h => by rw [es_pt, if_neg (by omega)]
      refine ⟨⟨pa _ _ (by omega), (pa _ _ (by omega)).symm, fun _ _ _ => Nat.le_refl _, ⟨pa _ _ (by omega), fun q q0 q1 hq => by rw [pa _ _ (by omega)]; exact hq⟩, pa _ _ (by omega), pa _ _ (by omega)⟩, p1, fun r r0 r1 => ?_⟩
      by_cases g : r = p1
      · rw [if_pos g, g]
        show (eS e (7000 + p1) 8 v).1 (7000 + p1) 8 ≤ _
        rw [eS_e]
        exact hv2
      · rw [if_neg g]
        show (eS e (7000 + p1) 8 v).1 (7000 + r) 8 ≤ _
        rw [pa _ _ (by omega)]
        omega
  · exact th _
/-- tags are brought in -/
theorem tc_brL : ∀ (n : Nat) (i : Int) (e : ES), HH S D T e → i ≤ N → (pBrL N n i e).2.1 4 14 = e.1 4 14 ∧ (VA e (pBrL N n i e).2 ∧ VL e (pBrL N n i e).2 ∧ VT e (pBrL N n i e).2 ∧ (pBrL N n i e).2.1 4 17 = e.1 4 17) ∧ (pBrL N n i e).2.1 4 12 ≤ e.1 4 12 + (N - i) := by
  intro n
  induction n with
  | zero => intro i e _ hi; exact ⟨rfl, ⟨VA.rf, fun _ _ _ => Nat.le_refl _, VT.rf, rfl⟩, by show e.1 4 12 ≤ e.1 4 12 + (N - i); omega⟩
  | succ n ih =>
    intro i e hH hi
    have z : e.1 4 14 = e.1 4 14 ∧ (VA e e ∧ VL e e ∧ VT e e ∧ e.1 4 17 = e.1 4 17) ∧ e.1 4 12 ≤ e.1 4 12 + (N - i) := ⟨rfl, ⟨VA.rf, fun _ _ _ => Nat.le_refl _, VT.rf, rfl⟩, by omega⟩
    unfold pBrL
    split
    · rename_i cN
      split
      · rename_i c
        have n7 := hH.cn.1
        have n8 := hH.cn.2.1
        have n9 := hH.cn.2.2.1
        have pa : ∀ b u : Int, (b ≠ 4 ∨ u ≠ 12) → (b < 7000 ∨ 7030 ≤ b ∨ u ≠ 11) → (pBr1 e).1 b u = e.1 b u := fun b u h1 h2 => br1_b h1 h2 hH.tags.2 hH.cn.1.2
        have b12 : (pBr1 e).1 4 12 = e.1 4 12 + 1 := by
          unfold pBr1
          rw [eS_e]
        obtain ⟨t1, ⟨t2, t3, t4, t5⟩, t6⟩ := ih (i + 1) _ (hh_br1 hH c (ph_br1 hH.1)) (by omega)
        have a0 : VA e (pBr1 e) := ⟨by rw [pa _ _ (by omega) (by omega)]; exact Int.le_refl _, fun r r0 r1 => pa _ _ (by omega) (by omega)⟩
        have a1 : VT e (pBr1 e) := ⟨pa _ _ (by omega) (by omega), fun p p0 p1 hp => by rw [pa _ _ (by omega) (by omega)]; exact hp⟩
        have a2 : VL e (pBr1 e) := fun c _ _ => by rw [br1_l]; exact Nat.le_refl _
        exact ⟨t1.trans (pa _ _ (by omega) (by omega)), ⟨a0.tr t2, a2.tr t3, a1.tr t4, t5.trans (pa _ _ (by omega) (by omega))⟩, by omega⟩
      · exact z
    · exact z
theorem tc_bringIn (hH : HH S D T e) : (pcBringIn p1 e).2.1 4 14 = e.1 4 14 ∧ (VA e (pcBringIn p1 e).2 ∧ VL e (pcBringIn p1 e).2 ∧ VT e (pcBringIn p1 e).2 ∧ (pcBringIn p1 e).2.1 4 17 = e.1 4 17) ∧ (pcBringIn p1 e).2.1 4 12 ≤ e.1 4 12 + 100 := by
  unfold pcBringIn
  split
  · obtain ⟨t1, t2, t3, t4, t5, t6⟩ := tv_thr hH.cn
    exact ⟨t1, ⟨t2, t3, t4, t5⟩, by show (pThr e).1 4 12 ≤ _; rw [t6]; omega⟩
  · obtain ⟨t1, t2, t3⟩ := tc_brL (N := p1) (p1.toNat + 1) 0 e hH (by omega)
    exact ⟨t1, t2, by omega⟩
theorem tc_setRate (hc : CN e) : TV e (pcSetRate p1 e).2 := by
  unfold pcSetRate
  split
  · exact tv_thr hc
  · exact tv_es hc (by omega)
theorem tc_shift (hc : CN e) : TV e (pcShift p1 e).2 := by
  unfold pcShift
  split
  · exact tv_thr hc
  · exact tv_es hc (by omega)
theorem tc_setKind (hc : CN e) : TV e (pcSetKind p1 p2 p3 p4 p5 p6 e).2 := by
  unfold pcSetKind
  split
  · rename_i c
    split
    · exact tv_thr hc
    · have hs : ∀ (e1 : ES) (j v : Int), TV e e1 ∧ CN e1 → TV e (eS e1 (64 + p1) j v) ∧ CN (eS e1 (64 + p1) j v) := fun e1 j v g => ⟨g.1.tr (tv_es g.2 (by omega)), g.2.of fun a ha => eS_a (by omega)⟩
      exact (hs _ _ _ (hs _ _ _ (hs _ _ _ (hs _ _ _ (hs _ _ _ ⟨TV.rf, hc⟩))))).1
  · exact tv_thr hc
theorem tc_togglePause (hc : CN e) : TV e (pcTogglePause p1 e).2 := by
  have n10 := hc.2.2.2.1
  unfold pcTogglePause
  split
  · exact tv_es hc (by omega)
  · exact tv_thr hc
theorem tc_beat (hc : CN e) : TV e (pcBeat p1 p2 e).2 := by
  have n8 := hc.2.1
  unfold pcBeat
  split
  · split
    · split
      · exact (tv_es hc (by omega)).tr (tv_es (hc.of fun a ha => by rw [es_pt, if_neg (by omega)]) (by omega))
      · exact TV.rf
    · exact tv_thr hc
  · exact tv_thr hc
theorem tc_take (hc : CN e) : TV e (pcTake p1 e).2 := by
  have n7 := hc.1
  have n8 := hc.2.1
  unfold pcTake
  split
  · split
    · exact TV.rf
    · rename_i c
      obtain ⟨b1, -⟩ := fTk_c (e := e) (k := p1) 61 0 (Int.le_refl _) (by omega)
      generalize hp : fTk e p1 61 0 = p at b1 c ⊢
      have pa : ∀ b u : Int, b ≠ 8000 + p ∨ u ≠ 5 → (eS e (8000 + p) 5 1).1 b u = e.1 b u := fun b u h => by rw [es_pt, if_neg (by omega)]
      have h1 : TV e (eS e (8000 + p) 5 1) := tv_es hc (by omega)
      have hs : ∀ (e1 : ES) (j v : Int), j ≠ 5 → TV e e1 ∧ CN e1 → TV e (eS e1 (8000 + p) j v) ∧ CN (eS e1 (8000 + p) j v) := fun e1 j v hj g => ⟨g.1.tr (tv_es g.2 (by omega)), g.2.of fun a ha => eS_a (by omega)⟩
      exact (hs _ _ _ (by decide) (hs _ _ _ (by decide) (hs _ _ _ (by decide) ⟨h1, hc.of fun a ha => pa _ _ (by omega)⟩))).1
  · exact tv_thr hc
theorem tc_query (hc : CN e) : TV e (pcQuery p1 p2 e).2 := by
  have hq : EQM e (qM e p1 (e.1 (7000 + p1) 3) 0) := eM_eq
  have g := tv_eqm hc hq
  have hc2 : CN (qM e p1 (e.1 (7000 + p1) 3) 0) := hc.of fun a ha => hq.1 _ _ (by omega)
  unfold pcQuery
  split
  · split
    · split
      · exact g
      · exact g.tr (tv_thr hc2)
    · exact tv_thr hc
  · exact tv_thr hc
theorem tc_plain (hc : CN e) : TV e (pcPlain p1 p2 e).2 := by
  have hq : EQM e (qM e p1 (e.1 (7000 + p1) 3) 0) := eM_eq
  have g := tv_eqm hc hq
  have hc2 : CN (qM e p1 (e.1 (7000 + p1) 3) 0) := hc.of fun a ha => hq.1 _ _ (by omega)
  unfold pcPlain
  split
  · split
    · split
      · exact g.tr (tv_eqm hc2 eM_eq)
      · exact g.tr (tv_thr hc2)
    · exact tv_thr hc
  · exact tv_thr hc
theorem tc_move (hc : CN e) : TV e (pcMove p1 p2 e).2 := by
  have n7 := hc.1
  have n8 := hc.2.1
  unfold pcMove
  split
  · split
    · split
      · rename_i c3
        have h1 : TV e (eS e (7000 + p1) 3 p2) := tv_es hc (by omega)
        have hc1 : CN (eS e (7000 + p1) 3 p2) := hc.of fun a ha => by rw [es_pt, if_neg (by omega)]
        have pa : ∀ b u : Int, b ≠ 7000 + p1 ∨ u ≠ 6 → (pMv2 p1 p2 e).1 b u = (eS e (7000 + p1) 3 p2).1 b u := fun b u h => by unfold pMv2; rw [es_pt, if_neg (by omega)]
        have h2 : TV (eS e (7000 + p1) 3 p2) (pMv2 p1 p2 e) := by
          unfold pMv2
          exact tv_es hc1 (by omega)
        have hc2 : CN (pMv2 p1 p2 e) := hc1.of fun a ha => pa _ _ (by omega)
        exact (h1.tr h2).tr (tv_eqm hc2 eM_eq)
      · exact tv_thr hc
    · exact tv_thr hc
  · exact tv_thr hc
theorem tc_unL : ∀ (n : Nat) (a i : Int) (e : ES), CN e → TV e (pUnL t v n a i e).2 := by
  intro n
  induction n with
  | zero => intro a i e _; exact TV.rf
  | succ n ih =>
    intro a i e hc
    unfold pUnL
    split
    · split
      · exact (tv_eqm hc eM_eq).tr (ih _ _ _ (hc.of fun a ha => eM_eq.1 _ _ (by omega)))
      · exact ih _ _ _ hc
    · exact TV.rf
theorem tc_27 (hc : CN e) : TV e (pcUnsafe p1 p2 e).2 := by
  unfold pcUnsafe
  split
  · split
    · exact tc_unL _ _ _ _ hc
    · exact tv_thr hc
  · exact tv_thr hc
theorem tc_schedule (hc : CN e) : TV e (pcSchedule p1 p2 p3 p4 e).2 := by
  unfold pcSchedule
  by_cases c1 : 0 ≤ p1 ∧ p1 < 4
  · rw [if_pos c1]
    by_cases c2 : 0 ≤ p2 ∧ p2 < 3
    · rw [if_pos c2]
      by_cases c3 : p3 < 1 ∨ 50 < p3 ∨ p4 < 0 ∨ 3 < p4
      · rw [if_pos c3]; exact tv_thr hc
      rw [if_neg c3]
      by_cases c4 : 0 < e.1 (48 + 4 * p1 + 1) 2 ∧ e.1 10 2 < 4
      · rw [if_pos c4]
        exact tv_new hc (Or.inr rfl)
      · rw [if_neg c4]; exact tv_thr hc
    · rw [if_neg c2]; exact tv_thr hc
  · rw [if_neg c1]; exact tv_thr hc
theorem tc_dieL : ∀ (n : Nat) (c i : Int) (e : ES), CN e → 0 ≤ i → TV e (pDieL w n c i e).2 ∧ CN (pDieL w n c i e).2 := by
  intro n
  induction n with
  | zero => intro c i e hc _; exact ⟨TV.rf, hc⟩
  | succ n ih =>
    intro c i e hc i0
    have n9 := hc.2.2.1
    unfold pDieL
    split
    · rename_i ci
      split
      · obtain ⟨g1, g2⟩ := ih (c + 1) (i + 1) (eS e (9000 + i) 5 1) (hc.of fun a ha => eS_a (by omega)) (by omega)
        exact ⟨(tv_es5 hc i0 (by omega)).tr g1, g2⟩
      · exact ih _ _ _ hc (by omega)
    · exact ⟨TV.rf, hc⟩
theorem tc_die2 : ∀ (n : Nat) (i : Int) (e : ES), CN e → 0 ≤ i → TV e (pDie2 w n i e) := by
  intro n
  induction n with
  | zero => intro i e _ _; exact TV.rf
  | succ n ih =>
    intro i e hc i0
    have n7 := hc.1
    unfold pDie2
    split
    · exact (tv_es hc (by omega)).tr (ih _ _ (hc.of fun a ha => eS_a (by omega)) (by omega))
    · exact TV.rf
theorem tc_die (hc : CN e) : TV e (pcDie p1 e).2 := by
  unfold pcDie
  split
  · obtain ⟨g1, g2⟩ := tc_dieL (w := p1) 513 0 0 e hc (Int.le_refl _)
    exact g1.tr (tc_die2 _ _ _ g2 (Int.le_refl _))
  · exact tv_thr hc
theorem tc_bfL (p0 : 0 ≤ p) (p1' : p < 1000) : ∀ (n : Nat) (a t : Int) (e : ES), HH S D T e → ScB p e → TV e (pBfL p N n a t e).2 := by
  intro n
  induction n with
  | zero => intro a t e _ _; exact TV.rf
  | succ n ih =>
    intro a t e hH hs
    unfold pBfL
    split
    · exact TV.rf
    · split
      · rename_i c
        obtain ⟨g1, g2⟩ := hH.start (inp := t * e.1 (10000 + p) 2 % 1000) c (by omega) (by omega) hs.1 hs.2.1 hs.2.2
        exact (tv_start hH.cn hH.hn c).tr (ih _ _ _ g1 (hs.sd g2.sd p0 p1'))
      · exact TV.rf
theorem tc_backfill (gl : GLo k e) (hH : HH S D T e) : TV e (pcBackfill p1 p2 e).2 := by
  have n10 := hH.cn.2.2.2.1
  unfold pcBackfill
  split
  · rename_i c
    have g := gl.2.2.2.2.2.2.2 p1 c.1 c.2
    split
    · exact tv_thr hH.cn
    · exact tc_bfL c.1 (by omega) _ _ _ _ hH ⟨⟨g.1.1, g.1.2.1⟩, g.2.1, g.1.2.2⟩
  · exact tv_thr hH.cn
end TVB
