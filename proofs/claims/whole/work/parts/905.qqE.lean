/-! HOW MUCH IS PUT, through the calls: what puts nothing, or little. -/
section QQE
variable {e e' e1 e2 : ES} {S D T a b c d i j k q r v w N M p x y t o n m s z n' s' z' p1 p2 p3 p4 p5 p6 fin : Int} {nn : Nat}
def Q1 (n s z : Int) (e e' : ES) : Prop := ∃ m, QQ 0 n m s z e e'
/-- three a run that is begun -/
def Q7 (e e' : ES) : Prop := e.1 7 2 ≤ e'.1 7 2 ∧ Q1 (3 * (e'.1 7 2 - e.1 7 2)) 0 0 e e'
theorem Q1.rf : Q1 0 0 0 e e := ⟨0, QQ.rf⟩
theorem Q1.tr (h : Q1 n s z e e1) (g : Q1 n' s' z' e1 e2) : Q1 (n + n') (s + s') (z + z') e e2 := by
  obtain ⟨m1, h⟩ := h
  obtain ⟨m2, g⟩ := g
  exact ⟨_, h.tr g⟩
theorem Q1.mono (h : Q1 n s z e e') (hn : n ≤ n') (hs : s ≤ s') (hz : z ≤ z') : Q1 n' s' z' e e' := by
  obtain ⟨m1, h⟩ := h
  exact ⟨m1, h.mono hn (Int.le_refl _) hs hz⟩
theorem QQ.q1 (h : QQ 0 n m s z e e') : Q1 n s z e e' := ⟨m, h⟩
theorem Q7.rf : Q7 e e := ⟨Int.le_refl _, Q1.rf.mono (by omega) (by omega) (by omega)⟩
theorem Q7.tr (h : Q7 e e1) (g : Q7 e1 e2) : Q7 e e2 := ⟨Int.le_trans h.1 g.1, (h.2.tr g.2).mono (by omega) (by omega) (by omega)⟩
theorem Q7.of (h : e'.1 7 2 = e.1 7 2) (g : Q1 0 0 0 e e') : Q7 e e' := ⟨by omega, g.mono (by omega) (by omega) (by omega)⟩
/-- a field that nothing of it hangs on -/
theorem q7_es (hc : CN e) (ha : ¬ (71000 ≤ a ∨ (a = 3 ∧ j = 1) ∨ (a = 4 ∧ j = 16) ∨ (a = 7 ∧ j = 2) ∨ (a = 8 ∧ j = 2) ∨ (7000 ≤ a ∧ a < 7030 ∧ j = 6) ∨ (8000 ≤ a ∧ a < 8060 ∧ j = 5))) : Q7 e (eS e a j v) := by
  have n7 := hc.1
  have n8 := hc.2.1
  have pa : ∀ b u : Int, b ≠ a ∨ u ≠ j → (eS e a j v).1 b u = e.1 b u := fun b u h => by rw [es_pt, if_neg (by omega)]
  exact Q7.of (pa _ _ (by omega)) (QQ.fr (Int.le_refl _) (pa _ _ (by omega)) (pa _ _ (by omega)) (pa _ _ (by omega)) (pa _ _ (by omega)) (fun i _ _ => Or.inl (pa _ _ (by omega))) (fun p _ _ => Or.inl (pa _ _ (by omega))) (fun i _ _ => Nat.le_refl _) fun i _ _ => ⟨pa _ _ (by omega), rfl⟩).q1
theorem q7_thr (hc : CN e) : Q7 e (pThr e) := q7_es hc (by omega)
theorem q7_ls (hc : CN e) (h : c < 73000 ∨ 74000 ≤ c) {l : List Int} : Q7 e (eLs e c l) := by
  have n7 := hc.1
  have g : QQ 0 0 0 0 0 e (eLs e c l) := QQ.fr (Int.le_refl _) rfl rfl rfl rfl (fun _ _ _ => Or.inl rfl) (fun _ _ _ => Or.inl rfl) (fun i i0 i1 => by
    rw [show eL (eLs e c l) (73000 + i) = eL e (73000 + i) from eLs_a (by omega)]
    exact Nat.le_refl _) fun _ _ _ => ⟨rfl, rfl⟩
  exact Q7.of rfl g.q1
theorem q7_eqm (hc : CN e) (g : EQM e e') : Q7 e e' := by
  have n7 := hc.1
  have n8 := hc.2.1
  obtain ⟨g1, g2, g3⟩ := g
  exact Q7.of (g1 _ _ (by omega)) (QQ.fr (Int.le_refl _) (g1 _ _ (by omega)) (g1 _ _ (by omega)) (g1 _ _ (by omega)) (g1 _ _ (by omega)) (fun i _ _ => Or.inl (g1 _ _ (by omega))) (fun p _ _ => Or.inl (g1 _ _ (by omega))) (fun i i0 i1 => by
    have : eL e' (73000 + i) = eL e (73000 + i) := congrFun g3 _
    rw [this]
    exact Nat.le_refl _) fun i _ _ => ⟨g1 _ _ (by omega), congrFun g2 i⟩).q1
theorem q7_new (hc : CN e) (hk : c = 9 ∨ c = 10) {f : Int → Int} : Q7 e (pNew c f e) := by
  have n7 := hc.1
  have n8 := hc.2.1
  have n9 := hc.2.2.1
  have n10 := hc.2.2.2.1
  have pa : ∀ a u : Int, a < 9 ∨ (11 ≤ a ∧ a < 9000) ∨ 11000 ≤ a → (pNew c f e).1 a u = e.1 a u := fun a u h => by
    rcases hk with rfl | rfl
    · exact pNew_a (by omega) (by omega)
    · exact pNew_a (by omega) (by omega)
  exact Q7.of (pa _ _ (by omega)) (QQ.fr (Int.le_refl _) (pa _ _ (by omega)) (pa _ _ (by omega)) (pa _ _ (by omega)) (pa _ _ (by omega)) (fun i _ _ => Or.inl (pa _ _ (by omega))) (fun p _ _ => Or.inl (pa _ _ (by omega))) (fun i _ _ => Nat.le_refl _) fun i _ _ => ⟨pa _ _ (by omega), rfl⟩).q1
theorem q7_start (hc : CN e) (hK : HNN e) (hn : e.1 7 2 < 30) : Q7 e (pStart t a x b i e) := by
  have n7 := hc.1
  have e7 : (pStart t a x b i e).1 7 2 = e.1 7 2 + 1 := start_n n7.1
  exact ⟨by omega, (qq_start hc hK (Int.le_refl _) hn).q1.mono (by omega) (by omega) (by omega)⟩
theorem q7_can (hc : CN e) (hK : HNN e) (q0 : 0 ≤ q) (q1 : q < e.1 7 2) : Q7 e (pCan q e).2 := by
  have n7 := hc.1
  refine Q7.of ?_ (qq_can hc (Int.le_refl _) q0 q1 (hK q q0 q1)).q1
  unfold pCan
  split
  · rfl
  · exact arr_a (by omega) (by omega) (by omega) (by omega) (by omega)
/-- an activity that is waited for ends -/
theorem q7_back (hc : CN e) (hK : HNN e) (p0 : 0 ≤ p) (p1 : p < e.1 8 2) (h5 : e.1 (8000 + p) 5 ≠ 2) (q0 : 0 ≤ q) (q1 : q < e.1 7 2) (hk : k = 1 ∨ k = 2) : Q7 e (pArr q k x y (eS e (8000 + p) 5 2)) := by
  have n7 := hc.1
  have n8 := hc.2.1
  have pa : ∀ a u : Int, a ≠ 8000 + p ∨ u ≠ 5 → (eS e (8000 + p) 5 2).1 a u = e.1 a u := fun a u h => by rw [es_pt, if_neg (by omega)]
  have hc1 : CN (eS e (8000 + p) 5 2) := hc.of fun a ha => pa _ _ (by omega)
  have e7 : (eS e (8000 + p) 5 2).1 7 2 = e.1 7 2 := pa _ _ (by omega)
  have e8 : (eS e (8000 + p) 5 2).1 8 2 = e.1 8 2 := pa _ _ (by omega)
  have hN1 : ∀ i : Int, 0 ≤ i → i < 30 → hN (eS e (8000 + p) 5 2) i = hN e i := fun i _ _ => pa _ _ (by omega)
  have h1 : QQ 0 (-1) 0 0 0 e (eS e (8000 + p) 5 2) := by
    have a1 : sm (qAl (eS e (8000 + p) 5 2)) 30 = sm (qAl e) 30 := sm_to fun i i0 i1 => by
      unfold qAl
      rw [e7, pa (7000 + i) 6 (by omega)]
    have a2 : sm (qNc (eS e (8000 + p) 5 2)) 30 = sm (qNc e) 30 := sm_to fun i i0 i1 => by
      unfold qNc ccr
      rw [e7, hN1 i i0 (by omega)]
      rfl
    have a3 : sm (qTm (eS e (8000 + p) 5 2)) 30 = sm (qTm e) 30 := sm_to fun i i0 i1 => by
      unfold qTm
      rw [e7]
      rfl
    have a4 : sm (qAc (eS e (8000 + p) 5 2)) 60 = sm (qAc e) 60 - 1 := by
      rw [sm_one (r := p) (f := qAc e) (g := qAc (eS e (8000 + p) 5 2)) (n := 60) p0 (by omega) fun i i0 i1 hi => by
        unfold qAc
        rw [e8, pa (8000 + i) 5 (by omega)]]
      have h1 : qAc (eS e (8000 + p) 5 2) p = 0 := if_neg fun g => g.2 eS_e
      have h2 : qAc e p = 1 := if_pos ⟨p1, h5⟩
      omega
    have a5 : sm (qCs (eS e (8000 + p) 5 2)) 30 = sm (qCs e) 30 := sm_to fun i i0 i1 => by
      unfold qCs csr
      rw [e7, hN1 i i0 (by omega)]
      rfl
    have a6 : hN0 (eS e (8000 + p) 5 2) 0 = hN0 e 0 := by
      unfold hN0
      rw [e7, hN1 0 (by omega) (by omega)]
    have a7 : (eS e (8000 + p) 5 2).1 4 16 = e.1 4 16 := pa _ _ (by omega)
    have a8 : (eS e (8000 + p) 5 2).1 3 1 = e.1 3 1 := pa _ _ (by omega)
    unfold QQ QLk QV
    exact ⟨by omega, by omega, by omega, by omega, by omega⟩
  have h2 := qq_arr (r := 0) (q := q) (k := k) (x := x) (y := y) hc1 (Int.le_refl _) q0 (by rw [e7]; exact q1) (by rw [hN1 q q0 (by omega)]; exact hK q q0 q1) (by omega)
  have e7' : (pArr q k x y (eS e (8000 + p) 5 2)).1 7 2 = e.1 7 2 := by rw [arr_a (by omega) (by omega) (by omega) (by omega) (by omega)]; exact e7
  exact Q7.of e7' ((h1.tr h2).q1.mono (by split <;> omega) (by rw [if_neg (by omega)]; omega) (by omega))
theorem qc_signal (hH : HH S D T e) : Q1 1 1 0 e (pcSignal p1 p2 p3 e).2 := by
  have hc := hH.cn
  have th := (q7_thr hc).2.mono (n' := 1) (s' := 1) (z' := 0) (by have := hc.1; show 3 * ((pThr e).1 7 2 - e.1 7 2) ≤ 1; unfold pThr; rw [eS_a (by decide)]; omega) (by decide) (by decide)
  unfold pcSignal
  split
  · rename_i c
    split
    · split
      · split
        · exact (qq_sig hc hH.hn (Int.le_refl _) c.1 c.2).q1
        · exact th
      · exact th
    · exact th
  · exact th
theorem q7_sig (hc : CN e) (hK : HNN e) (t0 : 0 ≤ q) (t1 : q < e.1 7 2) : Q1 1 1 0 e (pArr q 4 x y e) := (qq_sig hc hK (Int.le_refl _) t0 t1).q1
theorem Q7.q1 (h : Q7 e e') (h7 : e'.1 7 2 = e.1 7 2) (n0 : 0 ≤ n) (s0 : 0 ≤ s) (z0 : 0 ≤ z) : Q1 n s z e e' := h.2.mono (by omega) s0 z0
theorem qc_update (hH : HH S D T e) : Q1 1 1 0 e (pcUpdate p1 p2 p3 e).2 := by
  have hc := hH.cn
  have n7 := hc.1
  have th : Q1 1 1 0 e (pThr e) := (q7_thr hc).q1 (eS_a (by decide)) (by decide) (by decide) (by decide)
  have hq : EQM e (qM e p1 (e.1 (7000 + p1) 3) 0) := eM_eq
  have g := q7_eqm hc hq
  have e7 : (qM e p1 (e.1 (7000 + p1) 3) 0).1 7 2 = e.1 7 2 := hq.1 _ _ (by decide)
  have hc2 : CN (qM e p1 (e.1 (7000 + p1) 3) 0) := hc.of fun a ha => hq.1 _ _ (by omega)
  have hK2 : HNN (qM e p1 (e.1 (7000 + p1) 3) 0) := fun r r0 r1 => by
    rw [e7] at r1
    have : hN (qM e p1 (e.1 (7000 + p1) 3) 0) r = hN e r := hq.1 _ _ (by omega)
    rw [this]
    exact hH.hn r r0 r1
  unfold pcUpdate
  split
  · rename_i c
    split
    · split
      · split
        · split
          · exact ((g.q1 e7 (n := 0) (s := 0) (z := 0) (by decide) (by decide) (by decide)).tr (q7_sig hc2 hK2 c.1 (by rw [e7]; exact c.2))).mono (by decide) (by decide) (by decide)
          · exact g.q1 e7 (by decide) (by decide) (by decide)
        · exact th
      · exact th
    · exact th
  · exact th
theorem qc_cancel (hH : HH S D T e) : Q7 e (pcCancel p1 e).2 := by
  have hc := hH.cn
  unfold pcCancel
  split
  · rename_i c
    split
    · exact q7_can hc hH.hn c.1 c.2
    · exact q7_thr hc
  · exact q7_thr hc
theorem qc_begin (hH : HH S D T e) : Q7 e (pcBegin p1 p2 p3 e).2 := by
  have hc := hH.cn
  unfold pcBegin
  split
  · split
    · split
      · split
        · rename_i c4
          exact q7_start hc hH.hn c4.2
        · exact q7_thr hc
      · exact q7_thr hc
    · exact q7_thr hc
  · exact q7_thr hc
theorem qc_answer (hH : HH S D T e) : Q7 e (pcAnswer p1 p2 e).2 := by
  have hc := hH.cn
  unfold pcAnswer
  split
  · rename_i c
    split
    · rename_i c2
      have q := (hH.2.1.2.2.1 p1 c.1 c.2).2.1
      split
      · rename_i c3
        exact q7_back hc hH.hn c.1 c.2 (by omega) q.1 q.2 (Or.inl rfl)
      · exact Q7.rf
    · exact q7_thr hc
  · exact q7_thr hc
theorem Q7.miss (hH : HH S D T e) (p0 : 0 ≤ p) (p1' : p < e.1 8 2) (h5 : e.1 (8000 + p) 5 ≠ 2) : Q7 e (pMiss p fin e) := by
  have hc := hH.cn
  have n7 := hc.1
  have n8 := hc.2.1
  have q := (hH.2.1.2.2.1 p p0 p1').2.1
  unfold pMiss
  split
  · have pa : ∀ b u : Int, b ≠ 8000 + p ∨ u ≠ 5 → (eS e (8000 + p) 5 0).1 b u = e.1 b u := fun b u h => by rw [es_pt, if_neg (by omega)]
    have h1 : Q7 e (eS e (8000 + p) 5 0) := Q7.of (pa _ _ (by omega)) (QQ.fr (Int.le_refl _) (pa _ _ (by omega)) (pa _ _ (by omega)) (pa _ _ (by omega)) (pa _ _ (by omega)) (fun i _ _ => Or.inl (pa _ _ (by omega))) (fun p' _ _ => by
      by_cases c : p' = p
      · rw [c]; exact Or.inr (Or.inr h5)
      · exact Or.inl (pa _ _ (by omega))) (fun i _ _ => Nat.le_refl _) fun i _ _ => ⟨pa _ _ (by omega), rfl⟩).q1
    exact h1.tr (q7_es (hc.of fun a ha => pa _ _ (by omega)) (by omega))
  · exact q7_back hc hH.hn p0 p1' h5 q.1 q.2 (Or.inr rfl)
theorem qc_fail (hH : HH S D T e) : Q7 e (pcFail p1 p2 e).2 := by
  have hc := hH.cn
  unfold pcFail
  split
  · rename_i c
    split
    · rename_i c2
      exact Q7.miss hH c.1 c.2 (by omega)
    · exact Q7.rf
  · exact q7_thr hc
end QQE
