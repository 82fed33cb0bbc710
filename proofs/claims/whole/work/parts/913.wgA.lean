/-! WHAT EVERY PLAIN CALL LEAVES (uncounted signals, a run's own, TAGs): steps, the first calls. -/
section WGA
variable {e e' e1 e2 : ES} {S D T a b c d i j k q r v w N M p x y t o n m s z n' s' z' p1 p2 p3 p4 p5 p6 fin tn ver inp par pe : Int} {nn : Nat}
theorem UG.of2 (h7 : e.1 7 2 ≤ e'.1 7 2) (hh : ∀ i : Int, 0 ≤ i → i < e.1 7 2 → hN e' i = hN e i ∧ eH e' i = eH e i) : UG e e' := fun i i0 i1 => by
  by_cases ci : i < e.1 7 2
  · unfold qU qCs csr hC
    rw [if_pos ci, if_pos ci, if_pos (show i < e'.1 7 2 by omega), if_pos (show i < e'.1 7 2 by omega), (hh i i0 ci).1, (hh i i0 ci).2]
    exact Int.le_refl _
  · have w1 : qU e i = 0 := if_neg ci
    have w3 : qCs e i = 0 := if_neg ci
    have w5 := (qu_cs (e := e') i).2
    omega
theorem LO_of (h7 : e.1 7 2 ≤ e'.1 7 2) (hl : ∀ i : Int, 0 ≤ i → i < e.1 7 2 → eL e' (75000 + i) = eL e (75000 + i)) (hn : ∀ i : Int, e.1 7 2 ≤ i → i < e'.1 7 2 → eL e' (75000 + i) = []) : LO e' = LO e := sm_to fun i i0 i1 => by
  unfold qLo
  by_cases ci : i < e.1 7 2
  · rw [if_pos ci, if_pos (by omega), hl i i0 ci]
  · rw [if_neg ci]
    by_cases c2 : i < e'.1 7 2
    · rw [if_pos c2, hn i (by omega) c2]
      rfl
    · rw [if_neg c2]
/-- and nothing is lost, nor brought back -/
def WL (e e' : ES) : Prop := WG e e' ∧ (LO e' = LO e ∧ e.1 7 2 ≤ e'.1 7 2)
theorem WL.rf : WL e e := ⟨WG.rf, rfl, Int.le_refl _⟩
theorem WL.tr (h : WL e e1) (g : WL e1 e2) : WL e e2 := ⟨h.1.tr g.1, g.2.1.trans h.2.1, Int.le_trans h.2.2 g.2.2⟩
theorem WL.ex (hc : CN e) (hK : HNN e) (h : EX e e') (h11 : e'.1 4 11 = e.1 4 11) : WL e e' := by
  have n7 := hc.1
  exact ⟨WG.ex hK h h11, LO_of h.1.1 (fun i i0 i1 => h.2.2.2.2.2.1 (75000 + i) (by omega) (Or.inr ⟨by omega, by omega⟩)) (fun i i0 i1 => (h.2.2.1 i i0 i1).1.2.2.2), h.1.1⟩
theorem WL.fr (h7 : e'.1 7 2 = e.1 7 2) (h30 : e'.1 3 0 = e.1 3 0) (h11 : e'.1 4 11 = e.1 4 11) (h16 : e'.1 4 16 = e.1 4 16) (h68 : ∀ u : Int, e'.1 68 u = e.1 68 u) (hl : ∀ i : Int, 0 ≤ i → i < e.1 7 2 → eL e' (75000 + i) = eL e (75000 + i)) (hh : ∀ i : Int, 0 ≤ i → i < e.1 7 2 → hN e' i = hN e i ∧ eH e' i = eH e i) : WL e e' := ⟨WG.fr h7 h30 h11 h16 h68 hh, LO_of (by omega) hl (fun i i0 i1 => by omega), by omega⟩
theorem wg_es (hc : CN e) (ha : ¬ (71000 ≤ a ∨ a = 3 ∨ (a = 4 ∧ (j = 16 ∨ j = 11)) ∨ (a = 7 ∧ j = 2) ∨ a = 68)) : WL e (eS e a j v) := by
  have n7 := hc.1
  have pa : ∀ b u : Int, b ≠ a ∨ u ≠ j → (eS e a j v).1 b u = e.1 b u := fun b u h => by rw [es_pt, if_neg (by omega)]
  exact WL.fr (pa _ _ (by omega)) (pa _ _ (by omega)) (pa _ _ (by omega)) (pa _ _ (by omega)) (fun u => pa _ _ (by omega)) (fun _ _ _ => rfl) fun i _ _ => ⟨pa _ _ (by omega), rfl⟩
theorem wg_thr (hc : CN e) : WL e (pThr e) := wg_es hc (by omega)
theorem wg_ls (hc : CN e) (h : c < 75000 ∨ 76000 ≤ c) {l : List Int} : WL e (eLs e c l) := by
  have n7 := hc.1
  exact WL.fr rfl rfl rfl rfl (fun _ => rfl) (fun i _ _ => eLs_a (by omega)) fun _ _ _ => ⟨rfl, rfl⟩
theorem wg_eqm (hc : CN e) (g : EQM e e') : WL e e' := by
  have n7 := hc.1
  obtain ⟨g1, g2, g3⟩ := g
  exact WL.fr (g1 _ _ (by omega)) (g1 _ _ (by omega)) (g1 _ _ (by omega)) (g1 _ _ (by omega)) (fun u => g1 _ _ (by omega)) (fun _ _ _ => congrFun g3 _) fun i _ _ => ⟨g1 _ _ (by omega), congrFun g2 i⟩
theorem wg_new (hc : CN e) (hk : c = 8 ∨ c = 9 ∨ c = 10) {f : Int → Int} : WL e (pNew c f e) := by
  have n7 := hc.1
  have n8 := hc.2.1
  have n9 := hc.2.2.1
  have n10 := hc.2.2.2.1
  have pa : ∀ a u : Int, a < 8 ∨ (11 ≤ a ∧ a < 8000) ∨ 11000 ≤ a → (pNew c f e).1 a u = e.1 a u := fun a u h => by
    rcases hk with rfl | rfl | rfl
    · exact pNew_a (by omega) (by omega)
    · exact pNew_a (by omega) (by omega)
    · exact pNew_a (by omega) (by omega)
  exact WL.fr (pa _ _ (by omega)) (pa _ _ (by omega)) (pa _ _ (by omega)) (pa _ _ (by omega)) (fun u => pa _ _ (by omega)) (fun _ _ _ => rfl) fun i _ _ => ⟨pa _ _ (by omega), rfl⟩
theorem wg_arr (hc : CN e) (hK : HNN e) (q0 : 0 ≤ q) (q1 : q < e.1 7 2) (k0 : 0 ≤ k) (k7 : k ≤ 7) : WL e (pArr q k x y e) := WL.ex hc hK (gc_arr (Z := nZ) hc hK q0 q1 k0 k7).1.1 (arr_11 q0)
theorem wg_start (hc : CN e) (hK : HNN e) (hn : e.1 7 2 < 30) : WL e (pStart t tn inp par pe e) := by
  have n7 := hc.1
  have f1 : ∀ a u : Int, a ≠ 7 → a ≠ 7000 + e.1 7 2 → a ≠ 71000 + e.1 7 2 → (pNewRun t tn (e.1 (48 + 4 * t + 1) 2 - 1) par pe e).1 a u = e.1 a u := fun a u g1 g2 g3 => pNewRun_1 g1 g2 g3
  have fn : (pNewRun t tn (e.1 (48 + 4 * t + 1) 2 - 1) par pe e).1 7 2 = e.1 7 2 + 1 := pNewRun_n
  have hr : eL (pNewRun t tn (e.1 (48 + 4 * t + 1) 2 - 1) par pe e) (1000 * 75 + e.1 7 2) = [] := pNewRun_r (Or.inr (Or.inr rfl))
  rw [show (1000 : Int) * 75 = 75000 by decide] at hr
  have h1 : WL e (pNewRun t tn (e.1 (48 + 4 * t + 1) 2 - 1) par pe e) := ⟨⟨UG.of2 (by omega) fun i i0 i1 => ⟨f1 _ _ (by omega) (by omega) (by omega), rfl⟩, GR.nrun hc, f1 _ _ (by omega) (by omega) (by omega), AH.of2 (by omega) (fun i i0 i1 => ⟨f1 _ _ (by omega) (by omega) (by omega), rfl⟩) fun i i0 i1 => by
    rw [show i = e.1 7 2 by omega]
    exact Int.le_of_eq (pNewRun_h n7.1)⟩, LO_of (by omega) (fun i i0 i1 => pNewRun_l (by omega) (by omega) (by omega)) (fun i i0 i1 => by
    rw [show i = e.1 7 2 by omega]
    exact hr), by omega⟩
  have hc1 := hc.nrun (t := t) (tn := tn) (ver := e.1 (48 + 4 * t + 1) 2 - 1) (par := par) (pe := pe) hn
  unfold pStart
  exact h1.tr (wg_arr hc1 (hn_nn hK hc) n7.1 (by rw [fn]; omega) (by decide) (by decide))
theorem wg_can (hc : CN e) (hK : HNN e) (q0 : 0 ≤ q) (q1 : q < e.1 7 2) : WL e (pCan q e).2 := by
  unfold pCan
  split
  · exact WL.rf
  · exact wg_arr hc hK q0 q1 (by decide) (by decide)
/-- an activity that is waited for ends -/
theorem wg_back (hc : CN e) (hK : HNN e) (p0 : 0 ≤ p) (p1 : p < e.1 8 2) (h5 : e.1 (8000 + p) 5 ≠ 2) (q0 : 0 ≤ q) (q1 : q < e.1 7 2) (hk : k = 1 ∨ k = 2) : WL e (pArr q k x y (eS e (8000 + p) 5 2)) := by
  have n7 := hc.1
  have n8 := hc.2.1
  have pa : ∀ a u : Int, a ≠ 8000 + p ∨ u ≠ 5 → (eS e (8000 + p) 5 2).1 a u = e.1 a u := fun a u h => by rw [es_pt, if_neg (by omega)]
  have hc1 : CN (eS e (8000 + p) 5 2) := hc.of fun a ha => pa _ _ (by omega)
  have e7 : (eS e (8000 + p) 5 2).1 7 2 = e.1 7 2 := pa _ _ (by omega)
  have hK1 : HNN (eS e (8000 + p) 5 2) := fun i i0 i1 => by
    rw [e7] at i1
    have : hN (eS e (8000 + p) 5 2) i = hN e i := pa _ _ (by omega)
    rw [this]
    exact hK i i0 i1
  exact (wg_es hc (by omega)).tr (wg_arr hc1 hK1 q0 (by rw [e7]; exact q1) (by omega) (by omega))
theorem wc_signal (hH : HH S D T e) : WL e (pcSignal p1 p2 p3 e).2 := by
  have hc := hH.cn
  have th := wg_thr hc
  unfold pcSignal
  split
  · rename_i c
    split
    · split
      · split
        · exact wg_arr hc hH.hn c.1 c.2 (by decide) (by decide)
        · exact th
      · exact th
    · exact th
  · exact th
theorem wc_update (hH : HH S D T e) : WL e (pcUpdate p1 p2 p3 e).2 := by
  have hc := hH.cn
  have n7 := hc.1
  have th := wg_thr hc
  have hq : EQM e (qM e p1 (e.1 (7000 + p1) 3) 0) := eM_eq
  have g := wg_eqm hc hq
  have e7 : (qM e p1 (e.1 (7000 + p1) 3) 0).1 7 2 = e.1 7 2 := hq.1 _ _ (by decide)
  have hc2 : CN (qM e p1 (e.1 (7000 + p1) 3) 0) := hc.of fun a ha => hq.1 _ _ (by omega)
  have hK2 : HNN (qM e p1 (e.1 (7000 + p1) 3) 0) := fun r r0 r1 => by
    rw [e7] at r1
    have : hN (qM e p1 (e.1 (7000 + p1) 3) 0) r = hN e r := hq.1 _ _ (by omega)
    rw [this]
    exact hH.hn r r0 r1
  unfold pcUpdate
  split
  · rename_i c
    split
    · split
      · split
        · split
          · exact g.tr (wg_arr hc2 hK2 c.1 (by rw [e7]; exact c.2) (by decide) (by decide))
          · exact g
        · exact th
      · exact th
    · exact th
  · exact th
theorem wc_cancel (hH : HH S D T e) : WL e (pcCancel p1 e).2 := by
  have hc := hH.cn
  unfold pcCancel
  split
  · rename_i c
    split
    · exact wg_can hc hH.hn c.1 c.2
    · exact wg_thr hc
  · exact wg_thr hc
theorem wc_begin (hH : HH S D T e) : WL e (pcBegin p1 p2 p3 e).2 := by
  have hc := hH.cn
  unfold pcBegin
  split
  · split
    · split
      · split
        · rename_i c4
          exact wg_start hc hH.hn c4.2
        · exact wg_thr hc
      · exact wg_thr hc
    · exact wg_thr hc
  · exact wg_thr hc
theorem wc_answer (hH : HH S D T e) : WL e (pcAnswer p1 p2 e).2 := by
  have hc := hH.cn
  unfold pcAnswer
  split
  · rename_i c
    split
    · rename_i c2
      have q := (hH.2.1.2.2.1 p1 c.1 c.2).2.1
      split
      · rename_i c3
        exact wg_back hc hH.hn c.1 c.2 (by omega) q.1 q.2 (Or.inl rfl)
      · exact WL.rf
    · exact wg_thr hc
  · exact wg_thr hc
theorem WL.miss (hH : HH S D T e) (p0 : 0 ≤ p) (p1' : p < e.1 8 2) (h5 : e.1 (8000 + p) 5 ≠ 2) : WL e (pMiss p fin e) := by
  have hc := hH.cn
  have n7 := hc.1
  have n8 := hc.2.1
  have q := (hH.2.1.2.2.1 p p0 p1').2.1
  unfold pMiss
  split
  · have pa : ∀ b u : Int, b ≠ 8000 + p ∨ u ≠ 5 → (eS e (8000 + p) 5 0).1 b u = e.1 b u := fun b u h => by rw [es_pt, if_neg (by omega)]
    have h1 : WL e (eS e (8000 + p) 5 0) := wg_es hc (by omega)
    exact h1.tr (wg_es (hc.of fun a ha => pa _ _ (by omega)) (by omega))
  · exact wg_back hc hH.hn p0 p1' h5 q.1 q.2 (Or.inr rfl)
theorem wc_fail (hH : HH S D T e) : WL e (pcFail p1 p2 e).2 := by
  have hc := hH.cn
  unfold pcFail
  split
  · rename_i c
    split
    · rename_i c2
      exact WL.miss hH c.1 c.2 (by omega)
    · exact WL.rf
  · exact wg_thr hc
end WGA
