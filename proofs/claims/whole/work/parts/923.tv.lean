/-! WHAT EVERY CALL LEAVES: time, types and versions of runs, the code of versions. -/
section TVA
variable {e e' e1 e2 : ES} {S D T a b c d i j k q r v w N M p x y t o n m s z n' s' z' p1 p2 p3 p4 p5 p6 fin tn ver inp par pe : Int} {nn : Nat}
/-- how much of a run is copied stays -/
def VA (e e' : ES) : Prop := e.1 7 2 ≤ e'.1 7 2 ∧ ∀ r : Int, 0 ≤ r → r < e.1 7 2 → e'.1 (7000 + r) 8 = e.1 (7000 + r) 8
/-- tasks are the same, what is over stays so -/
def VT (e e' : ES) : Prop := e'.1 9 2 = e.1 9 2 ∧ ∀ p : Int, 0 ≤ p → p < e.1 9 2 → e.1 (9000 + p) 5 ≠ 0 → e'.1 (9000 + p) 5 ≠ 0
/-- code grows nowhere -/
def VL (e e' : ES) : Prop := ∀ c : Int, 48000 ≤ c → c < 62000 → (eL e' c).length ≤ (eL e c).length
/-- whether there are two sites; how many tags were brought in -/
def VJ (e e' : ES) : Prop := e'.1 4 17 = e.1 4 17 ∧ e'.1 4 12 = e.1 4 12
def VS (e e' : ES) : Prop := VA e e' ∧ VL e e' ∧ VT e e' ∧ VJ e e'
theorem VA.rf : VA e e := ⟨Int.le_refl _, fun _ _ _ => rfl⟩
theorem VA.tr (h : VA e e1) (g : VA e1 e2) : VA e e2 := ⟨Int.le_trans h.1 g.1, fun r r0 r1 => (g.2 r r0 (by have := h.1; omega)).trans (h.2 r r0 r1)⟩
theorem VT.rf : VT e e := ⟨rfl, fun _ _ _ h => h⟩
theorem VT.tr (h : VT e e1) (g : VT e1 e2) : VT e e2 := ⟨g.1.trans h.1, fun p p0 p1 hp => g.2 p p0 (by rw [h.1]; exact p1) (h.2 p p0 p1 hp)⟩
theorem VL.tr (h : VL e e1) (g : VL e1 e2) : VL e e2 := fun c c0 c1 => Nat.le_trans (g c c0 c1) (h c c0 c1)
theorem VS.rf : VS e e := ⟨VA.rf, fun _ _ _ => Nat.le_refl _, VT.rf, rfl, rfl⟩
theorem VS.tr (h : VS e e1) (g : VS e1 e2) : VS e e2 := ⟨h.1.tr g.1, h.2.1.tr g.2.1, h.2.2.1.tr g.2.2.1, g.2.2.2.1.trans h.2.2.2.1, g.2.2.2.2.trans h.2.2.2.2⟩
/-- and the time -/
def TV (e e' : ES) : Prop := e'.1 4 14 = e.1 4 14 ∧ VS e e'
theorem TV.rf : TV e e := ⟨rfl, VS.rf⟩
theorem TV.tr (h : TV e e1) (g : TV e1 e2) : TV e e2 := ⟨g.1.trans h.1, h.2.tr g.2⟩
theorem VS.fr (hc : CN e) (ha : ∀ a u : Int, (a = 4 ∧ (u = 17 ∨ u = 12)) ∨ (a = 9 ∧ u = 2) ∨ ((7000 ≤ a ∧ a < 7030) ∧ u = 8) ∧ a < 7000 + e.1 7 2 ∨ (9000 ≤ a ∧ a < 10000) ∧ u = 5 → e'.1 a u = e.1 a u) (h7 : e.1 7 2 ≤ e'.1 7 2) (hl : ∀ c : Int, 48000 ≤ c → c < 62000 → eL e' c = eL e c) : VS e e' := by
  have n7 := hc.1
  have n9 := hc.2.2.1
  exact ⟨⟨h7, fun r r0 r1 => ha _ _ (by omega)⟩, fun c c0 c1 => by rw [hl c c0 c1]; exact Nat.le_refl _, ⟨ha _ _ (by omega), fun p p0 p1 hp => by rw [ha _ _ (by omega)]; exact hp⟩, ha _ _ (by omega), ha _ _ (by omega)⟩
theorem TV.fr (hc : CN e) (ha : ∀ a u : Int, (a = 4 ∧ (u = 14 ∨ u = 17 ∨ u = 12)) ∨ (a = 9 ∧ u = 2) ∨ ((7000 ≤ a ∧ a < 7030) ∧ u = 8) ∧ a < 7000 + e.1 7 2 ∨ (9000 ≤ a ∧ a < 10000) ∧ u = 5 → e'.1 a u = e.1 a u) (h7 : e.1 7 2 ≤ e'.1 7 2) (hl : ∀ c : Int, 48000 ≤ c → c < 62000 → eL e' c = eL e c) : TV e e' := ⟨ha _ _ (by omega), VS.fr hc (fun a u h => ha a u (by omega)) h7 hl⟩
theorem TV.ex (hc : CN e) (h : EX e e') : TV e e' := by
  have n7 := hc.1
  obtain ⟨h1, h2, h3, h4, h5, h6, h7⟩ := h
  refine TV.fr hc (fun a u h => ?_) h1.1 fun c c0 c1 => h6 c c0 (Or.inl c1)
  rcases h with h | h | h | h
  · rw [h.1]; exact h5 u (by omega) (by omega)
  · exact h4 _ _ (by omega)
  · have := (h2 (a - 7000) (by omega) (by omega)).2.1 u (by omega) (by omega)
    rw [show 7000 + (a - 7000) = a by omega] at this
    exact this
  · exact h4 _ _ (by omega)
theorem tv_es (hc : CN e) (ha : ¬ ((a = 4 ∧ (j = 14 ∨ j = 17 ∨ j = 12)) ∨ ((a = 7 ∨ a = 9) ∧ j = 2) ∨ ((7000 ≤ a ∧ a < 7030) ∧ j = 8) ∨ ((9000 ≤ a ∧ a < 10000) ∧ j = 5))) : TV e (eS e a j v) := by
  have pa : ∀ b u : Int, b ≠ a ∨ u ≠ j → (eS e a j v).1 b u = e.1 b u := fun b u h => by rw [es_pt, if_neg (by omega)]
  exact TV.fr hc (fun b u h => pa _ _ (by omega)) (by rw [pa _ _ (by omega)]; exact Int.le_refl _) fun _ _ _ => rfl
/-- a task is over -/
theorem tv_es5 (hc : CN e) (p0 : 0 ≤ p) (p1 : p < 1000) : TV e (eS e (9000 + p) 5 1) := by
  have n7 := hc.1
  have pa : ∀ b u : Int, b ≠ 9000 + p ∨ u ≠ 5 → (eS e (9000 + p) 5 1).1 b u = e.1 b u := fun b u h => by rw [es_pt, if_neg (by omega)]
  refine ⟨pa _ _ (by omega), ⟨by rw [pa _ _ (by omega)]; exact Int.le_refl _, fun r r0 r1 => pa _ _ (by omega)⟩, fun _ _ _ => Nat.le_refl _, ⟨pa _ _ (by omega), fun q q0 q1 hq => ?_⟩, pa _ _ (by omega), pa _ _ (by omega)⟩
  by_cases c : q = p
  · rw [c, eS_e]; decide
  · rw [pa _ _ (by omega)]; exact hq
theorem tv_thr (hc : CN e) : TV e (pThr e) := tv_es hc (by omega)
theorem tv_ls (hc : CN e) (h : c < 48000 ∨ 62000 ≤ c) {l : List Int} : TV e (eLs e c l) := TV.fr hc (fun _ _ _ => rfl) (Int.le_refl _) fun b b0 b1 => eLs_a (by omega)
theorem tv_eqm (hc : CN e) (g : EQM e e') : TV e e' := TV.fr hc (fun a u h => g.1 _ _ (by omega)) (by rw [g.1 _ _ (by omega)]; exact Int.le_refl _) fun c _ _ => congrFun g.2.2 c
theorem tv_new (hc : CN e) (hk : c = 8 ∨ c = 10) {f : Int → Int} : TV e (pNew c f e) := by
  have n7 := hc.1
  have n8 := hc.2.1
  have n9 := hc.2.2.1
  have n10 := hc.2.2.2.1
  have pa : ∀ a u : Int, a < 8 ∨ a = 9 ∨ (11 ≤ a ∧ a < 8000) ∨ (9000 ≤ a ∧ a < 10000) → (pNew c f e).1 a u = e.1 a u := fun a u h => by
    rcases hk with rfl | rfl
    · exact pNew_a (by omega) (by omega)
    · exact pNew_a (by omega) (by omega)
  exact TV.fr hc (fun a u h => pa _ _ (by omega)) (by rw [pa _ _ (by omega)]; exact Int.le_refl _) fun _ _ _ => rfl
theorem tv_arr (hc : CN e) (hK : HNN e) (q0 : 0 ≤ q) (q1 : q < e.1 7 2) (k0 : 0 ≤ k) (k7 : k ≤ 7) : TV e (pArr q k x y e) := TV.ex hc (gc_arr (Z := nZ) hc hK q0 q1 k0 k7).1.1
theorem tv_start (hc : CN e) (hK : HNN e) (hn : e.1 7 2 < 30) : TV e (pStart t tn inp par pe e) := by
  have n7 := hc.1
  have f1 : ∀ a u : Int, a ≠ 7 → a ≠ 7000 + e.1 7 2 → a ≠ 71000 + e.1 7 2 → (pNewRun t tn (e.1 (48 + 4 * t + 1) 2 - 1) par pe e).1 a u = e.1 a u := fun a u g1 g2 g3 => pNewRun_1 g1 g2 g3
  have fn : (pNewRun t tn (e.1 (48 + 4 * t + 1) 2 - 1) par pe e).1 7 2 = e.1 7 2 + 1 := pNewRun_n
  have h1 : TV e (pNewRun t tn (e.1 (48 + 4 * t + 1) 2 - 1) par pe e) := TV.fr hc (fun a u h => f1 _ _ (by omega) (by omega) (by omega)) (by omega) fun c c0 c1 => pNewRun_l (by omega) (by omega) (by omega)
  have hc1 := hc.nrun (t := t) (tn := tn) (ver := e.1 (48 + 4 * t + 1) 2 - 1) (par := par) (pe := pe) hn
  unfold pStart
  exact h1.tr (tv_arr hc1 (hn_nn hK hc) n7.1 (by rw [fn]; omega) (by decide) (by decide))
theorem tv_can (hc : CN e) (hK : HNN e) (q0 : 0 ≤ q) (q1 : q < e.1 7 2) : TV e (pCan q e).2 := by
  unfold pCan
  split
  · exact TV.rf
  · exact tv_arr hc hK q0 q1 (by decide) (by decide)
/-- an activity that is waited for ends -/
theorem tv_back (hc : CN e) (hK : HNN e) (p0 : 0 ≤ p) (p1 : p < e.1 8 2) (h5 : e.1 (8000 + p) 5 ≠ 2) (q0 : 0 ≤ q) (q1 : q < e.1 7 2) (hk : k = 1 ∨ k = 2) : TV e (pArr q k x y (eS e (8000 + p) 5 2)) := by
  have n7 := hc.1
  have n8 := hc.2.1
  have pa : ∀ a u : Int, a ≠ 8000 + p ∨ u ≠ 5 → (eS e (8000 + p) 5 2).1 a u = e.1 a u := fun a u h => by rw [es_pt, if_neg (by omega)]
  have hc1 : CN (eS e (8000 + p) 5 2) := hc.of fun a ha => pa _ _ (by omega)
  have e7 : (eS e (8000 + p) 5 2).1 7 2 = e.1 7 2 := pa _ _ (by omega)
  have hK1 : HNN (eS e (8000 + p) 5 2) := fun i i0 i1 => by
    rw [e7] at i1
    have : hN (eS e (8000 + p) 5 2) i = hN e i := pa _ _ (by omega)
    rw [this]
    exact hK i i0 i1
  exact (tv_es hc (by omega)).tr (tv_arr hc1 hK1 q0 (by rw [e7]; exact q1) (by omega) (by omega))
theorem tc_signal (hH : HH S D T e) : TV e (pcSignal p1 p2 p3 e).2 := by
  have hc := hH.cn
  have th := tv_thr hc
  unfold pcSignal
  split
  · rename_i c
    split
    · split
      · split
        · exact tv_arr hc hH.hn c.1 c.2 (by decide) (by decide)
        · exact th
      · exact th
    · exact th
  · exact th
theorem tc_update (hH : HH S D T e) : TV e (pcUpdate p1 p2 p3 e).2 := by
  have hc := hH.cn
  have n7 := hc.1
  have th := tv_thr hc
  have hq : EQM e (qM e p1 (e.1 (7000 + p1) 3) 0) := eM_eq
  have g := tv_eqm hc hq
  have e7 : (qM e p1 (e.1 (7000 + p1) 3) 0).1 7 2 = e.1 7 2 := hq.1 _ _ (by decide)
  have hc2 : CN (qM e p1 (e.1 (7000 + p1) 3) 0) := hc.of fun a ha => hq.1 _ _ (by omega)
  have hK2 : HNN (qM e p1 (e.1 (7000 + p1) 3) 0) := fun r r0 r1 => by
    rw [e7] at r1
    have : hN (qM e p1 (e.1 (7000 + p1) 3) 0) r = hN e r := hq.1 _ _ (by omega)
    rw [this]
    exact hH.hn r r0 r1
  unfold pcUpdate
  split
  · rename_i c
    split
    · split
      · split
        · split
          · exact g.tr (tv_arr hc2 hK2 c.1 (by rw [e7]; exact c.2) (by decide) (by decide))
          · exact g
        · exact th
      · exact th
    · exact th
  · exact th
theorem tc_cancel (hH : HH S D T e) : TV e (pcCancel p1 e).2 := by
  have hc := hH.cn
  unfold pcCancel
  split
  · rename_i c
    split
    · exact tv_can hc hH.hn c.1 c.2
    · exact tv_thr hc
  · exact tv_thr hc
theorem tc_begin (hH : HH S D T e) : TV e (pcBegin p1 p2 p3 e).2 := by
  have hc := hH.cn
  unfold pcBegin
  split
  · split
    · split
      · split
        · rename_i c4
          exact tv_start hc hH.hn c4.2
        · exact tv_thr hc
      · exact tv_thr hc
    · exact tv_thr hc
  · exact tv_thr hc
theorem tc_answer (hH : HH S D T e) : TV e (pcAnswer p1 p2 e).2 := by
  have hc := hH.cn
  unfold pcAnswer
  split
  · rename_i c
    split
    · rename_i c2
      have q := (hH.2.1.2.2.1 p1 c.1 c.2).2.1
      split
      · rename_i c3
        exact tv_back hc hH.hn c.1 c.2 (by omega) q.1 q.2 (Or.inl rfl)
      · exact TV.rf
    · exact tv_thr hc
  · exact tv_thr hc
theorem TV.miss (hH : HH S D T e) (p0 : 0 ≤ p) (p1' : p < e.1 8 2) (h5 : e.1 (8000 + p) 5 ≠ 2) : TV e (pMiss p fin e) := by
  have hc := hH.cn
  have n7 := hc.1
  have n8 := hc.2.1
  have q := (hH.2.1.2.2.1 p p0 p1').2.1
  unfold pMiss
  split
  · have pa : ∀ b u : Int, b ≠ 8000 + p ∨ u ≠ 5 → (eS e (8000 + p) 5 0).1 b u = e.1 b u := fun b u h => by rw [es_pt, if_neg (by omega)]
    have h1 : TV e (eS e (8000 + p) 5 0) := tv_es hc (by omega)
    exact h1.tr (tv_es (hc.of fun a ha => pa _ _ (by omega)) (by omega))
  · exact tv_back hc hH.hn p0 p1' h5 q.1 q.2 (Or.inr rfl)
theorem tc_fail (hH : HH S D T e) : TV e (pcFail p1 p2 e).2 := by
  have hc := hH.cn
  unfold pcFail
  split
  · rename_i c
    split
    · rename_i c2
      exact TV.miss hH c.1 c.2 (by omega)
    · exact TV.rf
  · exact tv_thr hc
end TVA
