/-! THE GLOBAL NUMBERS through the calls: given out, time passes. -/
section GLM
variable {e e' e3 : ES} {S D T a b c d i j k k' q r v w N M p y t o p1 p2 : Int} {n : Nat} {f : Int → Int}
/-- a worker's or tenant's counter -/
theorem GLo.s11 (h : GLo k e) (hc : CN e) (ha : a = 11 ∨ a = 12 ∨ a = 13) (v0 : 0 ≤ v) (v1 : v ≤ k) : GLo k (eS e a w v) ∧ CN (eS e a w v) := by
  obtain ⟨g1, g2, g3, g4, g5, g6, g7, g8⟩ := h
  have pa : ∀ b u : Int, b ≠ a → (eS e a w v).1 b u = e.1 b u := fun b u hb => eS_a hb
  have n9 := hc.2.2.1
  refine ⟨⟨by rw [pa _ _ (by omega)]; exact g1, by rw [pa _ _ (by omega)]; exact g2, by rw [pa _ _ (by omega)]; exact g3, fun z z0 z1 => ?_, fun z z0 z1 => ?_, fun t ht => ?_, fun u u0 u1 => ?_, fun u u0 u1 => ?_⟩, hc.of fun x hx => eS_a (by omega)⟩
  · obtain ⟨h1, h2, h3⟩ := g4 z z0 z1
    have key : ∀ b : Int, (0 ≤ e.1 b z ∧ e.1 b z ≤ k) → 0 ≤ (eS e a w v).1 b z ∧ (eS e a w v).1 b z ≤ k := fun b hb => by
      rw [es_pt]
      split
      · exact ⟨v0, v1⟩
      · exact hb
    exact ⟨key _ h1, key _ h2, key _ h3⟩
  · simp only [fun u => pa (64 + z) u (by omega)]
    exact g5 z z0 z1
  · have hb := isT_b ht
    rw [pa t 2 (by omega), pa (t + 1) 2 (by omega)]
    exact g6 t ht
  · rw [pa 9 2 (by omega)] at u1
    unfold WTsk
    simp only [fun z => pa (9000 + u) z (by omega)]
    exact g7 u u0 u1
  · rw [pa 10 2 (by omega)] at u1
    have hq := g8 u u0 u1
    unfold WSch at hq ⊢
    simp only [fun z => pa (10000 + u) z (by omega)]
    rw [pa 7 2 (by omega), pa (48 + 4 * e.1 (10000 + u) 0 + 1) 2 (by omega)]
    exact hq
/-- another task -/
theorem GLo.p9 (h : GLo k e) (hc : CN e) (n1 : e.1 9 2 < 1000) (hw : WTsk (pNew 9 f e) (e.1 9 2)) : GLo k (pNew 9 f e) := by
  have n9 := hc.2.2.1
  have n10 := hc.2.2.2.1
  obtain ⟨g1, g2, g3, g4, g5, g6, g7, g8⟩ := h
  have pa : ∀ a u : Int, a ≠ 9 → a ≠ 9000 + e.1 9 2 → (pNew 9 f e).1 a u = e.1 a u := fun a u h1 h2 => pNew_a (by omega) (by omega)
  have pn : (pNew 9 f e).1 9 2 = e.1 9 2 + 1 := pNew_n
  refine ⟨by rw [pa _ _ (by omega) (by omega)]; exact g1, by rw [pa _ _ (by omega) (by omega)]; exact g2, by rw [pa _ _ (by omega) (by omega)]; exact g3, fun z z0 z1 => ?_, fun z z0 z1 => ?_, fun t ht => ?_, fun u u0 u1 => ?_, fun u u0 u1 => ?_⟩
  · rw [pa 11 z (by omega) (by omega), pa 12 z (by omega) (by omega), pa 13 z (by omega) (by omega)]
    exact g4 z z0 z1
  · simp only [fun u => pa (64 + z) u (by omega) (by omega)]
    exact g5 z z0 z1
  · have hb := isT_b ht
    rw [pa t 2 (by omega) (by omega), pa (t + 1) 2 (by omega) (by omega)]
    exact g6 t ht
  · rw [pn] at u1
    by_cases c : u = e.1 9 2
    · rw [c]; exact hw
    · unfold WTsk
      simp only [fun z => pa (9000 + u) z (by omega) (by omega)]
      exact g7 u u0 (by omega)
  · rw [pa 10 2 (by omega) (by omega)] at u1
    have hq := g8 u u0 u1
    unfold WSch at hq ⊢
    simp only [fun z => pa (10000 + u) z (by omega) (by omega)]
    rw [pa 7 2 (by omega) (by omega), pa (48 + 4 * e.1 (10000 + u) 0 + 1) 2 (by omega) (by omega)]
    exact hq
theorem gl_poll (h : GLo k e) (hH : HH S D T e) (h9 : e.1 9 2 < 1000) (ht : 0 ≤ e.1 4 14 ∧ e.1 4 14 < 1000000) : GLo (k + 1) (pcPoll p1 e).2 := by
  have hc := hH.cn
  have n7 := hc.1
  have n9 := hc.2.2.1
  have h' := h.mono (k' := k + 1) (by omega)
  unfold pcPoll
  by_cases c1 : 0 ≤ p1 ∧ p1 < 3
  · rw [if_pos c1]
    by_cases c2 : fPo e 4 (-1) 0 < 0
    · rw [if_pos c2]; exact h'
    rw [if_neg c2]
    dsimp only
    have hw := (fPo_w (e := e) 4 (-1) 0 n7 (Or.inl (by decide))).resolve_left c2
    generalize fPo e 4 (-1) 0 = b at hw c2 ⊢
    obtain ⟨b1, b2, b3⟩ := hw
    have b0 : 0 ≤ b := by omega
    have ten := (hH.2.1.1 b b0 b1).2.1
    have hS := hH.1.1.1.2.1
    have hi := hH.1.1.2.1 b b0 b1
    have hAb := hct_cA hi.1.2 hi.2 hi.1.1
    have hA0 := (cA_b (E := eH e b) (hN e b).toNat).1
    have eA : hA e b = cA (eH e b) (hN e b).toNat := rfl
    rw [← eA] at hAb hA0
    generalize hA e b = A at hAb hA0
    generalize pMark e b = mk
    generalize htt : e.1 (7000 + b) 2 = t at ten ⊢
    obtain ⟨-, q12, q13⟩ := h.2.2.2.1 t ten.1 ten.2
    obtain ⟨a1, a2⟩ := h'.s11 (a := 12) (w := t) (v := e.1 12 t + 1) hc (by decide) (by omega) (by omega)
    obtain ⟨b1', b2'⟩ := a1.s11 (a := 13) (w := t) (v := e.1 13 t + 1) a2 (by decide) (by omega) (by omega)
    have g1 : GLo (k + 1) (eS (pGiv t e) (7000 + b) 10 (e.1 9 2)) := b1'.es b2' (by omega)
    have c9 : CN (eS (pGiv t e) (7000 + b) 10 (e.1 9 2)) := CN.of (e := pGiv t e) b2' fun x hx => eS_a (by omega)
    have e9 : (eS (pGiv t e) (7000 + b) 10 (e.1 9 2)).1 9 2 = e.1 9 2 := by
      rw [es_pt, if_neg (by omega)]
      unfold pGiv
      rw [es_pt, if_neg (by omega), es_pt, if_neg (by omega)]
    refine g1.p9 c9 (by omega) ?_
    have qf : ∀ u : Int, (pNew 9 (fTsk p1 b (e.1 4 14) A mk) (eS (pGiv t e) (7000 + b) 10 (e.1 9 2))).1 (9000 + e.1 9 2) u = fTsk p1 b (e.1 4 14) A mk u := fun u => by
      have := pNew_f9 (f := fTsk p1 b (e.1 4 14) A mk) (e := eS (pGiv t e) (7000 + b) 10 (e.1 9 2)) (j := u) (by rw [e9]; omega)
      rw [e9] at this
      exact this
    rw [e9]
    unfold WTsk
    rw [qf, qf, qf, qf]
    exact ⟨c1, ht, ⟨hA0, by show A ≤ 524288; omega⟩, Or.inl rfl⟩
  · rw [if_neg c1]; exact h'.thr hc
/-- what a tick leaves alone, and what it finds at last -/
theorem GLo.sd (h : GLo k e) (hc : CN e) (s : SD e e') (hP : PW e') : GLo k e' := by
  obtain ⟨⟨s1, s1b⟩, s2, s3, s4, s5, s6, s7⟩ := s
  obtain ⟨g1, g2, g3, g4, g5, g6, g7, g8⟩ := h
  have n9 := hc.2.2.1
  have n10 := hc.2.2.2.1
  refine ⟨by rw [s2 4 15 (by omega)]; exact g1, by rw [s2 4 13 (by omega)]; exact g2, by rw [s2 4 17 (by omega)]; exact g3, fun w w0 w1 => ?_, fun q q0 q1 => ?_, fun t ht => ?_, fun i i0 i1 => ?_, fun i i0 i1 => ?_⟩
  · rw [s2 11 w (by omega), s2 12 w (by omega)]
    obtain ⟨a1, a2, a3⟩ := g4 w w0 w1
    have := s6 w w0 w1
    exact ⟨a1, a2, by omega⟩
  · simp only [fun u => s2 (64 + q) u (by omega)]
    exact g5 q q0 q1
  · have hb := isT_b ht
    have hv := hc.2.2.2.2 t ht
    obtain ⟨u1, u2⟩ := g6 t ht
    rw [s2 t 2 (by omega), s2 (t + 1) 2 (by omega)]
    exact ⟨u1, fun v v0 v1 => by rw [s3 _ (by omega) (by omega)]; exact u2 v v0 v1⟩
  · rw [s2 9 2 (by omega)] at i1
    unfold WTsk
    simp only [fun u => s2 (9000 + i) u (by omega)]
    exact g7 i i0 i1
  · have hw := hP.2.2.2 i i0 i1
    rw [s2 10 2 (by omega)] at i1
    obtain ⟨q1, q2, q3, q4, q5, q6, q7, q8, q9⟩ := g8 i i0 i1
    obtain ⟨⟨-, -, w1⟩, w2⟩ := hw
    obtain ⟨b1, b2⟩ := s7 i i0 (by omega)
    unfold WSch
    rw [s2 (10000 + i) 0 (by omega), s2 (10000 + i) 1 (by omega), s2 (10000 + i) 2 (by omega), s2 (10000 + i) 3 (by omega), s2 (10000 + i) 5 (by omega), s2 (48 + 4 * e.1 (10000 + i) 0 + 1) 2 (by omega)]
    exact ⟨q1, q2, q3, q4, w2, q6, by omega, by omega, w1⟩
theorem gl_pass (h : GLo k e) (hH : HH S D T e) (hP : PW e) (hb : BDl e) (ht : e.1 4 14 + 100 < 1000000) : GLo k (pcPass p1 e).2 := by
  unfold pcPass
  split
  · exact h.thr hH.cn
  · have hs := h.2.2.2.2.2.2.2
    obtain ⟨-, k2, k3⟩ := hh_pas p1.toNat e hH hP hb (fun p p0 p1 => by
      have g := hs p p0 p1
      exact ⟨⟨g.1.1, g.1.2.1⟩, g.2.1, g.1.2.2⟩) (by omega)
    exact h.sd hH.cn k2 k3
end GLM
