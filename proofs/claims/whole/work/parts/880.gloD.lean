/-! THE GLOBAL NUMBERS through the calls: died, kinds. -/
section GLE
variable {e e' e1 e2 : ES} {S D T a b c d i j k k' q r v w N M p y t o p1 p2 p3 p4 p5 p6 : Int} {n : Nat}
/-- a task is done with -/
theorem GLo.s9 (h : GLo k e) (hc : CN e) (i0 : 0 ≤ i) (i1 : i < e.1 9 2) : GLo k (eS e (9000 + i) 5 1) := by
  have n9 := hc.2.2.1
  have n10 := hc.2.2.2.1
  obtain ⟨q1, q2, q3, q4, q5, q6, q7, q8⟩ := h
  have pa : ∀ a u : Int, a ≠ 9000 + i → (eS e (9000 + i) 5 1).1 a u = e.1 a u := fun a u ha => eS_a ha
  refine ⟨by rw [pa _ _ (by omega)]; exact q1, by rw [pa _ _ (by omega)]; exact q2, by rw [pa _ _ (by omega)]; exact q3, fun w w0 w1 => ?_, fun q q0 q1' => ?_, fun t ht => ?_, fun u u0 u1 => ?_, fun u u0 u1 => ?_⟩
  · rw [pa 11 w (by omega), pa 12 w (by omega), pa 13 w (by omega)]
    exact q4 w w0 w1
  · simp only [fun u => pa (64 + q) u (by omega)]
    exact q5 q q0 q1'
  · have hb := isT_b ht
    rw [pa t 2 (by omega), pa (t + 1) 2 (by omega)]
    exact q6 t ht
  · rw [pa 9 2 (by omega)] at u1
    have hq := q7 u u0 u1
    by_cases c : u = i
    · subst c
      have ps : ∀ z : Int, z ≠ 5 → (eS e (9000 + u) 5 1).1 (9000 + u) z = e.1 (9000 + u) z := fun z hz => eS_j hz
      have p5 : (eS e (9000 + u) 5 1).1 (9000 + u) 5 = 1 := eS_e
      unfold WTsk at hq ⊢
      rw [ps 0 (by decide), ps 2 (by decide), ps 3 (by decide), p5]
      exact ⟨hq.1, hq.2.1, hq.2.2.1, Or.inr rfl⟩
    · unfold WTsk at hq ⊢
      simp only [fun z => pa (9000 + u) z (by omega)]
      exact hq
  · rw [pa 10 2 (by omega)] at u1
    have hq := q8 u u0 u1
    unfold WSch at hq ⊢
    simp only [fun z => pa (10000 + u) z (by omega)]
    rw [pa 7 2 (by omega), pa (48 + 4 * e.1 (10000 + u) 0 + 1) 2 (by omega)]
    exact hq
theorem gl_dieL : ∀ (n : Nat) (c i : Int) (e : ES), GLo k e → CN e → 0 ≤ i → GLo k (pDieL w n c i e).2 ∧ CN (pDieL w n c i e).2 := by
  intro n
  induction n with
  | zero => intro c i e h hc _; exact ⟨h, hc⟩
  | succ n ih =>
    intro c i e h hc i0
    have n9 := hc.2.2.1
    unfold pDieL
    split
    · rename_i ci
      split
      · exact ih _ _ _ (h.s9 hc i0 ci) (hc.of fun a ha => eS_a (by omega)) (by omega)
      · exact ih _ _ _ h hc (by omega)
    · exact ⟨h, hc⟩
theorem gl_die2 : ∀ (n : Nat) (i : Int) (e : ES), GLo k e → CN e → 0 ≤ i → GLo k (pDie2 w n i e) := by
  intro n
  induction n with
  | zero => intro i e h _ _; exact h
  | succ n ih =>
    intro i e h hc i0
    have n7 := hc.1
    unfold pDie2
    split
    · exact ih _ _ (h.es hc (by omega)) (hc.of fun a ha => eS_a (by omega)) (by omega)
    · exact h
theorem gl_die (h : GLo k e) (hc : CN e) : GLo k (pcDie p1 e).2 := by
  unfold pcDie
  split
  · obtain ⟨g1, g2⟩ := gl_dieL (w := p1) 513 0 0 e h hc (Int.le_refl _)
    exact gl_die2 _ _ _ g1 g2 (Int.le_refl _)
  · exact h.thr hc
theorem gl_take (h : GLo k e) (hc : CN e) : GLo k (pcTake p1 e).2 := by
  have n8 := hc.2.1
  unfold pcTake
  split
  · split
    · exact h
    · rename_i c
      obtain ⟨b1, -⟩ := fTk_c (e := e) (k := p1) 61 0 (Int.le_refl _) (by omega)
      generalize hp : fTk e p1 61 0 = p at b1 c ⊢
      have hs : ∀ (e1 : ES) (j v : Int), GLo k e1 → CN e1 → GLo k (eS e1 (8000 + p) j v) ∧ CN (eS e1 (8000 + p) j v) := fun e1 j v g1 g2 => ⟨g1.es g2 (by omega), g2.of fun a ha => eS_a (by omega)⟩
      obtain ⟨a1, a2⟩ := hs e 5 1 h hc
      obtain ⟨b1', b2⟩ := hs _ 6 (e.1 (8000 + p) 6 + 1) a1 a2
      obtain ⟨c1, c2⟩ := hs _ 8 (e.1 4 14) b1' b2
      exact (hs _ 9 (e.1 4 14) c1 c2).1
  · exact h.thr hc
end GLE
