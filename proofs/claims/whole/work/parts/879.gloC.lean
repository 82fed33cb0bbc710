/-! THE GLOBAL NUMBERS through the calls: schedules, tasks. -/
section GLD
variable {e e' e1 e2 : ES} {S D T a b c d i j k k' q r v w N M p y t o p1 p2 p3 p4 p5 p6 : Int} {n : Nat}
/-- a schedule's field -/
theorem GLo.s10 (h : GLo k e) (hc : CN e) (p0 : 0 ≤ p) (p1' : p < e.1 10 2) (hw : WSch (eS e (10000 + p) j v) p) : GLo k (eS e (10000 + p) j v) := by
  have n10 := hc.2.2.2.1
  have n9 := hc.2.2.1
  obtain ⟨q1, q2, q3, q4, q5, q6, q7, q8⟩ := h
  have pa : ∀ a u : Int, a ≠ 10000 + p → (eS e (10000 + p) j v).1 a u = e.1 a u := fun a u ha => eS_a ha
  refine ⟨by rw [pa _ _ (by omega)]; exact q1, by rw [pa _ _ (by omega)]; exact q2, by rw [pa _ _ (by omega)]; exact q3, fun w w0 w1 => ?_, fun q q0 q1' => ?_, fun t ht => ?_, fun i i0 i1 => ?_, fun i i0 i1 => ?_⟩
  · rw [pa 11 w (by omega), pa 12 w (by omega), pa 13 w (by omega)]
    exact q4 w w0 w1
  · simp only [fun u => pa (64 + q) u (by omega)]
    exact q5 q q0 q1'
  · have hb := isT_b ht
    rw [pa t 2 (by omega), pa (t + 1) 2 (by omega)]
    exact q6 t ht
  · rw [pa 9 2 (by omega)] at i1
    unfold WTsk
    simp only [fun u => pa (9000 + i) u (by omega)]
    exact q7 i i0 i1
  · rw [pa 10 2 (by omega)] at i1
    by_cases c : i = p
    · rw [c]; exact hw
    · have hq := q8 i i0 i1
      unfold WSch at hq ⊢
      simp only [fun u => pa (10000 + i) u (by omega)]
      rw [pa 7 2 (by omega), pa (48 + 4 * e.1 (10000 + i) 0 + 1) 2 (by omega)]
      exact hq
/-- a schedule's fields when one of its small ones changes -/
theorem sch_s (h : WSch e p) (p0 : 0 ≤ p) (hj : (j = 5 ∧ (v = 0 ∨ v = 1)) ∨ (j = 7 ∧ (v = 0 ∨ v = 1)) ∨ (j = 8 ∧ 0 ≤ v ∧ v ≤ 999) ∨ (j = 4 ∧ -20000 ≤ v ∧ v < 2000000) ∨ (j = 6 ∧ -1 ≤ v ∧ v < e.1 7 2)) : WSch (eS e (10000 + p) j v) p := by
  obtain ⟨q1, q2, q3, q4, q5, q6, q7, q8, q9⟩ := h
  have pa : ∀ u : Int, u ≠ j → (eS e (10000 + p) j v).1 (10000 + p) u = e.1 (10000 + p) u := fun u hu => eS_j hu
  have pe : (eS e (10000 + p) j v).1 (10000 + p) j = v := eS_e
  have f1 : (eS e (10000 + p) j v).1 (48 + 4 * e.1 (10000 + p) 0 + 1) 2 = e.1 (48 + 4 * e.1 (10000 + p) 0 + 1) 2 := by rw [es_pt, if_neg (by omega)]
  have f2 : (eS e (10000 + p) j v).1 7 2 = e.1 7 2 := by rw [es_pt, if_neg (by omega)]
  unfold WSch
  rw [pa 0 (by omega), pa 1 (by omega), pa 2 (by omega), pa 3 (by omega), f1, f2]
  rcases hj with ⟨rfl, g⟩ | ⟨rfl, g⟩ | ⟨rfl, g⟩ | ⟨rfl, g⟩ | ⟨rfl, g⟩
  · rw [pe, pa 4 (by decide), pa 6 (by decide), pa 7 (by decide), pa 8 (by decide)]
    exact ⟨q1, q2, q3, q4, q5, g, q7, q8, q9⟩
  · rw [pe, pa 4 (by decide), pa 5 (by decide), pa 6 (by decide), pa 8 (by decide)]
    exact ⟨q1, q2, q3, q4, q5, q6, q7, g, q9⟩
  · rw [pe, pa 4 (by decide), pa 5 (by decide), pa 6 (by decide), pa 7 (by decide)]
    exact ⟨q1, q2, q3, q4, q5, q6, q7, q8, g⟩
  · rw [pe, pa 5 (by decide), pa 6 (by decide), pa 7 (by decide), pa 8 (by decide)]
    exact ⟨q1, q2, q3, q4, g, q6, q7, q8, q9⟩
  · rw [pe, pa 4 (by decide), pa 5 (by decide), pa 7 (by decide), pa 8 (by decide)]
    exact ⟨q1, q2, q3, q4, q5, q6, g, q8, q9⟩
theorem gl_togglePause (h : GLo k e) (hc : CN e) : GLo k (pcTogglePause p1 e).2 := by
  unfold pcTogglePause
  split
  · rename_i c
    exact h.s10 hc c.1 c.2 (sch_s (h.2.2.2.2.2.2.2 p1 c.1 c.2) c.1 (Or.inl ⟨rfl, by split <;> omega⟩))
  · exact h.thr hc
end GLD
