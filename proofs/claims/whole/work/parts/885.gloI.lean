/-! THE GLOBAL NUMBERS through the calls: policies. -/
section GLJ
variable {e e' : ES} {S D T a b c d i j k q r v w N M p y t o p1 p2 : Int} {n : Nat}
theorem gl_setPolicy (h : GLo k e) (hc : CN e) : GLo k (pcSetPolicy p1 p2 e).2 := by
  unfold pcSetPolicy
  by_cases c : 0 ≤ p1 ∧ p1 < 4
  · rw [if_pos c]
    by_cases c2 : p2 < 0 ∨ 2 < p2
    · rw [if_pos c2]; exact h.thr hc
    · rw [if_neg c2]
      have n9 := hc.2.2.1
      have n10 := hc.2.2.2.1
      obtain ⟨q1, q2, q3, q4, q5, q6, q7, q8⟩ := h
      have pa : ∀ a u : Int, a ≠ 48 + 4 * p1 → (eS e (48 + 4 * p1) 2 p2).1 a u = e.1 a u := fun a u ha => eS_a ha
      refine ⟨by rw [pa _ _ (by omega)]; exact q1, by rw [pa _ _ (by omega)]; exact q2, by rw [pa _ _ (by omega)]; exact q3, fun w w0 w1 => ?_, fun q q0 q1' => ?_, fun t ht => ?_, fun u u0 u1 => ?_, fun u u0 u1 => ?_⟩
      · rw [pa 11 w (by omega), pa 12 w (by omega), pa 13 w (by omega)]
        exact q4 w w0 w1
      · simp only [fun u => pa (64 + q) u (by omega)]
        exact q5 q q0 q1'
      · have hg := q6 t ht
        have ht' : t + 1 ≠ 48 + 4 * p1 := by unfold isT at ht; omega
        rw [pa (t + 1) 2 ht']
        refine ⟨?_, hg.2⟩
        by_cases ct : t = 48 + 4 * p1
        · subst ct
          rw [eS_e]
          omega
        · rw [pa t 2 ct]
          exact hg.1
      · rw [pa 9 2 (by omega)] at u1
        unfold WTsk
        simp only [fun z => pa (9000 + u) z (by omega)]
        exact q7 u u0 u1
      · rw [pa 10 2 (by omega)] at u1
        have hq := q8 u u0 u1
        unfold WSch at hq ⊢
        simp only [fun z => pa (10000 + u) z (by omega)]
        rw [pa 7 2 (by omega), pa (48 + 4 * e.1 (10000 + u) 0 + 1) 2 (by omega)]
        exact hq
  · rw [if_neg c]; exact h.thr hc
end GLJ
