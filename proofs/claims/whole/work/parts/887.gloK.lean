/-! THE GLOBAL NUMBERS through the calls: a schedule begins. -/
section GLL
variable {e e' : ES} {S D T a b c d i j k q r v w N M p y t o p1 p2 p3 p4 : Int} {n : Nat}
theorem gl_schedule (h : GLo k e) (hc : CN e) (hk : k ≤ 1000) (ht : 0 ≤ e.1 4 14 ∧ e.1 4 14 < 1000000) : GLo k (pcSchedule p1 p2 p3 p4 e).2 := by
  have n9 := hc.2.2.1
  have n10 := hc.2.2.2.1
  unfold pcSchedule
  by_cases c1 : 0 ≤ p1 ∧ p1 < 4
  · rw [if_pos c1]
    by_cases c2 : 0 ≤ p2 ∧ p2 < 3
    · rw [if_pos c2]
      by_cases c3 : p3 < 1 ∨ 50 < p3 ∨ p4 < 0 ∨ 3 < p4
      · rw [if_pos c3]; exact h.thr hc
      rw [if_neg c3]
      by_cases c4 : 0 < e.1 (48 + 4 * p1 + 1) 2 ∧ e.1 10 2 < 4
      · rw [if_pos c4]
        dsimp only
        obtain ⟨q1, q2, q3, q4, q5, q6, q7, q8⟩ := h
        have qf : ∀ u : Int, (pNew 10 (fSch p1 p2 p3 p4 (e.1 4 14 + e.1 4 15)) e).1 (10000 + e.1 10 2) u = fSch p1 p2 p3 p4 (e.1 4 14 + e.1 4 15) u := fun u => pNew_f10 n10.1
        have pn : (pNew 10 (fSch p1 p2 p3 p4 (e.1 4 14 + e.1 4 15)) e).1 10 2 = e.1 10 2 + 1 := pNew_n
        have pa : ∀ a u : Int, a ≠ 10 → a ≠ 10000 + e.1 10 2 → (pNew 10 (fSch p1 p2 p3 p4 (e.1 4 14 + e.1 4 15)) e).1 a u = e.1 a u := fun a u h1 h2 => pNew_a h1 h2
        refine ⟨by rw [pa _ _ (by omega) (by omega)]; exact q1, by rw [pa _ _ (by omega) (by omega)]; exact q2, by rw [pa _ _ (by omega) (by omega)]; exact q3, fun w w0 w1 => ?_, fun q q0 q1' => ?_, fun t ht => ?_, fun u u0 u1 => ?_, fun u u0 u1 => ?_⟩
        · rw [pa 11 w (by omega) (by omega), pa 12 w (by omega) (by omega), pa 13 w (by omega) (by omega)]
          exact q4 w w0 w1
        · simp only [fun u => pa (64 + q) u (by omega) (by omega)]
          exact q5 q q0 q1'
        · have hb := isT_b ht
          rw [pa t 2 (by omega) (by omega), pa (t + 1) 2 (by omega) (by omega)]
          exact q6 t ht
        · rw [pa 9 2 (by omega) (by omega)] at u1
          unfold WTsk
          simp only [fun z => pa (9000 + u) z (by omega) (by omega)]
          exact q7 u u0 u1
        · rw [pn] at u1
          by_cases cu : u = e.1 10 2
          · subst cu
            have f0 : fSch p1 p2 p3 p4 (e.1 4 14 + e.1 4 15) 0 = p1 := rfl
            have f1 : fSch p1 p2 p3 p4 (e.1 4 14 + e.1 4 15) 1 = p2 := rfl
            have f2 : fSch p1 p2 p3 p4 (e.1 4 14 + e.1 4 15) 2 = p3 := rfl
            have f3 : fSch p1 p2 p3 p4 (e.1 4 14 + e.1 4 15) 3 = p4 := rfl
            have f4 : fSch p1 p2 p3 p4 (e.1 4 14 + e.1 4 15) 4 = e.1 4 14 + e.1 4 15 := rfl
            have f5 : fSch p1 p2 p3 p4 (e.1 4 14 + e.1 4 15) 5 = 0 := rfl
            have f6 : fSch p1 p2 p3 p4 (e.1 4 14 + e.1 4 15) 6 = -1 := rfl
            have f7 : fSch p1 p2 p3 p4 (e.1 4 14 + e.1 4 15) 7 = 0 := rfl
            have f8 : fSch p1 p2 p3 p4 (e.1 4 14 + e.1 4 15) 8 = 0 := rfl
            have n7 := hc.1
            unfold WSch
            rw [qf, qf, qf, qf, qf, qf, qf, qf, qf, f0, f1, f2, f3, f4, f5, f6, f7, f8, pa _ _ (by omega) (by omega), pa 7 2 (by omega) (by omega)]
            omega
          · have hq := q8 u u0 (by omega)
            unfold WSch at hq ⊢
            simp only [fun z => pa (10000 + u) z (by omega) (by omega)]
            rw [pa 7 2 (by omega) (by omega), pa (48 + 4 * e.1 (10000 + u) 0 + 1) 2 (by omega) (by omega)]
            exact hq
      · rw [if_neg c4]; exact h.thr hc
    · rw [if_neg c2]; exact h.thr hc
  · rw [if_neg c1]; exact h.thr hc
end GLL
