/-! THE GLOBAL NUMBERS through the calls: deployed. -/
section GLK
variable {e e' : ES} {S D T a b c d i j k q r v w N M p y t o p1 p2 : Int} {n : Nat}
theorem gl_deploy (h : GLo k e) (hc : CN e) : GLo k (pcDeploy p1 e).2 := by
  unfold pcDeploy
  by_cases c : 0 ≤ p1 ∧ p1 < 4
  · rw [if_pos c]
    by_cases c2 : eL e (dRow (48 + 4 * p1) e) = []
    · rw [if_pos c2]; exact h.thr hc
    rw [if_neg c2]
    by_cases c3 : e.1 (48 + 4 * p1 + 1) 2 < 4
    · rw [if_pos c3]
      have n9 := hc.2.2.1
      have n10 := hc.2.2.2.1
      have hv0 := hc.2.2.2.2 _ (isT_4 c.1 c.2)
      obtain ⟨q1, q2, q3, q4, q5, q6, q7, q8⟩ := h
      have pa : ∀ a u : Int, a ≠ 48 + 4 * p1 + 1 → (pDep (48 + 4 * p1) e).1 a u = e.1 a u := fun a u hh => by
        unfold pDep
        rw [es_pt, if_neg (by omega)]
        rfl
      have pe : (pDep (48 + 4 * p1) e).1 (48 + 4 * p1 + 1) 2 = e.1 (48 + 4 * p1 + 1) 2 + 1 := eS_e
      have pl : ∀ c, c ≠ 1000 * (48 + 4 * p1) + (e.1 (48 + 4 * p1 + 1) 2 + 1) → eL (pDep (48 + 4 * p1) e) c = eL e c := fun c hcc => eLs_a hcc
      have pl2 : eL (pDep (48 + 4 * p1) e) (1000 * (48 + 4 * p1) + (e.1 (48 + 4 * p1 + 1) 2 + 1)) = [] := eLs_e
      refine ⟨by rw [pa _ _ (by omega)]; exact q1, by rw [pa _ _ (by omega)]; exact q2, by rw [pa _ _ (by omega)]; exact q3, fun w w0 w1 => ?_, fun q q0 q1' => ?_, fun t ht => ?_, fun u u0 u1 => ?_, fun u u0 u1 => ?_⟩
      · rw [pa 11 w (by omega), pa 12 w (by omega), pa 13 w (by omega)]
        exact q4 w w0 w1
      · simp only [fun u => pa (64 + q) u (by omega)]
        exact q5 q q0 q1'
      · have hg := q6 t ht
        have ht' : t ≠ 48 + 4 * p1 + 1 := by unfold isT at ht; omega
        have htv := hc.2.2.2.2 t ht
        rw [pa t 2 ht']
        refine ⟨hg.1, fun v v0 v1 => ?_⟩
        by_cases ct : t = 48 + 4 * p1
        · subst ct
          rw [pe] at v1
          by_cases cv : v = e.1 (48 + 4 * p1 + 1) 2 + 1
          · rw [cv, pl2]
            exact ⟨by show ([] : List Int).length ≤ 24; decide, fun u hu => absurd hu List.not_mem_nil⟩
          · rw [pl _ (by omega)]
            exact hg.2 v v0 (by omega)
        · rw [pa (t + 1) 2 (by omega)] at v1
          rw [pl _ (by omega)]
          exact hg.2 v v0 v1
      · rw [pa 9 2 (by omega)] at u1
        unfold WTsk
        simp only [fun z => pa (9000 + u) z (by omega)]
        exact q7 u u0 u1
      · rw [pa 10 2 (by omega)] at u1
        obtain ⟨w1, w2, w3, w4, w5, w6, w7, w8⟩ := q8 u u0 u1
        unfold WSch
        simp only [fun z => pa (10000 + u) z (by omega)]
        rw [pa 7 2 (by omega)]
        refine ⟨⟨w1.1, w1.2.1, ?_⟩, w2, w3, w4, w5, w6, w7, w8⟩
        by_cases cp : e.1 (10000 + u) 0 = p1
        · rw [cp, pe]; omega
        · rw [pa _ _ (by omega)]; exact w1.2.2
    · rw [if_neg c3]; exact h.thr hc
  · rw [if_neg c]; exact h.thr hc
end GLK
