/-! THE GLOBAL NUMBERS through the calls: what puts nothing. -/
section GLB
variable {e e' e1 e2 : ES} {S D T a b c d i j k k' q r v w N M p y t o p1 p2 p3 p4 p5 p6 : Int} {n : Nat}
theorem line_ok (c0 : 0 ≤ c) (c1 : c ≤ 23) (a0 : (if c = 3 then 1 else 0) ≤ a) (a1 : a ≤ tA c) (b0 : 0 ≤ b) (b1 : b ≤ tB c) : LineOk c a b := by
  have key : ∀ n ∈ List.range 24, (tA (n : Int) ≤ 100 ∧ tB (n : Int) ≤ 999) ∧ (((n : Int) = 0 ∨ (n : Int) = 1 ∨ (n : Int) = 6 ∨ (n : Int) = 18 ∨ (n : Int) = 20 ∨ (n : Int) = 23) → tA (n : Int) ≤ 5) ∧ (((n : Int) = 1 ∨ (n : Int) = 2 ∨ (n : Int) = 4 ∨ (n : Int) = 5 ∨ (n : Int) = 14) → tB (n : Int) ≤ 5) ∧ (((n : Int) = 2 ∨ (n : Int) = 4 ∨ (n : Int) = 5 ∨ (n : Int) = 14) → tA (n : Int) ≤ 3) ∧ (((n : Int) = 7 ∨ (n : Int) = 8 ∨ (n : Int) = 10 ∨ (n : Int) = 12) → tA (n : Int) ≤ 23) ∧ ((n : Int) = 19 → tA (n : Int) ≤ 9) ∧ (((n : Int) = 6 ∨ (n : Int) = 19) → tB (n : Int) ≤ 23) := by decide +kernel
  have h := key c.toNat (List.mem_range.mpr (by omega))
  rw [show ((c.toNat : Nat) : Int) = c by omega] at h
  obtain ⟨h1, h2, h3, h4, h5, h6, h7⟩ := h
  have ha : 0 ≤ a ∧ (c = 3 → 1 ≤ a) := by
    split at a0
    · exact ⟨by omega, fun _ => a0⟩
    · rename_i g
      exact ⟨a0, fun g' => absurd g' g⟩
  exact ⟨c0, c1, ha.1, by omega, b0, by omega, fun g => Int.le_trans a1 (h2 g), fun g => Int.le_trans b1 (h3 g), fun g => Int.le_trans a1 (h4 g), fun g => Int.le_trans a1 (h5 g), fun g => Int.le_trans a1 (h6 g), fun g => Int.le_trans b1 (h7 g), ha.2⟩
theorem gl_line (h : GLo k e) (hc : CN e) : GLo k (pcLine p1 p2 p3 p4 e).2 := by
  unfold pcLine
  by_cases c : 0 ≤ p1 ∧ p1 < 4
  · rw [if_pos c]
    have ht0 := isT_4 c.1 c.2
    by_cases c2 : p2 < 0 ∨ 23 < p2
    · rw [if_pos c2]; exact h.thr hc
    rw [if_neg c2]
    by_cases c3 : p3 < (if p2 = 3 then 1 else 0) ∨ tA p2 < p3 ∨ p4 < 0 ∨ tB p2 < p4
    · rw [if_pos c3]; exact h.thr hc
    rw [if_neg c3]
    by_cases c4 : ((eL e (dRow (48 + 4 * p1) e)).length : Int) < 24
    · rw [if_pos c4]
      obtain ⟨q1, q2, q3, q4, q5, q6, q7, q8⟩ := h
      refine ⟨q1, q2, q3, q4, q5, fun t ht => ⟨(q6 t ht).1, fun v v0 v1 => ?_⟩, q7, q8⟩
      have hg := (q6 t ht).2 v v0 v1
      by_cases cr : 1000 * t + v = dRow (48 + 4 * p1) e
      · have e1 : eL (eLs e (dRow (48 + 4 * p1) e) (eL e (dRow (48 + 4 * p1) e) ++ [1000000 * p2 + 1000 * p3 + p4])) (1000 * t + v) = eL e (dRow (48 + 4 * p1) e) ++ [1000000 * p2 + 1000 * p3 + p4] := by
          rw [cr]
          exact eLs_e
        show WCod (eL (eLs e (dRow (48 + 4 * p1) e) (eL e (dRow (48 + 4 * p1) e) ++ [1000000 * p2 + 1000 * p3 + p4])) (1000 * t + v))
        rw [e1]
        rw [cr] at hg
        refine ⟨by rw [List.length_append, List.length_singleton]; omega, fun u hu => ?_⟩
        rcases List.mem_append.mp hu with g | g
        · exact hg.2 u g
        · exact ⟨p2, p3, p4, List.mem_singleton.mp g, line_ok (by omega) (by omega) (by split <;> split at c3 <;> omega) (by omega) (by omega) (by omega)⟩
      · have e1 : eL (eLs e (dRow (48 + 4 * p1) e) (eL e (dRow (48 + 4 * p1) e) ++ [1000000 * p2 + 1000 * p3 + p4])) (1000 * t + v) = eL e (1000 * t + v) := eLs_a cr
        show WCod (eL (eLs e (dRow (48 + 4 * p1) e) (eL e (dRow (48 + 4 * p1) e) ++ [1000000 * p2 + 1000 * p3 + p4])) (1000 * t + v))
        rw [e1]
        exact hg
    · rw [if_neg c4]; exact h.thr hc
  · rw [if_neg c]; exact h.thr hc
/-- a field of the global row -/
theorem GLo.s4 (h : GLo k e) (h13 : j = 13 → 1 ≤ v ∧ v ≤ 10) (h15 : j = 15 → -20 * k' ≤ v ∧ v ≤ 20 * k') (h17 : j = 17 → v = 0 ∨ v = 1) (hk : k ≤ k') : GLo k' (eS e 4 j v) := by
  obtain ⟨q1, q2, q3, q4, q5, q6, q7, q8⟩ := h.mono hk
  have pa : ∀ a u : Int, a ≠ 4 ∨ u ≠ j → (eS e 4 j v).1 a u = e.1 a u := fun a u ha => by rw [es_pt, if_neg (by omega)]
  refine ⟨?_, ?_, ?_, fun w w0 w1 => ?_, fun q q0 q1' => ?_, fun t ht => ?_, fun i i0 i1 => ?_, fun i i0 i1 => ?_⟩
  · by_cases c : j = 15
    · rw [c, eS_e]; exact h15 c
    · rw [pa _ _ (by omega)]; exact q1
  · by_cases c : j = 13
    · rw [c, eS_e]; exact h13 c
    · rw [pa _ _ (by omega)]; exact q2
  · by_cases c : j = 17
    · rw [c, eS_e]; exact h17 c
    · rw [pa _ _ (by omega)]; exact q3
  · rw [pa 11 w (by omega), pa 12 w (by omega), pa 13 w (by omega)]
    exact q4 w w0 w1
  · simp only [fun u => pa (64 + q) u (by omega)]
    exact q5 q q0 q1'
  · have hb := isT_b ht
    rw [pa t 2 (by omega), pa (t + 1) 2 (by omega)]
    exact q6 t ht
  · rw [pa 9 2 (by omega)] at i1
    unfold WTsk
    simp only [fun u => pa (9000 + i) u (by omega)]
    exact q7 i i0 i1
  · rw [pa 10 2 (by omega)] at i1
    have hq := q8 i i0 i1
    unfold WSch at hq ⊢
    simp only [fun u => pa (10000 + i) u (by omega)]
    rw [pa 7 2 (by omega), pa (48 + 4 * e.1 (10000 + i) 0 + 1) 2 (by omega)]
    exact hq
theorem gl_setRate (h : GLo k e) (hc : CN e) : GLo k (pcSetRate p1 e).2 := by
  unfold pcSetRate
  by_cases c : p1 < 1 ∨ 10 < p1
  · rw [if_pos c]; exact h.thr hc
  · rw [if_neg c]
    exact h.s4 (fun _ => by omega) (fun g => by omega) (fun g => by omega) (Int.le_refl _)
theorem gl_shift (h : GLo k e) (hc : CN e) : GLo (k + 1) (pcShift p1 e).2 := by
  unfold pcShift
  by_cases c : p1 < -20 ∨ 20 < p1
  · rw [if_pos c]; exact (h.mono (by omega)).thr hc
  · rw [if_neg c]
    have h1 := h.1
    exact h.s4 (fun g => by omega) (fun _ => by omega) (fun g => by omega) (by omega)
theorem gl_signal (h : GLo k e) (hc : CN e) (hK : HNN e) : GLo k (pcSignal p1 p2 p3 e).2 := by
  unfold pcSignal
  split
  · rename_i c
    split
    · split
      · split
        · exact h.ex hc (gc_arr (Z := nZ) hc hK c.1 c.2 (by decide) (by decide)).1.1
        · exact h.thr hc
      · exact h.thr hc
    · exact h.thr hc
  · exact h.thr hc
theorem gl_cancel (h : GLo k e) (hc : CN e) (hK : HNN e) : GLo k (pcCancel p1 e).2 := by
  unfold pcCancel
  split
  · rename_i c
    split
    · exact h.ex hc (gc_can (Z := nZ) hc hK c.1 c.2).1.1
    · exact h.thr hc
  · exact h.thr hc
theorem gl_begin (h : GLo k e) (hc : CN e) (hK : HNN e) : GLo k (pcBegin p1 p2 p3 e).2 := by
  have n7 := hc.1
  unfold pcBegin
  split
  · rename_i c1
    split
    · rename_i c2
      split
      · split
        · rename_i c4
          exact h.ex hc (gc_start (Z := nZ) hc hK c4.2 c1 c2 c4.1 (by omega) (by omega)).1.1
        · exact h.thr hc
      · exact h.thr hc
    · exact h.thr hc
  · exact h.thr hc
theorem gl_query (h : GLo k e) (hc : CN e) : GLo k (pcQuery p1 p2 e).2 := by
  have g := h.eqm hc (eM_eq : EQM e (qM e p1 (e.1 (7000 + p1) 3) 0))
  have hc2 : CN (qM e p1 (e.1 (7000 + p1) 3) 0) := hc.of fun a ha => eM_eq.1 _ _ (by omega)
  unfold pcQuery
  split
  · split
    · split
      · exact g
      · exact g.thr hc2
    · exact h.thr hc
  · exact h.thr hc
end GLB
