/-! THE GLOBAL NUMBERS, tasks, schedules: k calls are done. -/
section GLA
variable {e e' e1 e2 : ES} {S D T a b c d i j k k' q r v w N M p y t o p1 p2 p3 p4 p5 p6 : Int} {n : Nat}
def GLo (k : Int) (e : ES) : Prop := (-20 * k ≤ e.1 4 15 ∧ e.1 4 15 ≤ 20 * k) ∧ (1 ≤ e.1 4 13 ∧ e.1 4 13 ≤ 10) ∧ (e.1 4 17 = 0 ∨ e.1 4 17 = 1) ∧ (∀ w : Int, 0 ≤ w → w < 3 → (0 ≤ e.1 11 w ∧ e.1 11 w ≤ k) ∧ (0 ≤ e.1 12 w ∧ e.1 12 w ≤ k) ∧ (0 ≤ e.1 13 w ∧ e.1 13 w ≤ k)) ∧ (∀ k : Int, 0 ≤ k → k < 4 → (1 ≤ e.1 (64 + k) 0 ∧ e.1 (64 + k) 0 ≤ 4) ∧ (0 ≤ e.1 (64 + k) 1 ∧ e.1 (64 + k) 1 ≤ 20) ∧ (0 ≤ e.1 (64 + k) 2 ∧ e.1 (64 + k) 2 ≤ 50) ∧ (0 ≤ e.1 (64 + k) 3 ∧ e.1 (64 + k) 3 ≤ 50) ∧ (0 ≤ e.1 (64 + k) 4 ∧ e.1 (64 + k) 4 ≤ 50)) ∧ (∀ t, isT t → (0 ≤ e.1 t 2 ∧ e.1 t 2 ≤ 2) ∧ ∀ v : Int, 0 ≤ v → v ≤ e.1 (t + 1) 2 → WCod (eL e (1000 * t + v))) ∧ (∀ i : Int, 0 ≤ i → i < e.1 9 2 → WTsk e i) ∧ ∀ i : Int, 0 ≤ i → i < e.1 10 2 → WSch e i
theorem GLo.mono (h : GLo k e) (hk : k ≤ k') : GLo k' e := by
  obtain ⟨h1, h2, h3, h4, h5⟩ := h
  exact ⟨by omega, h2, h3, fun w w0 w1 => by have := h4 w w0 w1; omega, h5⟩
/-- the class's global numbers -/
theorem GLo.wglo (h : GLo k e) (hH : HH S D T e) (hk : k ≤ 1000) (hg : e.1 4 11 < 1000000000) : WGlo e := by
  obtain ⟨h1, h2, h3, h4, h5, h6, -⟩ := h
  have ht := hH.2.1.2.2.2.2.1
  exact ⟨by omega, h2, ⟨ht.1, ht.2, hg⟩, h3, fun w w0 w1 => by have := h4 w w0 w1; omega, h5, h6, hH.tags⟩
theorem GLo.fr (h : GLo k e) (hc : CN e) (h4 : ∀ u : Int, u = 13 ∨ u = 15 ∨ u = 17 → e'.1 4 u = e.1 4 u) (h10 : ∀ a u : Int, 9 ≤ a → a ≤ 67 → e'.1 a u = e.1 a u) (h9 : ∀ a u : Int, 9000 ≤ a → a < 11000 → e'.1 a u = e.1 a u) (h7 : e.1 7 2 ≤ e'.1 7 2) (hl : ∀ c : Int, 48000 ≤ c → c < 62000 → eL e' c = eL e c) : GLo k e' := by
  obtain ⟨g1, g2, g3, g4, g5, g6, g7, g8⟩ := h
  have n9 := hc.2.2.1
  have n10 := hc.2.2.2.1
  refine ⟨by rw [h4 15 (by omega)]; exact g1, by rw [h4 13 (by omega)]; exact g2, by rw [h4 17 (by omega)]; exact g3, fun w w0 w1 => ?_, fun q q0 q1 => ?_, fun t ht => ?_, fun i i0 i1 => ?_, fun i i0 i1 => ?_⟩
  · rw [h10 11 w (by omega) (by omega), h10 12 w (by omega) (by omega), h10 13 w (by omega) (by omega)]
    exact g4 w w0 w1
  · simp only [fun u => h10 (64 + q) u (by omega) (by omega)]
    exact g5 q q0 q1
  · have hb := isT_b ht
    have hv := hc.2.2.2.2 t ht
    obtain ⟨u1, u2⟩ := g6 t ht
    rw [h10 t 2 (by omega) (by omega), h10 (t + 1) 2 (by omega) (by omega)]
    exact ⟨u1, fun v v0 v1 => by rw [hl _ (by omega) (by omega)]; exact u2 v v0 v1⟩
  · rw [h10 9 2 (by omega) (by omega)] at i1
    unfold WTsk
    simp only [fun u => h9 (9000 + i) u (by omega) (by omega)]
    exact g7 i i0 i1
  · rw [h10 10 2 (by omega) (by omega)] at i1
    obtain ⟨q1, q2, q3, q4, q5, q6, q7, q8⟩ := g8 i i0 i1
    unfold WSch
    simp only [fun u => h9 (10000 + i) u (by omega) (by omega)]
    rw [h10 (48 + 4 * e.1 (10000 + i) 0 + 1) 2 (by omega) (by omega)]
    exact ⟨q1, q2, q3, q4, q5, q6, ⟨q7.1, by omega⟩, q8⟩
theorem GLo.ex (h : GLo k e) (hc : CN e) (hx : EX e e') : GLo k e' := by
  obtain ⟨x1, x2, x3, x4, x5, x6, x7⟩ := hx
  exact h.fr hc (fun u hu => x5 u (by omega) (by omega)) (fun a u a0 a1 => x4 a u (by omega)) (fun a u a0 a1 => x4 a u (by omega)) x1.1 fun c c0 c1 => x6 c c0 (Or.inl c1)
/-- a field that nothing of this hangs on -/
theorem GLo.es (h : GLo k e) (hc : CN e) (ha : ¬ ((a = 4 ∧ (j = 13 ∨ j = 15 ∨ j = 17)) ∨ (9 ≤ a ∧ a ≤ 67) ∨ (9000 ≤ a ∧ a < 11000) ∨ (a = 7 ∧ j = 2))) : GLo k (eS e a j v) := by
  have pa : ∀ b u : Int, b ≠ a ∨ u ≠ j → (eS e a j v).1 b u = e.1 b u := fun b u hb => by rw [es_pt, if_neg (by omega)]
  exact h.fr hc (fun u hu => pa _ _ (by omega)) (fun b u b0 b1 => pa _ _ (by omega)) (fun b u b0 b1 => pa _ _ (by omega)) (by rw [pa _ _ (by omega)]; omega) fun _ _ _ => rfl
theorem GLo.thr (h : GLo k e) (hc : CN e) : GLo k (pThr e) := h.es hc (by omega)
theorem GLo.eqm (h : GLo k e) (hc : CN e) (g : EQM e e') : GLo k e' := by
  obtain ⟨g1, g2, g3⟩ := g
  obtain ⟨q1, q2, q3, q4, q5, q6, q7, q8⟩ := h
  refine ⟨by rw [g1 _ _ (by decide)]; exact q1, by rw [g1 _ _ (by decide)]; exact q2, by rw [g1 _ _ (by decide)]; exact q3, fun w w0 w1 => ?_, fun q q0 q1 => ?_, fun t ht => ?_, fun i i0 i1 => ?_, fun i i0 i1 => ?_⟩
  · rw [g1 11 w (by decide), g1 12 w (by decide), g1 13 w (by decide)]
    exact q4 w w0 w1
  · simp only [fun u => g1 (64 + q) u (by omega)]
    exact q5 q q0 q1
  · have hb := isT_b ht
    have e1 : ∀ c, eL e' c = eL e c := fun c => congrFun g3 c
    rw [g1 t 2 (by omega), g1 (t + 1) 2 (by omega)]
    simp only [e1]
    exact q6 t ht
  · rw [g1 9 2 (by decide)] at i1
    unfold WTsk
    simp only [fun u => g1 (9000 + i) u (by omega)]
    exact q7 i i0 i1
  · rw [g1 10 2 (by decide)] at i1
    have hq := q8 i i0 i1
    unfold WSch at hq ⊢
    simp only [fun u => g1 (10000 + i) u (by omega)]
    rw [g1 7 2 (by decide), g1 (48 + 4 * e.1 (10000 + i) 0 + 1) 2 (by omega)]
    exact hq
theorem gl00 : GLo 0 e00 := by
  refine ⟨by decide, by decide, by decide, fun w w0 w1 => ?_, fun q q0 q1 => ?_, fun t ht => ?_, fun i i0 i1 => ?_, fun i i0 i1 => ?_⟩
  · rw [e00_z (by decide) (by omega) (by decide) (by decide) (by decide), e00_z (by decide) (by omega) (by decide) (by decide) (by decide), e00_z (by decide) (by omega) (by decide) (by decide) (by decide)]
    decide
  · have g : ∀ u : Int, e00.1 (64 + q) u = if u = 0 then 3 else if u = 1 then 2 else 0 := fun u => by
      show (if 64 + q = 4 then _ else if 64 ≤ 64 + q ∧ 64 + q ≤ 67 then (if u = 0 then 3 else if u = 1 then 2 else 0) else _) = _
      rw [if_neg (by omega), if_pos (by omega)]
    rw [g, g, g, g, g]
    decide
  · unfold isT at ht
    have z1 : e00.1 t 2 = 0 := e00_z (by omega) (by omega) (by omega) (by omega) (by omega)
    rw [z1]
    refine ⟨by decide, fun v _ _ => ⟨by show ([] : List Int).length ≤ 24; decide, fun u hu => absurd hu List.not_mem_nil⟩⟩
  · have : e00.1 9 2 = 0 := by decide
    omega
  · have : e00.1 10 2 = 0 := by decide
    omega
end GLA
