/-! THE GLOBAL NUMBERS through the calls: kinds, joined, 27. -/
section GLF
variable {e e' e1 e2 : ES} {S D T a b c d i j k k' q r v w N M p y t o p1 p2 p3 p4 p5 p6 : Int} {n : Nat}
/-- a kind's field -/
theorem GLo.s64 (h : GLo k e) (hc : CN e) (q0 : 0 ≤ q) (q1 : q < 4) (hj : (j = 0 ∧ 1 ≤ v ∧ v ≤ 4) ∨ (j = 1 ∧ 0 ≤ v ∧ v ≤ 20) ∨ ((j = 2 ∨ j = 3 ∨ j = 4) ∧ 0 ≤ v ∧ v ≤ 50)) : GLo k (eS e (64 + q) j v) ∧ CN (eS e (64 + q) j v) := by
  obtain ⟨g1, g2, g3, g4, g5, g6, g7, g8⟩ := h
  have pa : ∀ a u : Int, a ≠ 64 + q ∨ u ≠ j → (eS e (64 + q) j v).1 a u = e.1 a u := fun a u ha => by rw [es_pt, if_neg (by omega)]
  have pe : (eS e (64 + q) j v).1 (64 + q) j = v := eS_e
  refine ⟨⟨by rw [pa _ _ (by omega)]; exact g1, by rw [pa _ _ (by omega)]; exact g2, by rw [pa _ _ (by omega)]; exact g3, fun w w0 w1 => ?_, fun z z0 z1 => ?_, fun t ht => ?_, fun u u0 u1 => ?_, fun u u0 u1 => ?_⟩, hc.of fun a ha => eS_a (by omega)⟩
  · rw [pa 11 w (by omega), pa 12 w (by omega), pa 13 w (by omega)]
    exact g4 w w0 w1
  · have hz := g5 z z0 z1
    by_cases c : z = q
    · subst c
      obtain ⟨h0, h1, h2, h3, h4⟩ := hz
      have key : ∀ u lo hi : Int, (u = j → lo ≤ v ∧ v ≤ hi) → (lo ≤ e.1 (64 + z) u ∧ e.1 (64 + z) u ≤ hi) → lo ≤ (eS e (64 + z) j v).1 (64 + z) u ∧ (eS e (64 + z) j v).1 (64 + z) u ≤ hi := fun u lo hi hu hold => by
        by_cases cu : u = j
        · rw [cu, pe]; exact hu cu
        · rw [pa _ _ (Or.inr cu)]; exact hold
      exact ⟨key 0 1 4 (fun g => by omega) h0, key 1 0 20 (fun g => by omega) h1, key 2 0 50 (fun g => by omega) h2, key 3 0 50 (fun g => by omega) h3, key 4 0 50 (fun g => by omega) h4⟩
    · simp only [fun u => pa (64 + z) u (by omega)]
      exact hz
  · have hb := isT_b ht
    rw [pa t 2 (by unfold isT at ht; omega), pa (t + 1) 2 (by unfold isT at ht; omega)]
    exact g6 t ht
  · rw [pa 9 2 (by omega)] at u1
    unfold WTsk
    have n9 := hc.2.2.1
    simp only [fun z => pa (9000 + u) z (by omega)]
    exact g7 u u0 u1
  · rw [pa 10 2 (by omega)] at u1
    have hq := g8 u u0 u1
    unfold WSch at hq ⊢
    simp only [fun z => pa (10000 + u) z (by omega)]
    rw [pa 7 2 (by omega), pa (48 + 4 * e.1 (10000 + u) 0 + 1) 2 (by omega)]
    exact hq
theorem gl_setKind (h : GLo k e) (hc : CN e) : GLo k (pcSetKind p1 p2 p3 p4 p5 p6 e).2 := by
  unfold pcSetKind
  split
  · rename_i c
    split
    · exact h.thr hc
    · rename_i c2
      obtain ⟨a1, a2⟩ := h.s64 (j := 0) (v := p2) hc c.1 c.2 (Or.inl ⟨rfl, by omega, by omega⟩)
      obtain ⟨b1, b2⟩ := a1.s64 (j := 1) (v := p3) a2 c.1 c.2 (Or.inr (Or.inl ⟨rfl, by omega, by omega⟩))
      obtain ⟨c1, c2'⟩ := b1.s64 (j := 2) (v := p4) b2 c.1 c.2 (Or.inr (Or.inr ⟨by omega, by omega, by omega⟩))
      obtain ⟨d1, d2⟩ := c1.s64 (j := 3) (v := p5) c2' c.1 c.2 (Or.inr (Or.inr ⟨by omega, by omega, by omega⟩))
      exact (d1.s64 (j := 4) (v := p6) d2 c.1 c.2 (Or.inr (Or.inr ⟨by omega, by omega, by omega⟩))).1
  · exact h.thr hc
theorem gl_unL : ∀ (n : Nat) (a i : Int) (e : ES), GLo k e → CN e → GLo k (pUnL t v n a i e).2 := by
  intro n
  induction n with
  | zero => intro a i e h _; exact h
  | succ n ih =>
    intro a i e h hc
    unfold pUnL
    split
    · split
      · exact ih _ _ _ (h.eqm hc eM_eq) (hc.of fun a ha => eM_eq.1 _ _ (by omega))
      · exact ih _ _ _ h hc
    · exact h
theorem gl_27 (h : GLo k e) (hc : CN e) : GLo k (pcUnsafe p1 p2 e).2 := by
  unfold pcUnsafe
  split
  · split
    · exact gl_unL _ _ _ _ h hc
    · exact h.thr hc
  · exact h.thr hc
end GLF
