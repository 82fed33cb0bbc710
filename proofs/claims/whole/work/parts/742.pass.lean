/-! THE ENGINE: the call pass. -/
section PAS
variable {m m' M2 m0 : MM} {ow ow' : Int → Int} {ad ad' ad1 : Int → Int → Int} {e e' e0 e1 e2 : ES} {D : Int → Prop} {a b c i j k o r v w h B t y z q lim c2 c3 p p1 p2 p3 N st res dep fin : Int} {n : Nat} {x : CX} {l : List Int} {E : Int → Ev} {s S : TS} {f : Int → Int}
theorem PW.schS (h : PW e) (p0 : 0 ≤ p) (p1 : p < e.1 10 2) (hw : ScW (eS e (10000 + p) j v) p) : PW (eS e (10000 + p) j v) := by
  have n := h.1.2
  have hp : p < 4 := by have := n.2.2.2.1; omega
  have ha : ∀ a u : Int, a ≠ 10000 + p → (eS e (10000 + p) j v).1 a u = e.1 a u := fun a u h1 => eS_a h1
  refine h.mk2 (ha _ _ (by omega)) (ha _ _ (by omega)) (ha _ _ (by omega)) (by rw [ha _ _ (by omega)]; omega) (by rw [ha _ _ (by omega)]; exact n.1.2) (fun t ht => ha _ _ (by have := isT_b ht; omega)) (h.1.1.same n (fun a u hh => ha a u (by omega)) (fun _ _ => rfl)) (fun r r0 r1 => Dead.eq (ha _ _ (by have := n.1; omega))) (fun r r0 r1 => Or.inl ⟨by rw [ha _ _ (by omega)] at r1; exact r1, rfl, rfl⟩) (fun p' q0 q1 => Or.inl fun u => ha _ _ (by have := n.2.1; omega)) (fun p' q0 q1 => ?_)
  by_cases c : p' = p
  · subst c
    exact Or.inr hw
  · exact Or.inl fun u => ha _ _ (by omega)
theorem scw6 (h : ScW e p) (hj : j = 6 ∨ j = 7) : ScW (eS e (10000 + p) j v) p := by
  unfold ScW SOK at h ⊢
  rw [eS_j (by omega), eS_j (by omega), eS_j (by omega), eS_j (by omega)]
  exact h
theorem scw8 (h : ScW e p) (v0 : 0 ≤ v) (v1 : v ≤ 999) : ScW (eS e (10000 + p) 8 v) p := by
  unfold ScW SOK at h ⊢
  rw [eS_j (by omega), eS_j (by omega), eS_e, eS_j (by omega)]
  exact ⟨⟨h.1.1, h.1.2.1, v0, v1⟩, h.2⟩
theorem scw4 (h : ScW e p) (v0 : -20000 ≤ v) (v1 : v < 2000000) : ScW (eS e (10000 + p) 4 v) p := by
  unfold ScW SOK at h ⊢
  rw [eS_j (by omega), eS_j (by omega), eS_j (by omega), eS_e]
  exact ⟨h.1, v0, v1⟩
theorem PW.start (h : PW e) (n1 : e.1 7 2 < 30) : PW (pStart t y v z q e) := by
  have n := h.1.2
  have n0 := n.1.1
  have ha : ∀ a u : Int, a ≠ 68 → a ≠ 3 → a ≠ 76000 + e.1 7 2 → a ≠ 71000 + e.1 7 2 → (a ≠ 4 ∨ u ≠ 16) → a ≠ 7 → a ≠ 7000 + e.1 7 2 → (pStart t y v z q e).1 a u = e.1 a u := fun a u h1 h2 h3 h4 h5 h6 h7 => start_a n0 h1 h2 h3 h4 h5 h6 h7
  have s7 : (pStart t y v z q e).1 7 2 = e.1 7 2 + 1 := start_n n0
  refine h.mk2 (ha _ _ (by omega) (by omega) (by omega) (by omega) (by omega) (by omega) (by omega)) (ha _ _ (by omega) (by omega) (by omega) (by omega) (by omega) (by omega) (by omega)) (ha _ _ (by omega) (by omega) (by omega) (by omega) (by omega) (by omega) (by omega)) (by omega) (by omega) (fun t ht => by have := isT_b ht; exact ha _ _ (by omega) (by omega) (by omega) (by omega) (by omega) (by omega) (by omega)) (h.1.1.same n (fun a u hh => ha a u (by omega) (by omega) (by omega) (by omega) (by omega) (by omega) (by omega)) (fun c hc => start_l (by omega) (by omega) (by omega))) (fun r r0 r1 => Dead.eq (ha _ _ (by omega) (by omega) (by omega) (by omega) (by omega) (by omega) (by omega))) (fun r r0 r1 => ?_) (fun p' q0 q1 => Or.inl fun u => by have := n.2.1; exact ha _ _ (by omega) (by omega) (by omega) (by omega) (by omega) (by omega) (by omega)) (fun p' q0 q1 => Or.inl fun u => by have := n.2.2.2.1; exact ha _ _ (by omega) (by omega) (by omega) (by omega) (by omega) (by omega) (by omega))
  by_cases c : r < e.1 7 2
  · exact Or.inl ⟨c, start_l (by omega) (by omega) (by omega), start_l (by omega) (by omega) (by omega)⟩
  · have hr : r = e.1 7 2 := by omega
    subst hr
    have l3 : eL (pStart t y v z q e) (73000 + e.1 7 2) = [] := arr_l.trans (pNewRun_r (c := 73) (by omega))
    have l4 : eL (pStart t y v z q e) (74000 + e.1 7 2) = [] := arr_l.trans (pNewRun_r (c := 74) (by omega))
    refine Or.inr ⟨?_, fun _ => l3⟩
    rw [l3, l4]
    exact ⟨rfl, fun v hv => absurd hv List.not_mem_nil, fun v hv => absurd hv List.not_mem_nil⟩
theorem PW.stF (h : PW e) (p0 : 0 ≤ p) (p1 : p < e.1 10 2) : PW (pStF p v e) := by
  unfold pStF
  split
  · rename_i c
    have n := h.1.2
    have hp : p < 4 := by have := n.2.2.2.1; omega
    have k := h.start (t := e.1 (10000 + p) 0) (y := e.1 (10000 + p) 1) (v := v) (z := -1) (q := 0) c
    have k10 : p < (pStart (e.1 (10000 + p) 0) (e.1 (10000 + p) 1) v (-1) 0 e).1 10 2 := by
      have n0 := n.1.1
      have s10 : (pStart (e.1 (10000 + p) 0) (e.1 (10000 + p) 1) v (-1) 0 e).1 10 2 = e.1 10 2 := start_a n0 (by omega) (by omega) (by omega) (by omega) (by omega) (by omega) (by omega)
      rw [s10]
      exact p1
    exact k.schS p0 k10 (scw6 (k.2.2.2 p p0 k10) (Or.inl rfl))
  · exact h
theorem can_10 (i0 : 0 ≤ i) : (pCan i e).2.1 10 2 = e.1 10 2 := by
  unfold pCan
  split
  · rfl
  · exact arr_a (by omega) (by omega) (by omega) (by omega) (by omega)
theorem PW.meet (h : PW e) (p0 : 0 ≤ p) (p1 : p < e.1 10 2) (v0 : 0 ≤ v) (v1 : v ≤ 999) : PW (pMeet p v e) := by
  have n := h.1.2
  unfold pMeet
  by_cases c0 : ¬ lastO e p ∨ e.1 (10000 + p) 3 = 3
  · rw [if_pos c0]
    exact h.stF p0 p1
  · rw [if_neg c0]
    have c1 : lastO e p := Classical.byContradiction fun g => c0 (Or.inl g)
    split
    · split
      · have k := h.schS (j := 7) (v := 1) p0 p1 (scw6 (h.2.2.2 p p0 p1) (Or.inr rfl))
        have k10 : p < (eS e (10000 + p) 7 1).1 10 2 := by rw [eS_a (by omega)]; exact p1
        exact k.schS p0 k10 (scw8 (k.2.2.2 p p0 k10) v0 v1)
      · exact h
    · split
      · have k : PW (pCan (e.1 (10000 + p) 6) e).2 := by
          unfold pCan
          split
          · exact h
          · exact h.arr c1.1.1 (by have := c1.1.2; have := n.1; omega)
        exact k.stF p0 (by rw [can_10 c1.1.1]; exact p1)
      · exact h
theorem PW.pt (h : PW e) (p0 : 0 ≤ p) (p1 : p < e.1 10 2) : PW (pPt p t e) := by
  unfold pPt
  split
  · exact h.meet p0 p1 (Int.emod_nonneg _ (by decide)) (by have := Int.emod_lt_of_pos t (show (0 : Int) < 1000 by decide); omega)
  · exact h
theorem PW.schL (p0 : 0 ≤ p) : ∀ (n : Nat) (t : Int) (e : ES), PW e → p < e.1 10 2 → PW (pSchL p N n t e) := by
  intro n
  induction n with
  | zero => intro t e h _; exact h
  | succ n ih =>
    intro t e h p1
    have nn := h.1.2
    have nn7 := nn.1
    have nn10 := nn.2.2.2.1
    unfold pSchL
    split
    · exact h
    · exact ih _ _ (h.pt p0 p1) (by rw [(pt_mt (e := e) (p := p) (t := t) nn.1.1 (by omega) p0 (by omega)).2.1 10 (by decide) (by decide)]; exact p1)
theorem PW.lookS (h : PW e) (p0 : 0 ≤ p) (p1 : p < e.1 10 2) (ht : 0 ≤ e.1 4 14 ∧ e.1 4 14 < 1000000) : PW (pLookS p e) := by
  have nn := h.1.2
  have hp : p < 1000 := by have := nn.2.2.2.1; omega
  have mt := lkS1_mt (e := e) (p := p) nn.1.1 p0 hp
  have k1 : PW (pLkS1 p e) := by
    unfold pLkS1
    split
    · have k := h.schS (j := 7) (v := 0) p0 p1 (scw6 (h.2.2.2 p p0 p1) (Or.inr rfl))
      exact k.stF p0 (by rw [eS_a (by omega)]; exact p1)
    · exact h
  have k10 : p < (pLkS1 p e).1 10 2 := by rw [mt.2.1 10 (by decide) (by decide)]; exact p1
  unfold pLookS
  have hg := k1.1.1.1
  have hs := (k1.2.2.2 p p0 k10).2
  have ht1 : (pLkS1 p e).1 4 14 = e.1 4 14 := mt.2.2.2.2.2.1.1
  have n1 := k1.1.2
  generalize pLkS1 p e = e1 at *
  unfold pLk29
  have k2 := PW.schL (N := e1.1 4 14 + e1.1 4 15) p0 ((e1.1 4 14 + e1.1 4 15 - e1.1 (10000 + p) 4).toNat + 1) (e1.1 (10000 + p) 4 + 1) e1 k1 k10
  have hm2 := schL_mt (N := e1.1 4 14 + e1.1 4 15) p0 hp ((e1.1 4 14 + e1.1 4 15 - e1.1 (10000 + p) 4).toNat + 1) (e1.1 (10000 + p) 4 + 1) e1 n1.1.1 n1.1.2
  have k210 : p < (pSchL p (e1.1 4 14 + e1.1 4 15) ((e1.1 4 14 + e1.1 4 15 - e1.1 (10000 + p) 4).toNat + 1) (e1.1 (10000 + p) 4 + 1) e1).1 10 2 := by rw [hm2.2.1 10 (by decide) (by decide)]; exact k10
  refine k2.schS p0 k210 (scw4 (k2.2.2.2 p p0 k210) ?_ ?_)
  · split <;> omega
  · split <;> omega
theorem PW.bt (h : PW e) : PW (pBT e) := by
  have n := h.1.2
  have ha : ∀ a u : Int, (a ≠ 4 ∨ u ≠ 14) → a ≠ 13 → (pBT e).1 a u = e.1 a u := fun a u h1 h2 => bt_a h1 h2
  have h13 : ∀ k : Int, 0 ≤ k → k < 3 → (pBT e).1 13 k = 0 := fun k k0 k1 => by
    unfold pBT
    have : k = 0 ∨ k = 1 ∨ k = 2 := by omega
    rcases this with rfl | rfl | rfl
    · rw [eS_j (by decide), eS_j (by decide)]; exact eS_e
    · rw [eS_j (by decide)]; exact eS_e
    · exact eS_e
  refine h.mk2 (ha _ _ (by omega) (by omega)) (ha _ _ (by omega) (by omega)) (ha _ _ (by omega) (by omega)) (by rw [ha _ _ (by omega) (by omega)]; omega) (by rw [ha _ _ (by omega) (by omega)]; exact n.1.2) (fun t ht => ha _ _ (by have := isT_b ht; omega) (by have := isT_b ht; omega)) ?_ (fun r r0 r1 => Dead.eq (ha _ _ (by omega) (by omega))) (fun r r0 r1 => Or.inl ⟨by rw [ha _ _ (by omega) (by omega)] at r1; exact r1, rfl, rfl⟩) (fun p' q0 q1 => Or.inl fun u => ha _ _ (by omega) (by omega)) (fun p' q0 q1 => Or.inl fun u => ha _ _ (by omega) (by omega))
  obtain ⟨g1, g2, g3, g4, g5, g6, g7, g8, g9⟩ := h.1.1
  refine ⟨by rw [ha _ _ (by omega) (by omega)]; exact g1, by rw [ha _ _ (by omega) (by omega)]; exact g2, by rw [ha _ _ (by omega) (by omega), ha _ _ (by omega) (by omega)]; exact g3, by rw [ha _ _ (by omega) (by omega)]; exact g4, fun k k0 k1 => ?_, fun k k0 k1 => ?_, fun t ht => ?_, g8, g9⟩
  · rw [ha _ _ (by omega) (by omega), ha _ _ (by omega) (by omega), h13 k k0 k1]
    exact ⟨(g5 k k0 k1).1, (g5 k k0 k1).2.1, by decide⟩
  · rw [ha _ _ (by omega) (by omega), ha _ _ (by omega) (by omega), ha _ _ (by omega) (by omega), ha _ _ (by omega) (by omega), ha _ _ (by omega) (by omega)]
    exact g6 k k0 k1
  · have := isT_b ht
    rw [ha _ _ (by omega) (by omega), ha _ _ (by omega) (by omega)]
    exact g7 t ht
end PAS
