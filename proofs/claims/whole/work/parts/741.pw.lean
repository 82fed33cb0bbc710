/-! THE ENGINE: what the steps of a tick have to find, and keep. -/
section PWP
variable {m m' M2 m0 : MM} {ow ow' : Int → Int} {ad ad' ad1 : Int → Int → Int} {e e' e0 e1 e2 : ES} {D : Int → Prop} {a b c i j k o r v w h B t y z q lim c2 c3 p p1 p2 p3 N st res dep fin : Int} {n : Nat} {x : CX} {l : List Int} {E : Int → Ev} {s S : TS} {f : Int → Int}
def TmW (e : ES) (r : Int) : Prop := ((eL e (73000 + r)).length = (eL e (74000 + r)).length ∧ (∀ v ∈ eL e (73000 + r), 0 ≤ v ∧ v < 524288) ∧ ∀ v ∈ eL e (74000 + r), 0 ≤ v ∧ v < 2000000000) ∧ (Dead e r → eL e (73000 + r) = [])
def AcW (e : ES) (p : Int) : Prop := WAct e p ∧ (0 ≤ e.1 (8000 + p) 0 ∧ e.1 (8000 + p) 0 < e.1 7 2) ∧ (e.1 (8000 + p) 5 ≠ 2 → ¬ Dead e (e.1 (8000 + p) 0))
def ScW (e : ES) (p : Int) : Prop := SOK p e ∧ -20000 ≤ e.1 (10000 + p) 4 ∧ e.1 (10000 + p) 4 < 2000000
def PW (e : ES) : Prop := (WGlo e ∧ CN e) ∧ (∀ r : Int, 0 ≤ r → r < e.1 7 2 → TmW e r) ∧ (∀ p : Int, 0 ≤ p → p < e.1 8 2 → AcW e p) ∧ ∀ p : Int, 0 ≤ p → p < e.1 10 2 → ScW e p
theorem WGlo.same (g : WGlo e) (hc : CN e) (ha : ∀ a u, (a = 4 ∧ 11 ≤ u ∧ u ≤ 17 ∧ u ≠ 14 ∧ u ≠ 16) ∨ (11 ≤ a ∧ a ≤ 13) ∨ (48 ≤ a ∧ a ≤ 67) → e'.1 a u = e.1 a u) (hl : ∀ c, c < 73000 → eL e' c = eL e c) : WGlo e' := by
  obtain ⟨g1, g2, g3, g4, g5, g6, g7, g8, g9⟩ := g
  refine ⟨by rw [ha _ _ (by omega)]; exact g1, by rw [ha _ _ (by omega)]; exact g2, by rw [ha _ _ (by omega), ha _ _ (by omega)]; exact g3, by rw [ha _ _ (by omega)]; exact g4, fun k k0 k1 => ?_, fun k k0 k1 => ?_, fun t ht => ?_, by rw [hl _ (by omega)]; exact g8, by rw [hl _ (by omega)]; exact g9⟩
  · rw [ha _ _ (by omega), ha _ _ (by omega), ha _ _ (by omega)]
    exact g5 k k0 k1
  · rw [ha _ _ (by omega), ha _ _ (by omega), ha _ _ (by omega), ha _ _ (by omega), ha _ _ (by omega)]
    exact g6 k k0 k1
  · have hb := isT_b ht
    have hct := hc.2.2.2.2 t ht
    rw [ha _ _ (by omega), ha _ _ (by omega)]
    refine ⟨(g7 t ht).1, fun v v0 v1 => ?_⟩
    rw [hl _ (by omega)]
    exact (g7 t ht).2 v v0 v1
theorem PW.mk2 (h : PW e) (c8 : e'.1 8 2 = e.1 8 2) (c9 : e'.1 9 2 = e.1 9 2) (c10 : e'.1 10 2 = e.1 10 2) (c7 : e.1 7 2 ≤ e'.1 7 2) (c70 : e'.1 7 2 ≤ 30) (ct : ∀ t, isT t → e'.1 (t + 1) 2 = e.1 (t + 1) 2) (hG : WGlo e') (hD : ∀ r : Int, 0 ≤ r → r < e.1 7 2 → (Dead e' r ↔ Dead e r)) (hT : ∀ r : Int, 0 ≤ r → r < e'.1 7 2 → (r < e.1 7 2 ∧ eL e' (73000 + r) = eL e (73000 + r) ∧ eL e' (74000 + r) = eL e (74000 + r)) ∨ TmW e' r) (hA : ∀ p : Int, 0 ≤ p → p < e.1 8 2 → (∀ u, e'.1 (8000 + p) u = e.1 (8000 + p) u) ∨ (WAct e' p ∧ e'.1 (8000 + p) 0 = e.1 (8000 + p) 0 ∧ (e'.1 (8000 + p) 5 = 2 ∨ e.1 (8000 + p) 5 ≠ 2))) (hS : ∀ p : Int, 0 ≤ p → p < e.1 10 2 → (∀ u, e'.1 (10000 + p) u = e.1 (10000 + p) u) ∨ ScW e' p) : PW e' := by
  obtain ⟨⟨h1, n1, n2, n3, n4, n5⟩, h2, h3, h4⟩ := h
  refine ⟨⟨hG, ⟨by omega, c70⟩, by rw [c8]; exact n2, by rw [c9]; exact n3, by rw [c10]; exact n4, fun t ht => by rw [ct t ht]; exact n5 t ht⟩, fun r r0 r1 => ?_, fun p p0 p1 => ?_, fun p p0 p1 => ?_⟩
  · rcases hT r r0 r1 with ⟨k1, k2, k3⟩ | k
    · unfold TmW
      rw [k2, k3, hD r r0 k1]
      exact h2 r r0 k1
    · exact k
  · rw [c8] at p1
    obtain ⟨q1, q2, q3⟩ := h3 p p0 p1
    rcases hA p p0 p1 with k | ⟨k1, k2, k3⟩
    · unfold AcW WAct
      simp only [k]
      refine ⟨q1, ⟨q2.1, by omega⟩, fun g => ?_⟩
      rw [hD _ q2.1 q2.2]
      exact q3 g
    · unfold AcW
      rw [k2, hD _ q2.1 q2.2]
      exact ⟨k1, ⟨q2.1, by omega⟩, fun g => q3 (k3.resolve_left g)⟩
  · rw [c10] at p1
    rcases hS p p0 p1 with k | k
    · unfold ScW SOK
      simp only [k]
      exact h4 p p0 p1
    · exact k
theorem Dead.eq (h : e'.1 (7000 + i) 6 = e.1 (7000 + i) 6) : Dead e' i ↔ Dead e i := by
  unfold Dead
  rw [h]
theorem PW.arr (h : PW e) (i0 : 0 ≤ i) (i1 : i < 1000) : PW (pArr i k p q e) := by
  have ha : ∀ a u : Int, a < 71000 → a ≠ 68 → a ≠ 3 → (a ≠ 4 ∨ u ≠ 16) → (pArr i k p q e).1 a u = e.1 a u := fun a u h1 h2 h3 h4 => arr_a h2 h3 (by omega) (by omega) h4
  have n := h.1.2
  refine h.mk2 (ha _ _ (by omega) (by omega) (by omega) (by omega)) (ha _ _ (by omega) (by omega) (by omega) (by omega)) (ha _ _ (by omega) (by omega) (by omega) (by omega)) (by rw [ha _ _ (by omega) (by omega) (by omega) (by omega)]; omega) (by rw [ha _ _ (by omega) (by omega) (by omega) (by omega)]; exact n.1.2) (fun t ht => ha _ _ (by have := isT_b ht; omega) (by have := isT_b ht; omega) (by have := isT_b ht; omega) (by omega)) (h.1.1.same n (fun a u hh => ha a u (by omega) (by omega) (by omega) (by omega)) (fun c _ => arr_l)) (fun r r0 r1 => Dead.eq (ha _ _ (by have := n.1; omega) (by omega) (by omega) (by omega))) (fun r r0 r1 => Or.inl ⟨by rw [ha _ _ (by omega) (by omega) (by omega) (by omega)] at r1; exact r1, arr_l, arr_l⟩) (fun p p0 p1 => Or.inl fun u => ha _ _ (by have := n.2.1; omega) (by omega) (by omega) (by omega)) (fun p p0 p1 => Or.inl fun u => ha _ _ (by have := n.2.2.2.1; omega) (by omega) (by omega) (by omega))
theorem PW.remT (h : PW e) (r0 : 0 ≤ r) (r1 : r < 1000) : PW (pRemT r k e) := by
  have n := h.1.2
  refine h.mk2 rfl rfl rfl (Int.le_refl _) n.1.2 (fun _ _ => rfl) (h.1.1.same n (fun _ _ _ => rfl) (fun c hc => by unfold pRemT; rw [eLs_a (by omega), eLs_a (by omega)])) (fun _ _ _ => Iff.rfl) (fun j j0 j1 => ?_) (fun p p0 p1 => Or.inl fun _ => rfl) (fun p p0 p1 => Or.inl fun _ => rfl)
  have j1' : j < e.1 7 2 := j1
  by_cases c : j = r
  · subst c
    obtain ⟨⟨g1, g2, g3⟩, g4⟩ := h.2.1 j j0 j1'
    have w3 : eL (pRemT j k e) (73000 + j) = (eL e (73000 + j)).eraseIdx k.toNat := by
      unfold pRemT
      rw [eLs_a (by omega)]
      exact eLs_e
    have w4 : eL (pRemT j k e) (74000 + j) = (eL e (74000 + j)).eraseIdx k.toNat := eLs_e
    refine Or.inr ⟨⟨by rw [w3, w4, List.length_eraseIdx, List.length_eraseIdx, g1], fun v hv => g2 v ?_, fun v hv => g3 v ?_⟩, fun hd => ?_⟩
    · rw [w3] at hv
      exact List.mem_of_mem_eraseIdx hv
    · rw [w4] at hv
      exact List.mem_of_mem_eraseIdx hv
    · have hd' : Dead e j := hd
      rw [w3, g4 hd']
      rfl
  · refine Or.inl ⟨j1', ?_, ?_⟩
    · unfold pRemT
      have := n.1
      rw [eLs_a (by omega), eLs_a (by omega)]
    · unfold pRemT
      have := n.1
      rw [eLs_a (by omega), eLs_a (by omega)]
theorem PW.fireL (r0 : 0 ≤ r) (r1 : r < 1000) : ∀ (n : Nat) (k : Int) (e : ES), PW e → PW (pFireL r n k e) := by
  intro n
  induction n with
  | zero => intro k e h; exact h
  | succ n ih =>
    intro k e h
    unfold pFireL
    split
    · exact ih _ _ h
    · exact ih _ _ ((h.arr r0 r1).remT r0 r1)
/-- one field of an activity -/
theorem PW.actS (h : PW e) (p0 : 0 ≤ p) (p1 : p < e.1 8 2) (hj : j ≠ 0) (hw : WAct (eS e (8000 + p) j v) p) (h5 : j = 5 → v = 2 ∨ e.1 (8000 + p) 5 ≠ 2) : PW (eS e (8000 + p) j v) := by
  have n := h.1.2
  have hp : p < 60 := by have := n.2.1; omega
  have ha : ∀ a u : Int, a ≠ 8000 + p → (eS e (8000 + p) j v).1 a u = e.1 a u := fun a u h1 => eS_a h1
  refine h.mk2 (ha _ _ (by omega)) (ha _ _ (by omega)) (ha _ _ (by omega)) (by rw [ha _ _ (by omega)]; omega) (by rw [ha _ _ (by omega)]; exact n.1.2) (fun t ht => ha _ _ (by have := isT_b ht; omega)) (h.1.1.same n (fun a u hh => ha a u (by omega)) (fun _ _ => rfl)) (fun r r0 r1 => Dead.eq (ha _ _ (by have := n.1; omega))) (fun r r0 r1 => Or.inl ⟨by rw [ha _ _ (by omega)] at r1; exact r1, rfl, rfl⟩) (fun p' q0 q1 => ?_) (fun p' q0 q1 => Or.inl fun u => ha _ _ (by omega))
  by_cases c : p' = p
  · subst c
    refine Or.inr ⟨hw, eS_j (by omega), ?_⟩
    by_cases cj : j = 5
    · subst cj
      rcases h5 rfl with g | g
      · refine Or.inl ?_
        rw [eS_e]
        exact g
      · exact Or.inr g
    · by_cases c5 : e.1 (8000 + p') 5 = 2
      · refine Or.inl ?_
        rw [eS_j (by omega)]
        exact c5
      · exact Or.inr c5
  · exact Or.inl fun u => ha _ _ (by omega)
theorem wact5 (h : WAct e p) (v0 : 0 ≤ v) (v1 : v ≤ 2) : WAct (eS e (8000 + p) 5 v) p := by
  unfold WAct at h ⊢
  rw [eS_j (by decide), eS_j (by decide), eS_j (by decide), eS_j (by decide), eS_e, eS_j (by decide), eS_j (by decide), eS_j (by decide), eS_j (by decide), eS_j (by decide)]
  obtain ⟨h1, h2, h3, h4, h5, h6⟩ := h
  exact ⟨h1, h2, h3, h4, ⟨v0, v1⟩, h6⟩
theorem wact7 (h : WAct e p) (v0 : 0 ≤ v) (v1 : v < 2000000) : WAct (eS e (8000 + p) 7 v) p := by
  unfold WAct at h ⊢
  rw [eS_j (by decide), eS_j (by decide), eS_j (by decide), eS_j (by decide), eS_j (by decide), eS_j (by decide), eS_e, eS_j (by decide), eS_j (by decide), eS_j (by decide)]
  obtain ⟨h1, h2, h3, h4, h5, h6, h7, h8⟩ := h
  exact ⟨h1, h2, h3, h4, h5, h6, ⟨v0, v1⟩, h8⟩
theorem PW.miss (h : PW e) (p0 : 0 ≤ p) (p1 : p < e.1 8 2) (ht : 0 ≤ e.1 4 14 ∧ e.1 4 14 < 1000000) (h5 : e.1 (8000 + p) 5 ≠ 2) : PW (pMiss p fin e) := by
  obtain ⟨q1, q2, q3⟩ := h.2.2.1 p p0 p1
  have n := h.1.2
  have hk := h.1.1.2.2.2.2.2.1 _ q1.2.1.1 q1.2.1.2
  unfold pMiss
  split
  · have k1 := h.actS (j := 5) (v := 0) p0 p1 (by decide) (wact5 q1 (by decide) (by decide)) (fun _ => Or.inr h5)
    exact k1.actS (j := 7) p0 (by rw [eS_a (by omega)]; exact p1) (by decide) (wact7 (wact5 q1 (by decide) (by decide)) (by omega) (by omega)) (fun hh => by omega)
  · exact (h.actS (j := 5) (v := 2) p0 p1 (by decide) (wact5 q1 (by decide) (by decide)) (fun _ => Or.inl rfl)).arr q2.1 (by have := n.1; omega)
theorem PW.lookA (h : PW e) (p0 : 0 ≤ p) (p1 : p < e.1 8 2) (ht : 0 ≤ e.1 4 14 ∧ e.1 4 14 < 1000000) : PW (pLookA p e) := by
  obtain ⟨q1, q2, q3⟩ := h.2.2.1 p p0 p1
  have n := h.1.2
  unfold pLookA
  split
  · split
    · exact (h.actS (j := 5) (v := 2) p0 p1 (by decide) (wact5 q1 (by decide) (by decide)) (fun _ => Or.inl rfl)).arr q2.1 (by have := n.1; omega)
    · exact h
  · split
    · rename_i c
      exact h.miss p0 p1 ht (by omega)
    · exact h
end PWP
