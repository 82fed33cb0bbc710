/-! ALL THAT STANDS BETWEEN THE CALLS: what a run loses. -/
section HHG
variable {e e' e1 e2 : ES} {S D T S' D' T' a b c d i j k q r v w N M p y t o p1 p2 p3 p4 p5 p6 tn inp : Int} {n : Nat} {s : TS} {l : List Int}
theorem loL_mem (i0 : 0 ≤ i) : ∀ (n : Nat) (j : Int) (e : ES), 0 ≤ j → ∀ v ∈ eL (pLoL i N n j e) (75000 + i), v ∈ eL e (75000 + i) ∨ ∃ q : Int, (0 ≤ q ∧ q < N) ∧ ek (eH e i q) = 4 ∧ v = 1000 * ex (eH e i q) + ey (eH e i q) := by
  intro n
  induction n with
  | zero => intro j e _ v hv; exact Or.inl hv
  | succ n ih =>
    intro j e j0 v hv
    unfold pLoL at hv
    by_cases c : j < N
    · rw [if_pos c] at hv
      have hH : ∀ q, eH (pLo1 i j e) i q = eH e i q := fun q => by unfold eH; rw [lo1_2.1]
      rcases ih (j + 1) _ (by omega) v hv with g | ⟨q, q0, q1, q2⟩
      · unfold pLo1 at g
        by_cases c4 : ek (eH e i j) = 4
        · rw [if_pos c4] at g
          have e1 : eL (eS (eLs e (75000 + i) (eL e (75000 + i) ++ [1000 * ex (eH e i j) + ey (eH e i j)])) 3 1 (e.1 3 1 + 1)) (75000 + i) = eL e (75000 + i) ++ [1000 * ex (eH e i j) + ey (eH e i j)] := eLs_e
          rw [e1] at g
          rcases List.mem_append.mp g with g | g
          · exact Or.inl g
          · exact Or.inr ⟨j, ⟨j0, c⟩, c4, List.mem_singleton.mp g⟩
        · rw [if_neg c4] at g
          exact Or.inl g
      · rw [hH] at q1 q2
        exact Or.inr ⟨q, q0, q1, q2⟩
    · rw [if_neg c] at hv
      exact Or.inl hv
theorem lose_x (hc : CN e) (r0 : 0 ≤ r) (r1 : r < e.1 7 2) (h8 : 0 ≤ e.1 (7000 + r) 8) : (pLose r e).1 (7000 + r) 9 = (if 0 < hN e r - e.1 (7000 + r) 8 then e.1 (7000 + r) 9 + 1 else e.1 (7000 + r) 9) ∧ (pLose r e).2.2.2 = e.2.2.2 ∧ ∀ v ∈ eL (pLose r e) (75000 + r), v ∈ eL e (75000 + r) ∨ ∃ q : Int, (0 ≤ q ∧ q < hN e r) ∧ ek (eH e r q) = 4 ∧ v = 1000 * ex (eH e r q) + ey (eH e r q) := by
  have n7 := hc.1
  have n8 := hc.2.1
  obtain ⟨-, g2, g3, g4⟩ := loL_f (N := hN e r) r0 (by omega) ((hN e r - e.1 (7000 + r) 8).toNat + 1) (e.1 (7000 + r) 8) e
  have ga : ∀ a u : Int, a ≠ 3 → (pLoA r e).1 a u = e.1 a u := g2
  have gm := loL_mem (N := hN e r) r0 ((hN e r - e.1 (7000 + r) 8).toNat + 1) (e.1 (7000 + r) 8) e h8
  have b1 : ∀ a u : Int, a ≠ 3 → a ≠ 71000 + r → (a ≠ 7000 + r ∨ u ≠ 9) → (pLoB r (pLoA r e)).1 a u = e.1 a u := fun a u h1 h2 h3 => (loB_a h2 h3).trans (ga a u h1)
  have b2 : (pLoB r (pLoA r e)).2 = (pLoA r e).2 := by
    unfold pLoB
    split <;> rfl
  have cb : CN (pLoB r (pLoA r e)) := hc.of fun a ha => b1 _ _ (by omega) (by omega) (by omega)
  obtain ⟨p1, p2⟩ := par_pt (r := r) (fr := e.1 (7000 + r) 8) cb
  have cp := cb.par (r := r) (fr := e.1 (7000 + r) 8)
  obtain ⟨q1, q2, q3, q4⟩ := end_pt (r := r) cp
  have b9 : (pLoB r (pLoA r e)).1 (7000 + r) 9 = if 0 < hN e r - e.1 (7000 + r) 8 then e.1 (7000 + r) 9 + 1 else e.1 (7000 + r) 9 := by
    have hNA : hN (pLoA r e) r = hN e r := ga _ _ (by omega)
    unfold pLoB
    rw [hNA, ga _ _ (by omega)]
    split
    · rw [eS_e, ga _ _ (by omega)]
    · exact ga _ _ (by omega)
  refine ⟨?_, ?_, fun v hv => ?_⟩
  · show (pEnd r (pPar r (e.1 (7000 + r) 8) (pLoB r (pLoA r e)))).1 (7000 + r) 9 = _
    rw [end_a (by omega), p1, if_neg (by omega), b9]
  · show (pEnd r (pPar r (e.1 (7000 + r) 8) (pLoB r (pLoA r e)))).2.2.2 = _
    rw [q3, p2, b2]
    exact g3.2
  · have e1 : eL (pLose r e) (75000 + r) = eL (pLoA r e) (75000 + r) := by
      show eL (pEnd r (pPar r (e.1 (7000 + r) 8) (pLoB r (pLoA r e)))) (75000 + r) = _
      rw [q4, if_neg (by omega)]
      unfold eL
      rw [p2, b2]
    rw [e1] at hv
    exact gm v hv
theorem FK.lose (h : FK e) (hn : HNN e) (hc : CN e) (hI : HInv (eH e r) (hN e r)) (hT1 : hT e r < 1000) (r0 : 0 ≤ r) (r1 : r < e.1 7 2) : FK (pLose r e) := by
  have n7 := hc.1
  have n8 := hc.2.1
  have n9 := hc.2.2.1
  obtain ⟨⟨f1, f2, f3, f4, f5⟩, k1, k2, k3, ⟨k4, k5⟩, k6⟩ := h
  have h8 := (f1 r r0 r1).2.2.2.2.2.2.1
  obtain ⟨l1, l2, l3, l4, -⟩ := lose_pt hc r0 r1 h8
  obtain ⟨x1, x2, x3⟩ := lose_x hc r0 r1 h8.1
  generalize pLose r e = e' at l1 l2 l3 l4 x1 x2 x3 ⊢
  have pa : ∀ a u : Int, a ≠ 3 → a ≠ 71000 + r → (a ≠ 7000 + r ∨ u ≠ 9) → (a < 8000 ∨ 9000 ≤ a ∨ u ≠ 5) → (a < 7000 ∨ 8000 ≤ a ∨ u ≠ 4) → e'.1 a u = e.1 a u := fun a u h1 h2 h3 h4 h5 => by
    rw [l1 a u h1 h2 h3, if_neg (by omega), if_neg (by omega)]
  have e7 : e'.1 7 2 = e.1 7 2 := pa _ _ (by omega) (by omega) (by omega) (by omega) (by omega)
  have e8 : e'.1 8 2 = e.1 8 2 := pa _ _ (by omega) (by omega) (by omega) (by omega) (by omega)
  have e9 : e'.1 9 2 = e.1 9 2 := pa _ _ (by omega) (by omega) (by omega) (by omega) (by omega)
  have eHH : ∀ q, eH e' q = eH e q := fun q => congrFun l2 q
  have eN : ∀ q : Int, 0 ≤ q → q < e.1 7 2 → q ≠ r → hN e' q = hN e q := fun q q0 q1 hq => pa _ _ (by omega) (by omega) (by omega) (by omega) (by omega)
  have hD : ∀ q : Int, 0 ≤ q → q < e.1 7 2 → (Dead e' q ↔ Dead e q) := fun q q0 q1 => Dead.eq (pa _ _ (by omega) (by omega) (by omega) (by omega) (by omega))
  have fu : ∀ q u : Int, 0 ≤ q → q < e.1 7 2 → u ≠ 4 → (q ≠ r ∨ u ≠ 9) → e'.1 (7000 + q) u = e.1 (7000 + q) u := fun q u q0 q1 h4 h9 => pa _ _ (by omega) (by omega) (by omega) (by omega) (by omega)
  have hNle : ∀ q : Int, 0 ≤ q → q < e.1 7 2 → hN e' q ≤ hN e q := fun q q0 q1 => by
    by_cases c : q = r
    · rw [c, l3]; exact h8.2
    · rw [eN q q0 q1 c]; omega
  have hm : e'.1 16 7 = e.1 16 7 ∧ eT e' = eT e ∧ eB e' = eB e := ⟨pa _ _ (by omega) (by omega) (by omega) (by omega) (by omega), congrArg (fun z => z.1) x2, congrArg (fun z => z.2) x2⟩
  have hTn : 0 ≤ hT e' r := (cT_b _).1
  -- what the run's count of cuts comes to
  have hcut : bs e r < bs e' r ∨ (hN e' r = hN e r ∧ e'.1 (7000 + r) 9 = e.1 (7000 + r) 9) := by
    by_cases c : 0 < hN e r - e.1 (7000 + r) 8
    · rw [if_pos c] at x1
      refine Or.inl ?_
      unfold bs
      rw [x1]
      omega
    · rw [if_neg c] at x1
      exact Or.inr ⟨by rw [l3]; omega, x1⟩
  have hAR : ∀ q : Int, 0 ≤ q → q < e.1 7 2 → hN e' q = hN e q → AR (eH e q) (hN e q) (eH e' q) (hN e' q) := fun q q0 q1 hq => by
    rw [hq, eHH]
    exact AR.rf
  refine ⟨⟨fun j j0 j1 => ?_, fun j j0 j1 => ?_, fun p p0 p1' => ?_, fun j j0 j1 v hv => ?_, ?_⟩, k1.fr e7 (pa _ _ (by omega) (by omega) (by omega) (by omega) (by omega)) (pa _ _ (by omega) (by omega) (by omega) (by omega) (by omega)) (pa _ _ (by omega) (by omega) (by omega) (by omega) (by omega)) (fun q q0 q1 => (hD q q0 q1).mpr) fun q q0 q1 => ⟨hNle q q0 q1, fun p p0 p1 => ⟨by rw [eHH], pa _ _ (by omega) (by omega) (by omega) (by omega) (by omega)⟩⟩, fun q q0 q1 hDq => ?_, fun q q0 q1 h12 => ?_, ⟨fun k k0 k1' hDk => ?_, fun k k0 k1' => ?_⟩, fun q q0 q1 hDq j j0 j1 => ?_⟩
  · rw [e7] at j1
    obtain ⟨q1, q2, q3, q4, q5, q6, q7, q8⟩ := f1 j j0 j1
    have p4 : e'.1 (7000 + j) 4 = e.1 (7000 + j) 4 ∨ e'.1 (7000 + j) 4 = -1 := by
      have := l1 (7000 + j) 4 (by omega) (by omega) (by omega)
      rw [if_neg (by omega)] at this
      split at this
      · exact Or.inr this
      · exact Or.inl this
    have pv : e'.1 (48 + 4 * e.1 (7000 + j) 1 + 1) 2 = e.1 (48 + 4 * e.1 (7000 + j) 1 + 1) 2 := pa _ _ (by omega) (by omega) (by omega) (by omega) (by omega)
    unfold RunF
    rw [fu j 1 j0 j1 (by decide) (by omega), fu j 2 j0 j1 (by decide) (by omega), fu j 3 j0 j1 (by decide) (by omega), fu j 5 j0 j1 (by decide) (by omega), fu j 6 j0 j1 (by decide) (by omega), fu j 8 j0 j1 (by decide) (by omega), fu j 10 j0 j1 (by decide) (by omega), pv, e7, e9]
    refine ⟨q1, q2, q3, by omega, q5, q6, ⟨q7.1, ?_⟩, q8⟩
    by_cases c : j = r
    · rw [c, l3]; omega
    · rw [eN j j0 j1 c]; exact q7.2
  · rw [e7] at j1
    unfold TmF
    rw [l4 _ (by omega), l4 _ (by omega), hD j j0 j1]
    by_cases c : j = r
    · rw [if_pos (by omega), if_pos (by omega)]
      exact ⟨⟨rfl, fun v hv => absurd hv List.not_mem_nil, fun v hv => absurd hv List.not_mem_nil⟩, List.Pairwise.nil, fun g => absurd rfl g⟩
    · rw [if_neg (by omega), if_neg (by omega)]
      exact f2 j j0 j1
  · rw [e8] at p1'
    obtain ⟨q1, q2, q3⟩ := f3 p p0 p1'
    have e5 : e'.1 (8000 + p) 5 = if e.1 (8000 + p) 0 = r then 2 else e.1 (8000 + p) 5 := by
      rw [l1 _ _ (by omega) (by omega) (by omega)]
      by_cases c : e.1 (8000 + p) 0 = r
      · rw [if_pos ⟨by omega, rfl, c⟩, if_pos c]
      · rw [if_neg (fun hh => c hh.2.2), if_neg (by omega), if_neg c]
    have eo : ∀ u : Int, u ≠ 5 → e'.1 (8000 + p) u = e.1 (8000 + p) u := fun u hu => pa _ _ (by omega) (by omega) (by omega) (by omega) (by omega)
    unfold AcF WAs WAct
    unfold WAs WAct at q1
    rw [eo 0 (by decide), eo 1 (by decide), eo 2 (by decide), eo 3 (by decide), eo 4 (by decide), eo 6 (by decide), eo 7 (by decide), eo 8 (by decide), eo 9 (by decide), eo 10 (by decide), e5, e7, hD _ q2.1 q2.2]
    obtain ⟨⟨w1, w2, w3, w4, w5, w6⟩, w7, w8⟩ := q1
    refine ⟨⟨⟨w1, w2, w3, w4, by split <;> omega, w6⟩, w7, fun g => w8 (by split at g <;> omega)⟩, q2, fun g => q3 (by split at g <;> omega)⟩
  · rw [e7] at j1
    by_cases c : j = r
    · subst c
      rcases x3 v hv with g | ⟨q, q0, q1, q2⟩
      · exact f4 j j0 j1 v g
      · have hh := hI.1 q q0.1 q0.2
        have h4 := hh.2.1.2.2 q1
        have hy := hh.1.2.2.1
        have := ex_nn (E := eH e j) (i := q)
        have : 0 ≤ ey (eH e j q) := Int.natCast_nonneg _
        omega
    · rw [l4 _ (by omega), if_neg (by omega)] at hv
      exact f4 j j0 j1 v hv
  · unfold TgF
    rw [l4 _ (by omega), if_neg (by omega), e7, pa _ _ (by omega) (by omega) (by omega) (by omega) (by omega), pa _ _ (by omega) (by omega) (by omega) (by omega) (by omega)]
    exact f5
  · rw [e7] at q1
    have hk := k2 q q0 q1 fun g => hDq ((hD q q0 q1).mpr g)
    have hsame : hN e' q = hN e q → e'.1 (7000 + q) 9 = e.1 (7000 + q) 9 → KpR e' q := fun s1 s2 => KpR.ar (e := e) hk (hAR q q0 q1 s1) (hn q q0 q1) (fun u hu => by
      by_cases c9 : u = 9
      · rw [c9]; exact s2
      · exact fu q u q0 q1 (by omega) (by omega)) (fun v hv => by
      have ht := (f1 q q0 q1).1
      rw [l4 _ (by omega), if_neg (by omega)]) fun g => ⟨by rw [← hm.1]; exact g, hm.2⟩
    by_cases c : q = r
    · subst c
      rcases hcut with hlt | ⟨s1, s2⟩
      · intro h12
        rw [fu q 12 q0 q1 (by decide) (by omega)] at h12
        have := (hk h12).1
        rw [fu q 13 q0 q1 (by decide) (by omega)]
        exact ⟨by omega, fun g => by omega⟩
      · exact hsame s1 s2
    · exact hsame (eN q q0 q1 c) (fu q 9 q0 q1 (by decide) (by omega))
  · rw [e7] at q1
    have ht := (f1 q q0 q1).1
    rw [fu q 12 q0 q1 (by decide) (by omega)] at h12
    rw [fu q 13 q0 q1 (by decide) (by omega), fu q 1 q0 q1 (by decide) (by omega), pa _ _ (by omega) (by omega) (by omega) (by omega) (by omega)]
    exact k3 q q0 q1 h12
  · rw [e9] at k1'
    obtain ⟨q0, q1⟩ := k5 k k0 k1'
    have hk : ∀ u : Int, e'.1 (9000 + k) u = e.1 (9000 + k) u := fun u => pa _ _ (by omega) (by omega) (by omega) (by omega) (by omega)
    rw [hk 1] at hDk
    have hko := k4 k k0 k1' fun g => hDk ((hD _ q0 q1).mpr g)
    by_cases c : e.1 (9000 + k) 1 = r
    · rcases hcut with hlt | ⟨s1, s2⟩
      · rw [hk 1, hk 4, c]
        rw [c] at hko
        exact ⟨by omega, fun g => by omega⟩
      · exact TkO.ar hko (fun u _ => hk u) rfl (hAR _ q0 q1 (by rw [c]; exact s1)) (hn _ q0 q1) (by rw [c]; exact s2)
    · exact TkO.ar hko (fun u _ => hk u) rfl (hAR _ q0 q1 (eN _ q0 q1 c)) (hn _ q0 q1) (fu _ 9 q0 q1 (by decide) (by omega))
  · rw [e9] at k1'
    rw [pa (9000 + k) 1 (by omega) (by omega) (by omega) (by omega) (by omega), e7]
    exact k5 k k0 k1'
  · rw [e7] at q1
    rw [eHH]
    exact k6 q q0 q1 (fun g => hDq ((hD q q0 q1).mpr g)) j j0 (by have := hNle q q0 q1; omega)
end HHG
