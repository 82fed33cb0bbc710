/-! ALL THAT STANDS BETWEEN THE CALLS: set back, to its end. -/
section HHL
variable {e e' e1 e2 : ES} {W : Int → Int → Prop} {S D T S' D' T' a b c d i j k q r v w N M p y t o p1 p2 : Int} {n : Nat}
theorem fk_sb5 (h : FK e) (hn : HNN e) (hc : CN e) (r0 : 0 ≤ r) (r1 : r < e.1 7 2) (hd : ¬ Dead e r) (hlt : e.1 7 2 < 30) (N0 : 0 ≤ N) (N1 : N ≤ hN e r) : FK (pSb5 r N e) := by
  have n7 := hc.1
  have n8 := hc.2.1
  have n9 := hc.2.2.1
  obtain ⟨⟨f1, f2, f3, f4, f5⟩, ⟨⟨o1, o2, o3⟩, oB, oC, oD, oE⟩, k2, k3, ⟨k4, k5⟩, k6⟩ := h
  obtain ⟨pa, pk, ⟨p4, p4k⟩, ⟨p5, p6, p76, e7⟩, ⟨hNk, hHk, hHq⟩, pl, pm⟩ := sb5_pt (N := N) hc r0 r1 hlt
  generalize pSb5 r N e = e' at pa pk p4 p4k p5 p6 p76 e7 hNk hHk hHq pl pm ⊢
  have fu : ∀ q u : Int, 0 ≤ q → q < e.1 7 2 → u ≠ 4 → (q ≠ r ∨ u ≠ 6) → e'.1 (7000 + q) u = e.1 (7000 + q) u := fun q u q0 q1 h4 h6 => pa _ _ (by omega) (by omega) (by omega) (by omega) (by omega) (by omega) (by omega)
  have eN : ∀ q : Int, 0 ≤ q → q < e.1 7 2 → hN e' q = hN e q := fun q q0 q1 => pa _ _ (by omega) (by omega) (by omega) (by omega) (by omega) (by omega) (by omega)
  have e8 : e'.1 8 2 = e.1 8 2 := pa _ _ (by omega) (by omega) (by omega) (by omega) (by omega) (by omega) (by omega)
  have e9 : e'.1 9 2 = e.1 9 2 := pa _ _ (by omega) (by omega) (by omega) (by omega) (by omega) (by omega) (by omega)
  have hdr : Dead e' r := by
    unfold Dead
    rw [p6]
    decide
  have hD : ∀ q : Int, 0 ≤ q → q < e.1 7 2 → q ≠ r → (Dead e' q ↔ Dead e q) := fun q q0 q1 hq => Dead.eq (fu q 6 q0 q1 (by decide) (by omega))
  have hnr : ∀ q : Int, ¬ Dead e' q → q ≠ r := fun q g hq => g (by rw [hq]; exact hdr)
  have hv : ∀ t : Int, 0 ≤ t → t < 4 → e'.1 (48 + 4 * t + 1) 2 = e.1 (48 + 4 * t + 1) 2 := fun t t0 t1 => pa _ _ (by omega) (by omega) (by omega) (by omega) (by omega) (by omega) (by omega)
  have hAR : ∀ q : Int, 0 ≤ q → q < e.1 7 2 → AR (eH e q) (hN e q) (eH e' q) (hN e' q) := fun q q0 q1 => by
    rw [eN q q0 q1, hHq q (by omega)]
    exact AR.rf
  -- the copy stands where the run stood
  have hrep : ∀ i p : Int, isA e' i p → ¬ Dead e' i → ∃ i', isA e i' p ∧ ¬ Dead e i' ∧ oA e' i p = oA e i' p ∧ gA' e' i p = gA' e i' p ∧ ((i = e.1 7 2 ∧ i' = r) ∨ (i' = i ∧ i < e.1 7 2 ∧ i ≠ r)) := fun i p ⟨⟨i0, i1⟩, ⟨p0, p1⟩, hk⟩ hdi => by
    rw [e7] at i1
    by_cases ci : i = e.1 7 2
    · subst ci
      rw [hNk] at p1
      rw [hHk] at hk
      refine ⟨r, ⟨⟨r0, r1⟩, ⟨p0, by omega⟩, hk⟩, hd, ?_, ?_, Or.inl ⟨rfl, rfl⟩⟩
      · unfold oA; rw [hHk]
      · unfold gA'; rw [p76]
    · have i1' : i < e.1 7 2 := by omega
      have hir := hnr i hdi
      rw [eN i i0 i1'] at p1
      rw [hHq i ci] at hk
      refine ⟨i, ⟨⟨i0, i1'⟩, ⟨p0, p1⟩, hk⟩, fun g => hdi ((hD i i0 i1' hir).mpr g), ?_, ?_, Or.inr ⟨rfl, i1', hir⟩⟩
      · unfold oA; rw [hHq i ci]
      · unfold gA'
        rw [pa _ _ (by omega) (by omega) (by omega) (by omega) (by omega) (by omega) (by omega)]
  have e416 : e'.1 4 16 = e.1 4 16 := pa _ _ (by omega) (by omega) (by omega) (by omega) (by omega) (by omega) (by omega)
  have e29 : e'.1 68 29 = e.1 68 29 := pa _ _ (by omega) (by omega) (by omega) (by omega) (by omega) (by omega) (by omega)
  have e30 : e'.1 68 30 = e.1 68 30 := pa _ _ (by omega) (by omega) (by omega) (by omega) (by omega) (by omega) (by omega)
  have hm : e'.1 16 7 = e.1 16 7 ∧ eT e' = eT e ∧ eB e' = eB e := ⟨pa _ _ (by omega) (by omega) (by omega) (by omega) (by omega) (by omega) (by omega), congrArg (fun z => z.1) pm, congrArg (fun z => z.2) pm⟩
  refine ⟨⟨fun j j0 j1 => ?_, fun j j0 j1 => ?_, fun p p0 p1' => ?_, fun j j0 j1 => ?_, ?_⟩, ⟨⟨by omega, by omega, by omega⟩, fun q p ha => ?_, fun i j p q hij hi hj hp hq => ?_, fun h0 hd0 j q hj hdj hq => ?_, fun q q0 q1 => ?_⟩, fun q q0 q1 hDq => ?_, fun q q0 q1 h12 => ?_, ⟨fun k k0 k1' hDk => ?_, fun k k0 k1' => ?_⟩, fun q q0 q1 hDq j j0 j1 => ?_⟩
  · rw [e7] at j1
    by_cases cj : j = e.1 7 2
    · subst cj
      obtain ⟨q1, q2, q3, q4, q5, q6, q7, q8⟩ := f1 r r0 r1
      have g1 : e'.1 (7000 + e.1 7 2) 1 = e.1 (7000 + r) 1 := pk 1 (by decide)
      have g2 : e'.1 (7000 + e.1 7 2) 2 = e.1 (7000 + r) 2 := pk 2 (by decide)
      have g3 : e'.1 (7000 + e.1 7 2) 3 = e.1 (7000 + r) 3 := pk 3 (by decide)
      have g5 : e'.1 (7000 + e.1 7 2) 5 = e.1 (7000 + r) 5 := pk 5 (by decide)
      have g6 : e'.1 (7000 + e.1 7 2) 6 = 0 := pk 6 (by decide)
      have g8 : e'.1 (7000 + e.1 7 2) 8 = 0 := pk 8 (by decide)
      have g10 : e'.1 (7000 + e.1 7 2) 10 = -1 := pk 10 (by decide)
      unfold RunF
      rw [g1, g2, g3, g5, g6, g8, g10, hv _ q1.1 q1.2, hNk, e7, e9]
      exact ⟨q1, q2, q3, by omega, q5, by omega, by omega, by omega⟩
    · have j1' : j < e.1 7 2 := by omega
      obtain ⟨q1, q2, q3, q4, q5, q6, q7, q8⟩ := f1 j j0 j1'
      have g4 := p4 j j0 j1'
      unfold RunF
      rw [fu j 1 j0 j1' (by decide) (by omega), fu j 2 j0 j1' (by decide) (by omega), fu j 3 j0 j1' (by decide) (by omega), fu j 5 j0 j1' (by decide) (by omega), fu j 8 j0 j1' (by decide) (by omega), fu j 10 j0 j1' (by decide) (by omega), hv _ q1.1 q1.2, e7, e9, eN j j0 j1']
      refine ⟨q1, q2, q3, by omega, q5, ?_, q7, q8⟩
      by_cases cr : j = r
      · rw [cr, p6]; decide
      · rw [fu j 6 j0 j1' (by decide) (by omega)]; exact q6
  · rw [e7] at j1
    unfold TmF
    rw [pl, pl]
    by_cases cj : j = r ∨ j = e.1 7 2
    · rw [if_pos (by omega), if_pos (by omega)]
      exact ⟨⟨rfl, fun v hv => absurd hv List.not_mem_nil, fun v hv => absurd hv List.not_mem_nil⟩, List.Pairwise.nil, fun g => absurd rfl g⟩
    · rw [if_neg (by omega), if_neg (by omega), hD j j0 (by omega) (by omega)]
      exact f2 j j0 (by omega)
  · rw [e8] at p1'
    obtain ⟨q1, q2, q3⟩ := f3 p p0 p1'
    have eo : ∀ u : Int, u ≠ 5 → e'.1 (8000 + p) u = e.1 (8000 + p) u := fun u hu => pa _ _ (by omega) (by omega) (by omega) (by omega) (by omega) (by omega) (by omega)
    unfold AcF WAs WAct
    unfold WAs WAct at q1
    rw [eo 0 (by decide), eo 1 (by decide), eo 2 (by decide), eo 3 (by decide), eo 4 (by decide), eo 6 (by decide), eo 7 (by decide), eo 8 (by decide), eo 9 (by decide), eo 10 (by decide), p5 p p0 p1', e7]
    obtain ⟨⟨w1, w2, w3, w4, w5, w6⟩, w7, w8⟩ := q1
    refine ⟨⟨⟨w1, w2, w3, w4, by split <;> omega, w6⟩, w7, fun g => w8 (by split at g <;> omega)⟩, by omega, fun g => ?_⟩
    by_cases c : e.1 (8000 + p) 0 = r
    · rw [if_pos c] at g
      exact absurd rfl g
    · rw [if_neg c] at g
      rw [hD _ q2.1 q2.2 c]
      exact q3 g
  · rw [e7] at j1
    rw [pl]
    by_cases cj : j = e.1 7 2
    · rw [if_pos (by omega)]
      intro v hv
      exact absurd hv List.not_mem_nil
    · rw [if_neg (by omega)]
      exact f4 j j0 (by omega)
  · obtain ⟨g1, g2, g3⟩ := f5
    unfold TgF
    rw [pl, if_neg (by omega), e7, pa 4 11 (by omega) (by omega) (by omega) (by omega) (by omega) (by omega) (by omega), pa 4 12 (by omega) (by omega) (by omega) (by omega) (by omega) (by omega) (by omega)]
    exact ⟨g1, g2, fun v hv => by have := g3 v hv; omega⟩
  · -- bounds of orders: of dead runs too
    obtain ⟨⟨i0, i1⟩, ⟨u0, u1⟩, hk⟩ := ha
    rw [e7] at i1
    rw [e416, e29]
    by_cases cq : q = e.1 7 2
    · subst cq
      rw [hNk] at u1
      rw [hHk] at hk
      have := oB r p ⟨⟨r0, r1⟩, ⟨u0, by omega⟩, hk⟩
      unfold oA gA' at this ⊢
      rw [hHk, p76]
      exact this
    · rw [eN q i0 (by omega)] at u1
      rw [hHq q cq] at hk
      have := oB q p ⟨⟨i0, by omega⟩, ⟨u0, u1⟩, hk⟩
      unfold oA gA' at this ⊢
      rw [hHq q cq, pa _ _ (by omega) (by omega) (by omega) (by omega) (by omega) (by omega) (by omega)]
      exact this
  · obtain ⟨i', a1, a2, a3, a4, a5⟩ := hrep i p hp hi
    obtain ⟨j', b1, b2, b3, b4, b5⟩ := hrep j q hq hj
    rw [a3, a4, b3, b4]
    exact oC i' j' p q (by omega) a2 b2 a1 b1
  · obtain ⟨j', b1, b2, b3, b4, b5⟩ := hrep j q hq hdj
    rw [e30] at h0 hd0 hj
    rw [b4, e29]
    have hsr := hnr _ hd0
    exact oD h0 (fun g => hd0 ((hD _ h0 o3 hsr).mpr g)) j' q (by omega) b2 b1
  · rw [e7] at q1
    intro u u0 u1 hk
    by_cases cq : q = e.1 7 2
    · subst cq
      rw [hNk] at u1
      rw [hHk] at hk ⊢
      rw [p76]
      exact oE r r0 r1 u u0 (by omega) hk
    · rw [eN q q0 (by omega)] at u1
      rw [hHq q cq] at hk ⊢
      rw [pa _ _ (by omega) (by omega) (by omega) (by omega) (by omega) (by omega) (by omega)]
      exact oE q q0 (by omega) u u0 u1 hk
  · rw [e7] at q1
    by_cases cq : q = e.1 7 2
    · subst cq
      intro h12
      have : e'.1 (7000 + e.1 7 2) 12 = -1 := pk 12 (by decide)
      omega
    · have q1' : q < e.1 7 2 := by omega
      have hqr := hnr q hDq
      have ht := (f1 q q0 q1').1
      exact KpR.ar (e := e) (k2 q q0 q1' fun g => hDq ((hD q q0 q1' hqr).mpr g)) (hAR q q0 q1') (hn q q0 q1') (fun u hu => fu q u q0 q1' (by omega) (by omega)) (fun v hv => by rw [pl, if_neg (by omega)]) fun g => ⟨by rw [← hm.1]; exact g, hm.2⟩
  · rw [e7] at q1
    by_cases cq : q = e.1 7 2
    · subst cq
      have : e'.1 (7000 + e.1 7 2) 12 = -1 := pk 12 (by decide)
      omega
    · have q1' : q < e.1 7 2 := by omega
      have ht := (f1 q q0 q1').1
      rw [fu q 12 q0 q1' (by decide) (by omega)] at h12
      rw [fu q 13 q0 q1' (by decide) (by omega), fu q 1 q0 q1' (by decide) (by omega), hv _ ht.1 ht.2]
      exact k3 q q0 q1' h12
  · rw [e9] at k1'
    obtain ⟨q0, q1⟩ := k5 k k0 k1'
    have hk : ∀ u : Int, e'.1 (9000 + k) u = e.1 (9000 + k) u := fun u => pa _ _ (by omega) (by omega) (by omega) (by omega) (by omega) (by omega) (by omega)
    rw [hk 1] at hDk
    have hqr := hnr _ hDk
    exact TkO.ar (k4 k k0 k1' fun g => hDk ((hD _ q0 q1 hqr).mpr g)) (fun u _ => hk u) rfl (hAR _ q0 q1) (hn _ q0 q1) (fu _ 9 q0 q1 (by decide) (by omega))
  · rw [e9] at k1'
    have := k5 k k0 k1'
    rw [pa (9000 + k) 1 (by omega) (by omega) (by omega) (by omega) (by omega) (by omega) (by omega), e7]
    omega
  · rw [e7] at q1
    by_cases cq : q = e.1 7 2
    · subst cq
      rw [hNk] at j1
      rw [hHk]
      exact k6 r r0 r1 hd j j0 (by omega)
    · have q1' : q < e.1 7 2 := by omega
      rw [eN q q0 q1'] at j1
      rw [hHq q cq]
      exact k6 q q0 q1' (fun g => hDq ((hD q q0 q1' (hnr q hDq)).mpr g)) j j0 j1
theorem hh_setBack (h : HH S D T e) (ht : 0 ≤ e.1 4 14 ∧ e.1 4 14 < 1000000) : HH S D T (pcSetBack p1 p2 e).2 := by
  refine ⟨ph_setBack h.1, ?_⟩
  have n7 := h.cn.1
  unfold pcSetBack
  by_cases c1 : 0 ≤ p1 ∧ p1 < e.1 7 2
  · rw [if_pos c1]
    by_cases c2 : taskN (pX e p1) p2 < 0
    · rw [if_pos c2]
      exact h.thr.fk
    · rw [if_neg c2]
      by_cases c3 : e.1 (7000 + p1) 6 = 0 ∨ e.1 (7000 + p1) 6 = 6
      · rw [if_pos c3]
        by_cases c4 : e.1 7 2 < 30
        · rw [if_pos c4]
          obtain ⟨⟨g1, g2⟩, g3⟩ := xTsk_k (x := pX e p1) (v := p2) _ 0 0 (Int.le_refl _) (show 0 ≤ taskN (pX e p1) p2 by omega)
          have hk : ek (eH e p1 (taskN (pX e p1) p2)) = 17 := g3
          have hl : lcm (eH e p1) (taskN (pX e p1) p2 + 1) = 0 := by
            unfold lcm
            rw [show taskN (pX e p1) p2 + 1 - 1 = taskN (pX e p1) p2 by omega, hk, if_neg (by omega)]
          have hltn : taskN (pX e p1) p2 < hN e p1 := g2
          have hd := al_nd.mp c3
          have hN0 : 0 < taskN (pX e p1) p2 + 1 ∧ taskN (pX e p1) p2 + 1 ≤ hN e p1 := by omega
          dsimp only
          generalize taskN (pX e p1) p2 + 1 = N at *
          obtain ⟨a1, a2, a3⟩ := h.1.1.sb5 (N := N) nWt_n h.1.2 c1.1 c1.2 hd c4 (by omega) (by omega) hl
          have hF := fk_sb5 (N := N) h.fk h.hn h.cn c1.1 c1.2 hd c4 (by omega) (by omega)
          obtain ⟨pa, pk, -, ⟨-, -, -, e7⟩, -⟩ := sb5_pt (N := N) h.cn c1.1 c1.2 c4
          have g14 : (pSb5 p1 N e).1 4 14 = e.1 4 14 := pa _ _ (by omega) (by omega) (by omega) (by omega) (by omega) (by omega) (by omega)
          have hdk : ¬ Dead (pSb5 p1 N e) (e.1 7 2) := fun d => d.1 (pk 6 (by decide))
          obtain ⟨u1, u2, u3⟩ := gc_rest a1 nWt_n a2 hF.1 hF.2.1 (by rw [g14]; exact ht) n7.1 (by omega) hdk a3
          have hF2 : FK (pRest (e.1 7 2) (pSb5 p1 N e)) := ⟨u2, hF.2.ex u1.1.1 a1.hnn a1.cn hF.1.1 u3⟩
          have g := gc_snd (Z := nZ) (q := p1) (N := N) n7.1 u1.2 (u1.hk a1.hnn) (show e.1 7 2 < (pRest (e.1 7 2) (pSb5 p1 N e)).1 7 2 by have := u1.n7; omega)
          exact hF2.gc (u1.hk a1.hnn) u1.2 g
        · rw [if_neg c4]
          exact h.thr.fk
      · rw [if_neg c3]
        exact h.thr.fk
  · rw [if_neg c1]
    exact h.thr.fk
end HHL
