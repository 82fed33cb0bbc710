/-! THE REFERENCE'S CALLS: setBack: its pieces. -/
section RXUB
variable {m m' M m1 m2 : MM} {e e' e2 D : ES} {a b c i j k o r v w p t s x y n q A B N u z fr y1 y2 T p1 p2 tn ver par pe : Int} {l L : List Int} {E : Int → Ev}
theorem rTask (h : RXE m e) (hc : CN e) (r0 : 0 ≤ r) (r1 : r < e.1 7 2) (hn : 0 ≤ hN e r ∧ hN e r < 524288) (hp : p2 < 2147483648) : fm_X12_taskAt r p2 m = some (taskN (pX e r) p2) := by
  have n7 := hc.1
  have k86 := (h.pr.1 r r0 r1).2.1.1
  have key : ∀ (d f : Nat) (i s : Int), (hN e r - i).toNat = d → d < f → 0 ≤ i → 0 ≤ s → s ≤ i → (0 ≤ p2 → s ≤ p2) → fl_X12_taskAt_5 r p2 m f (p2 - s) i = some (xTsk (pX e r) p2 d s i) := by
    intro d
    induction d with
    | zero =>
      intro f i s hd hf i0 s0 s1 s2
      obtain ⟨f, rfl⟩ : ∃ g, f = g + 1 := ⟨f - 1, by omega⟩
      unfold fl_X12_taskAt_5
      rw [gd_t (by omega), lx_p, k86, if_neg (by omega)]
      rfl
    | succ d ih =>
      intro f i s hd hf i0 s0 s1 s2
      obtain ⟨f, rfl⟩ : ∃ g, f = g + 1 := ⟨f - 1, by omega⟩
      have hi : i < hN e r := by omega
      unfold fl_X12_taskAt_5 xTsk
      rw [gd_t (by omega), lx_p, k86, if_pos hi, if_pos (show i < (pX e r).1 0 from hi)]
      by_cases cp : p2 < 0
      · rw [if_pos cp]
        have neg : ∀ (d : Nat) (s i : Int), 0 ≤ s → xTsk (pX e r) p2 d s i = -1 := by
          intro d
          induction d with
          | zero => intro s i _; rfl
          | succ d ih =>
            intro s i s0
            unfold xTsk
            split
            · split
              · rw [if_neg (by omega)]
                exact ih _ _ (by omega)
              · exact ih _ _ s0
            · rfl
        rw [neg d (s + 1) (i + 1) (by omega), neg d s (i + 1) s0, if_neg (show ¬ s = p2 by omega)]
        split <;> rfl
      · rw [if_neg cp, bp_t (h.kd r0 r1 i0 hi), show (pX e r).2.1 i = eH e r i from rfl]
        by_cases ck : ek (eH e r i) = 17
        · rw [if_pos ck, if_pos ck]
          by_cases cs : s = p2
          · rw [if_pos (by omega), if_pos cs]
          · rw [if_neg (by omega), if_neg cs, lx_p, w32_id (z := p2 - s + (-1)) (by omega) (by omega), lx_p, w32_id (z := i + 1) (by omega) (by omega), show p2 - s + (-1) = p2 - (s + 1) by omega]
            exact ih f (i + 1) (s + 1) (by omega) (by omega) (by omega) (by omega) (by omega) (by omega)
        · rw [if_neg ck, if_neg ck, lx_p, w32_id (z := i + 1) (by omega) (by omega)]
          exact ih f (i + 1) s (by omega) (by omega) (by omega) s0 (by omega) s2
  unfold fm_X12_taskAt taskN
  have := key (hN e r).toNat BIG 0 0 (by omega) (BIG_g (by omega)) (by omega) (by omega) (by omega) (fun h => h)
  rw [show p2 - 0 = p2 by omega] at this
  exact this
/-- what a history that goes on elsewhere shows -/
theorem first_at (h : RXE m D) (hc : CN D) (r0 : 0 ≤ r) (rk : r < k) (k1 : k < D.1 7 2) (hd : ¬ Dead D k) (h7k : M 87 k = r) (h8k : M 88 k = T) (h7 : ∀ j, j ≠ k → M 87 j = m 87 j) (h8 : ∀ j, j ≠ k → M 88 j = m 88 j) (h9 : ∀ j, M 96 j = m 96 j) : (∀ i : Int, 0 ≤ i → i < T → fm_X12_at k i M = fm_X12_at r i m) ∧ ∀ q : Int, 0 ≤ q → q < D.1 7 2 → q ≠ k → ∀ i : Int, 0 ≤ i → fm_X12_at q i M = fm_X12_at q i m := by
  have n7 := hc.1
  have hs2 : ∀ z : Int, 0 ≤ z → z < D.1 7 2 → 0 < m 88 z → (0 ≤ m 87 z ∧ m 87 z < z) ∧ m 87 z ≠ k := fun z z0 z1 z2 => by
    obtain ⟨g1, g2⟩ := h.sh z z0 z1 z2
    exact ⟨g1, fun hh => hd (by rw [← hh]; exact g2)⟩
  have no : ∀ q : Int, 0 ≤ q → q < D.1 7 2 → q ≠ k → ∀ i : Int, 0 ≤ i → fm_X12_at q i M = fm_X12_at q i m := fun q q0 q1 q2 i i0 => at_not hs2 h7 h8 h9 i0 q0 q1 q2
  refine ⟨fun i i0 i1 => ?_, no⟩
  have hsM : ∀ z : Int, 0 ≤ z → z < D.1 7 2 → 0 < M 88 z → 0 ≤ M 87 z ∧ M 87 z < z := fun z z0 z1 z2 => by
    by_cases cz : z = k
    · rw [cz, h7k]; exact ⟨r0, rk⟩
    · rw [h8 z cz] at z2
      rw [h7 z cz]
      exact (hs2 z z0 z1 z2).1
  rw [at_step (m := M) hsM i0 (by omega) k1 n7.2 (by omega) (by rw [h8k]; exact i1), h7k]
  exact no r r0 (by omega) (by omega) i i0
theorem RXE.first (h : RXE m D) (hc : CN D) (r0 : 0 ≤ r) (rk : r < k) (k1 : k < D.1 7 2) (hd : ¬ Dead D k) (hdr : Dead D r) (T0 : 0 ≤ T) (T1 : T ≤ hN D r) (h0 : hN D k = 0) (hkw : ∀ w : Int, 0 ≤ w → w < 3 → m 123 (30 * w + k) = 0) (fr : ∀ a j : Int, ¬ ((86 ≤ a ∧ a ≤ 91) ∧ j = k) → m' a j = m a j) (v86 : m' 86 k = T) (v87 : m' 87 k = r) (v88 : m' 88 k = T) (v89 : m' 89 k = cA (eH D r) T.toNat) (v90 : m' 90 k = cT (eH D r) T.toNat) (v91 : m' 91 k = cC (eH D r) T.toNat) : RXE m' (eW k r (pFstH k r T D)) := by
  have n7 := hc.1
  have fe : ∀ a u : Int, (a ≠ 71000 + k ∨ u ≠ 1) → a ≠ 76000 + k → (eW k r (pFstH k r T D)).1 a u = D.1 a u := fun a u g1 g2 => by
    rw [eW_a g2]
    unfold pFstH eS
    show mset D.1 (71000 + k) 1 T a u = _
    unfold mset
    rw [if_neg (by omega)]
  have fw : ∀ u, (eW k r (pFstH k r T D)).1 (76000 + k) u = D.1 (76000 + r) u := fun u => by
    have : (eW k r (pFstH k r T D)).1 (76000 + k) u = (pFstH k r T D).1 (76000 + r) u := if_pos rfl
    rw [this]
    exact eS_a (by omega)
  have hNk : hN (eW k r (pFstH k r T D)) k = T := by
    unfold hN
    rw [eW_a (by omega)]
    exact eS_e
  have eHk : eH (eW k r (pFstH k r T D)) k = eH D r := if_pos rfl
  have eHq : ∀ q, q ≠ k → eH (eW k r (pFstH k r T D)) q = eH D q := fun q hq => if_neg hq
  have eLs' : ∀ q, eL (eW k r (pFstH k r T D)) q = eL D q := fun q => rfl
  generalize eW k r (pFstH k r T D) = X at *
  have e7 : X.1 7 2 = D.1 7 2 := fe _ _ (by omega) (by omega)
  have hNq : ∀ q : Int, q ≠ k → 0 ≤ q → q < 1000 → hN X q = hN D q := fun q hq q0 q1 => fe _ _ (by omega) (by omega)
  have dd : ∀ q : Int, 0 ≤ q → q < 1000 → (Dead X q ↔ Dead D q) := fun q q0 q1 => by
    unfold Dead
    rw [fe _ _ (by omega) (by omega)]
  obtain ⟨cat1, cat2⟩ := first_at (M := m') (T := T) h hc r0 rk k1 hd v87 v88 (fun j hj => fr 87 j (by omega)) (fun j hj => fr 88 j (by omega)) (fun j => fr 96 j (by omega))
  refine h.chg hc (W := fun a => 86 ≤ a ∧ a ≤ 91) (U := fun j => j = 1000000) (V := fun a => a = 71000 + k ∨ a = 76000 + k) (fun a j g1 g2 g3 => fr a j (by omega)) (fun j g1 g2 => fr 68 j (by omega)) ⟨fun a j g => fe a j (by omega) (by omega), fun c _ => eLs' c, fun i g => eHq i (by omega)⟩ (by rw [fe _ _ (by omega) (by omega)]; omega) (fun q q0 q1 g => (dd q q0 (by omega)).mpr g) (by rw [fe _ _ (by omega) (by omega)]; omega) (Or.inl ⟨fun a g => by omega, fun a g => by omega, fun a g => by omega⟩) (Or.inl ⟨fun a g => by omega, fun a g => by omega, fun a g => by omega⟩) (Or.inl ⟨fun a g => by omega, fun a g => by omega, fun a g => by omega⟩) (Or.inr ?_) (Or.inl ⟨fun a g => by omega, fun a g => by omega, fun a g => by omega⟩) (Or.inl ⟨fun a g => by omega, fun a g => by omega, fun a g => by omega⟩) (Or.inl ⟨fun a g => by omega, fun a g => by omega, fun a g => by omega⟩) (Or.inr ?_) (Or.inl ⟨fun a g => by omega, fun a g => by omega, fun a g => by omega⟩) (Or.inl ⟨fun a g => by omega, fun a g => by omega, fun a g => by omega⟩) (Or.inr ?_) (Or.inr ?_) (Or.inl ⟨fun a g => by omega, fun a g => by omega, fun a g => by omega⟩)
  · obtain ⟨k1', k2⟩ := h.pr
    refine ⟨fun q q0 q1 => ?_, fun q q0 q1 => ?_⟩
    · rw [e7] at q1
      have kq := k1' q q0 q1
      by_cases cq : q = k
      · rw [cq] at kq q0 q1 ⊢
        obtain ⟨⟨a1, a2, a3, a4, a5, a6⟩, -, a11, a12, a13, a14⟩ := kq
        unfold RXr1 hA hT hC
        rw [hNk, eHk, fr 80 k (by omega), fr 81 k (by omega), fr 82 k (by omega), fr 83 k (by omega), fr 84 k (by omega), fr 85 k (by omega), fr 92 k (by omega), fr 93 k (by omega), fr 94 k (by omega), fr 138 k (by omega), fe (7000 + k) 1 (by omega) (by omega), fe (7000 + k) 2 (by omega) (by omega), fe (7000 + k) 3 (by omega) (by omega), fe (7000 + k) 6 (by omega) (by omega), fe (7000 + k) 4 (by omega) (by omega), fe (7000 + k) 5 (by omega) (by omega), fe (7000 + k) 8 (by omega) (by omega), fe (7000 + k) 9 (by omega) (by omega), fe (7000 + k) 7 (by omega) (by omega), fe (7000 + k) 11 (by omega) (by omega)]
        exact ⟨⟨a1, a2, a3, a4, a5, a6⟩, ⟨v86, v89, v90, v91⟩, a11, a12, a13, a14⟩
      · unfold RXr1 hA hT hC at kq ⊢
        rw [hNq q cq q0 (by omega), eHq q cq, fr 80 q (by omega), fr 81 q (by omega), fr 82 q (by omega), fr 83 q (by omega), fr 84 q (by omega), fr 85 q (by omega), fr 92 q (by omega), fr 94 q (by omega), fr 138 q (by omega), fr 86 q (by omega), fr 89 q (by omega), fr 90 q (by omega), fr 91 q (by omega), fr 93 q (by omega), fe (7000 + q) 1 (by omega) (by omega), fe (7000 + q) 2 (by omega) (by omega), fe (7000 + q) 3 (by omega) (by omega), fe (7000 + q) 6 (by omega) (by omega), fe (7000 + q) 4 (by omega) (by omega), fe (7000 + q) 5 (by omega) (by omega), fe (7000 + q) 8 (by omega) (by omega), fe (7000 + q) 7 (by omega) (by omega), fe (7000 + q) 11 (by omega) (by omega), fe (7000 + q) 9 (by omega) (by omega)]
        exact kq
    · rw [e7] at q0
      have kq := k2 q q0 q1
      unfold RXr0 at kq ⊢
      rw [fr 88 q (by omega), fr 89 q (by omega), fr 90 q (by omega), fr 91 q (by omega), fr 92 q (by omega), fr 93 q (by omega), fr 138 q (by omega)]
      exact kq
  · intro w w0 w1
    obtain ⟨k1', k2⟩ := h.pw w w0 w1
    refine ⟨fun q q0 q1 => ?_, fun q q0 q1 => by rw [fr 123 _ (by omega)]; exact k2 q (by rw [e7] at q0; exact q0) q1⟩
    rw [e7] at q1
    have kq := k1' q q0 q1
    unfold RXw1 at kq ⊢
    rw [fr 123 _ (by omega), fr 124 _ (by omega), fr 125 _ (by omega), fr 126 _ (by omega), fr 127 _ (by omega), fe (7000 + q) 12 (by omega) (by omega), fe (7000 + q) 13 (by omega) (by omega), fe (7000 + q) 14 (by omega) (by omega), fe (7000 + q) 15 (by omega) (by omega), fe (7000 + q) 9 (by omega) (by omega)]
    by_cases cq : q = k
    · rw [cq] at kq ⊢
      have z := hkw w w0 w1
      rw [z] at kq ⊢
      exact ⟨fun hh => absurd hh (by decide), fun hh => absurd (kq.2 hh).1 (by decide)⟩
    · have eT : hT X q = hT D q := by
        unfold hT
        rw [hNq q cq q0 (by omega), eHq q cq]
      rw [eT]
      exact kq
  · intro q q0 q1 i i0 i1
    rw [e7] at q1
    by_cases cq : q = k
    · rw [cq] at i1 ⊢
      rw [hNk] at i1
      obtain ⟨A, g1, g2, g3, g4, g5, g6⟩ := h.ph r r0 (by omega) i i0 (by omega)
      unfold RXh1
      rw [cat1 i i0 i1, fw, eHk]
      exact ⟨A, g1, g2, g3, g4, by rw [fr 95 A (by omega)]; exact g5, g6⟩
    · rw [hNq q cq q0 (by omega)] at i1
      obtain ⟨A, g1, g2, g3, g4, g5, g6⟩ := h.ph q q0 q1 i i0 i1
      unfold RXh1
      rw [cat2 q q0 q1 cq i i0, fe (76000 + q) i (by omega) (by omega), eHq q cq]
      exact ⟨A, g1, g2, g3, g4, by rw [fr 95 A (by omega)]; exact g5, g6⟩
  · obtain ⟨mx, ⟨p1, p2, p3⟩, p4, p5, p6, p7, p8⟩ := h.pp
    have bm := p1 k (by omega) (by omega)
    have p7k : ∀ q i : Int, 0 ≤ q → q < D.1 7 2 → 0 ≤ i → i < hN D q → ∃ o : Int, (0 ≤ o ∧ o < D.1 7 2) ∧ (o = q ∨ Dead D o) ∧ o ≠ k ∧ (0 ≤ i - m' 88 o ∧ i - m' 88 o < mx o) ∧ fm_X12_at q i m = some (256 * (m' 96 (2048 * o + (i - m' 88 o) / 256) - 1) + (i - m' 88 o) % 256) := fun q i q0 q1 i0 i1 => by
      obtain ⟨o, o1, o2, o3, o4⟩ := p7 q q0 q1 i i0 i1
      have ok : o ≠ k := fun hh => by
        rcases o2 with o2 | o2
        · rw [← o2, hh, h0] at i1
          omega
        · rw [hh] at o2
          exact hd o2
      refine ⟨o, o1, o2, ok, ?_, ?_⟩
      · rw [fr 88 o (by omega)]; exact o3
      · rw [fr 88 o (by omega), fr 96 _ (by omega)]; exact o4
    refine ⟨mx, ⟨by rw [e7]; exact p1, p2.of (fun j => fe _ _ (by omega) (by omega)) (fun q q0 q1 => ?_), by rw [fr 68 32 (by omega)]; exact p3⟩, fun q k q0 q1 k0 k1 => by rw [fr 68 32 (by omega), fr 96 _ (by omega)]; exact p4 q k q0 q1 k0 k1, fun s t s0 s1 s2 => by rw [fr 96 s (by omega), fr 96 t (by omega)]; exact p5 s t s0 s1 s2, fun q q0 q1 => ?_, fun q q0 q1 i i0 i1 => ?_, fun q q0 q1 h8 => ?_⟩
    · rw [e7] at q1
      by_cases cq : q = k
      · refine Or.inr ?_
        rw [cq, hNk, v88]
        exact Int.le_refl _
      · exact Or.inl ⟨q1, Int.le_of_eq (hNq q cq q0 (by omega)), fr 88 q (by omega)⟩
    · rw [e7] at q1
      by_cases cq : q = k
      · rw [cq, hNk, v88]
        omega
      · rw [hNq q cq q0 (by omega), fr 88 q (by omega)]
        exact p6 q q0 q1
    · rw [e7] at q1
      by_cases cq : q = k
      · rw [cq] at i1 ⊢
        rw [hNk] at i1
        obtain ⟨o, ⟨o0, o1⟩, o2, o3, o4, o5⟩ := p7k r i r0 (by omega) i0 (by omega)
        refine ⟨o, ⟨o0, by omega⟩, Or.inr ((dd o o0 (by omega)).mpr ?_), o4, by rw [cat1 i i0 i1]; exact o5⟩
        rcases o2 with o2 | o2
        · rw [o2]; exact hdr
        · exact o2
      · rw [hNq q cq q0 (by omega)] at i1
        obtain ⟨o, ⟨o0, o1⟩, o2, o3, o4, o5⟩ := p7k q i q0 q1 i0 i1
        exact ⟨o, ⟨o0, by omega⟩, o2.imp id (dd o o0 (by omega)).mpr, o4, by rw [cat2 q q0 q1 cq i i0]; exact o5⟩
    · rw [e7] at q1
      by_cases cq : q = k
      · rw [cq, v87]
        exact ⟨⟨r0, rk⟩, (dd r r0 (by omega)).mpr hdr⟩
      · rw [fr 88 q (by omega)] at h8
        obtain ⟨g1, g2⟩ := p8 q q0 q1 h8
        rw [fr 87 q (by omega)]
        exact ⟨g1, (dd _ g1.1 (by omega)).mpr g2⟩
theorem nrun_pt : (pNewRun t tn ver par pe e).1 a u = if a = 7 ∧ u = 2 then e.1 7 2 + 1 else if a = 71000 + e.1 7 2 ∧ u = 1 then 0 else if a = 7000 + e.1 7 2 then fRun (e.1 7 2) t tn ver par pe u else e.1 a u := rfl
/-- the class's order and the reference's -/
theorem sb_eq (hc : CN e) (r0 : 0 ≤ r) (r1 : r < e.1 7 2) (hn : e.1 7 2 < 30) (hpr : e.1 (7000 + r) 4 ≠ r) : eW (e.1 7 2) r (pFstH (e.1 7 2) r T (pNewRun (e.1 (7000 + r) 1) (e.1 (7000 + r) 2) (e.1 (7000 + r) 3) (e.1 (7000 + r) 4) (e.1 (7000 + r) 5) (pPar r 0 (pEnd r (eS e (7000 + r) 6 5))))) = pSb5 r T e := by
  have n7 := hc.1
  have n8 := hc.2.1
  obtain ⟨k, hk⟩ : ∃ k, k = e.1 7 2 := ⟨_, rfl⟩
  have hcA : CN (eS e (7000 + r) 6 5) := cn_eS hc (by omega)
  have hcB := hcA.endw (r := r)
  have A7 : (eS e (7000 + r) 6 5).1 7 2 = k := by rw [hk]; exact eS_a (by omega)
  have A8 : (eS e (7000 + r) 6 5).1 8 2 = e.1 8 2 := eS_a (by omega)
  obtain ⟨b1, b2, b3, b4⟩ := end_pt (r := r) hcA
  obtain ⟨c1, c2⟩ := par_pt (r := r) (fr := 0) hcB
  have B7 : (pEnd r (eS e (7000 + r) 6 5)).1 7 2 = k := by rw [end_a (by omega)]; exact A7
  have C7 : (pPar r 0 (pEnd r (eS e (7000 + r) 6 5))).1 7 2 = k := by rw [par_a (by omega)]; exact B7
  have hcN : CN (pNewRun (e.1 (7000 + r) 1) (e.1 (7000 + r) 2) (e.1 (7000 + r) 3) (e.1 (7000 + r) 4) (e.1 (7000 + r) 5) e) := hc.nrun hn
  have N7 : (pNewRun (e.1 (7000 + r) 1) (e.1 (7000 + r) 2) (e.1 (7000 + r) 3) (e.1 (7000 + r) 4) (e.1 (7000 + r) 5) e).1 7 2 = k + 1 := by rw [hk]; exact pNewRun_n
  have zp : ∀ a u : Int, (eW k r (pFstH k r T (pSb1 r e))).1 a u = if a = 76000 + k then (pSb1 r e).1 (76000 + r) u else if a = 71000 + k ∧ u = 1 then T else (pSb1 r e).1 a u := fun a u => by
    by_cases c : a = 76000 + k
    · rw [if_pos c, c]
      have : (eW k r (pFstH k r T (pSb1 r e))).1 (76000 + k) u = (pFstH k r T (pSb1 r e)).1 (76000 + r) u := if_pos rfl
      rw [this]
      exact eS_a (by omega)
    · rw [if_neg c, eW_a c]
      rfl
  have sp : ∀ a u : Int, (pSb1 r e).1 a u = if a = 7000 + r ∧ u = 6 then 5 else if a = 7 ∧ u = 2 then k + 1 else if a = 71000 + k ∧ u = 1 then 0 else if a = 7000 + k then fRun k (e.1 (7000 + r) 1) (e.1 (7000 + r) 2) (e.1 (7000 + r) 3) (e.1 (7000 + r) 4) (e.1 (7000 + r) 5) u else e.1 a u := fun a u => by
    rw [hk]
    rfl
  have hcZ : CN (eW k r (pFstH k r T (pSb1 r e))) := by
    refine hcN.of fun a ha => ?_
    rw [zp, if_neg (by omega), if_neg (by omega)]
    exact eS_a (by omega)
  have Z7 : (eW k r (pFstH k r T (pSb1 r e))).1 7 2 = k + 1 := by rw [zp, if_neg (by omega), if_neg (by omega), sp, if_neg (by omega), if_pos ⟨rfl, rfl⟩]
  have Z8 : (eW k r (pFstH k r T (pSb1 r e))).1 8 2 = e.1 8 2 := by rw [zp, if_neg (by omega), if_neg (by omega), sp, if_neg (by omega), if_neg (by omega), if_neg (by omega), if_neg (by omega)]
  obtain ⟨y1, y2, y3, y4⟩ := end_pt (r := r) hcZ
  obtain ⟨x1, x2⟩ := par_pt (r := r) (fr := 0) (hcZ.endw (r := r))
  have Y7 : (pEnd r (eW k r (pFstH k r T (pSb1 r e)))).1 7 2 = k + 1 := by rw [end_a (by omega)]; exact Z7
  have lp : ∀ a u : Int, (eW k r (pFstH k r T (pNewRun (e.1 (7000 + r) 1) (e.1 (7000 + r) 2) (e.1 (7000 + r) 3) (e.1 (7000 + r) 4) (e.1 (7000 + r) 5) (pPar r 0 (pEnd r (eS e (7000 + r) 6 5)))))).1 a u = if a = 76000 + k then (pPar r 0 (pEnd r (eS e (7000 + r) 6 5))).1 (76000 + r) u else if a = 71000 + k ∧ u = 1 then T else if a = 7 ∧ u = 2 then k + 1 else if a = 7000 + k then fRun k (e.1 (7000 + r) 1) (e.1 (7000 + r) 2) (e.1 (7000 + r) 3) (e.1 (7000 + r) 4) (e.1 (7000 + r) 5) u else (pPar r 0 (pEnd r (eS e (7000 + r) 6 5))).1 a u := fun a u => by
    by_cases c : a = 76000 + k
    · rw [if_pos c, c]
      have : (eW k r (pFstH k r T (pNewRun (e.1 (7000 + r) 1) (e.1 (7000 + r) 2) (e.1 (7000 + r) 3) (e.1 (7000 + r) 4) (e.1 (7000 + r) 5) (pPar r 0 (pEnd r (eS e (7000 + r) 6 5)))))).1 (76000 + k) u = (pFstH k r T (pNewRun (e.1 (7000 + r) 1) (e.1 (7000 + r) 2) (e.1 (7000 + r) 3) (e.1 (7000 + r) 4) (e.1 (7000 + r) 5) (pPar r 0 (pEnd r (eS e (7000 + r) 6 5))))).1 (76000 + r) u := if_pos rfl
      rw [this, show (pFstH k r T (pNewRun (e.1 (7000 + r) 1) (e.1 (7000 + r) 2) (e.1 (7000 + r) 3) (e.1 (7000 + r) 4) (e.1 (7000 + r) 5) (pPar r 0 (pEnd r (eS e (7000 + r) 6 5))))).1 (76000 + r) u = (pNewRun (e.1 (7000 + r) 1) (e.1 (7000 + r) 2) (e.1 (7000 + r) 3) (e.1 (7000 + r) 4) (e.1 (7000 + r) 5) (pPar r 0 (pEnd r (eS e (7000 + r) 6 5)))).1 (76000 + r) u from eS_a (by omega), nrun_pt, C7, if_neg (by omega), if_neg (by omega), if_neg (by omega)]
    · rw [if_neg c, eW_a c]
      by_cases cu : a = 71000 + k ∧ u = 1
      · rw [if_pos cu, cu.1, cu.2]
        exact eS_e
      · rw [if_neg cu]
        have : (pFstH k r T (pNewRun (e.1 (7000 + r) 1) (e.1 (7000 + r) 2) (e.1 (7000 + r) 3) (e.1 (7000 + r) 4) (e.1 (7000 + r) 5) (pPar r 0 (pEnd r (eS e (7000 + r) 6 5))))).1 a u = (pNewRun (e.1 (7000 + r) 1) (e.1 (7000 + r) 2) (e.1 (7000 + r) 3) (e.1 (7000 + r) 4) (e.1 (7000 + r) 5) (pPar r 0 (pEnd r (eS e (7000 + r) 6 5)))).1 a u := if_neg cu
        rw [this, nrun_pt, C7, if_neg cu]
  have pA : ∀ a u : Int, (eS e (7000 + r) 6 5).1 a u = if a = 7000 + r ∧ u = 6 then 5 else e.1 a u := fun a u => rfl
  rw [← hk]
  rw [← hk] at r1
  have dn : pSb5 r T e = pPar r 0 (pEnd r (eW k r (pFstH k r T (pSb1 r e)))) := by rw [hk]; rfl
  rw [dn]
  refine es_ext (fun a u => ?_) ?_ (fun c => ?_) ?_
  · rw [lp, x1, Y7]
    have Yr : ∀ a u : Int, (a < 8000 ∨ 9000 ≤ a) → (pEnd r (eW k r (pFstH k r T (pSb1 r e)))).1 a u = (eW k r (pFstH k r T (pSb1 r e))).1 a u := fun a u h => end_a (by rw [Z8]; omega)
    have Br : ∀ a u : Int, (a < 8000 ∨ 9000 ≤ a) → (pEnd r (eS e (7000 + r) 6 5)).1 a u = (eS e (7000 + r) 6 5).1 a u := fun a u h => end_a (by rw [A8]; omega)
    by_cases c7 : 7000 ≤ a ∧ a < 8000
    · have zz : ∀ u, (eW k r (pFstH k r T (pSb1 r e))).1 a u = (pSb1 r e).1 a u := fun u => by rw [zp, if_neg (by omega), if_neg (by omega)]
      rw [Yr a 4 (by omega), Yr a 5 (by omega), Yr a u (by omega), zz, zz, zz, if_neg (by omega), if_neg (by omega), if_neg (by omega)]
      by_cases ck : a = 7000 + k
      · have sk : ∀ u, (pSb1 r e).1 a u = fRun k (e.1 (7000 + r) 1) (e.1 (7000 + r) 2) (e.1 (7000 + r) 3) (e.1 (7000 + r) 4) (e.1 (7000 + r) 5) u := fun u => by rw [sp, if_neg (by omega), if_neg (by omega), if_neg (by omega), if_pos ck]
        rw [if_pos ck, sk, sk, sk, if_neg (fun hh => hpr hh.2.2.1)]
      · have so : ∀ u, (pSb1 r e).1 a u = (eS e (7000 + r) 6 5).1 a u := fun u => by
          rw [sp, pA]
          by_cases cr : a = 7000 + r ∧ u = 6
          · rw [if_pos cr, if_pos cr]
          · rw [if_neg cr, if_neg cr, if_neg (by omega), if_neg (by omega), if_neg ck]
        rw [if_neg ck, so, so, so, c1, B7, Br a 4 (by omega), Br a 5 (by omega), Br a u (by omega)]
        by_cases cc : (7000 ≤ a ∧ a < 7000 + k) ∧ u = 4 ∧ (eS e (7000 + r) 6 5).1 a 4 = r ∧ 0 ≤ (eS e (7000 + r) 6 5).1 a 5
        · rw [if_pos cc, if_pos ⟨by omega, cc.2⟩]
        · rw [if_neg cc, if_neg (fun hh => cc ⟨by omega, hh.2⟩)]
    · rw [if_neg (show ¬ ((7000 ≤ a ∧ a < 7000 + (k + 1)) ∧ u = 4 ∧ (pEnd r (eW k r (pFstH k r T (pSb1 r e)))).1 a 4 = r ∧ 0 ≤ (pEnd r (eW k r (pFstH k r T (pSb1 r e)))).1 a 5) from fun hh => by omega), y1, Z8]
      have cr : ∀ u, (pPar r 0 (pEnd r (eS e (7000 + r) 6 5))).1 a u = (pEnd r (eS e (7000 + r) 6 5)).1 a u := fun u => par_a (by rw [B7]; omega)
      by_cases c8 : 8000 ≤ a ∧ a < 9000
      · have zz : ∀ u, (eW k r (pFstH k r T (pSb1 r e))).1 a u = e.1 a u := fun u => by rw [zp, if_neg (by omega), if_neg (by omega), sp, if_neg (by omega), if_neg (by omega), if_neg (by omega), if_neg (by omega)]
        have aa : ∀ u, (eS e (7000 + r) 6 5).1 a u = e.1 a u := fun u => eS_a (by omega)
        rw [if_neg (by omega), if_neg (by omega), if_neg (by omega), if_neg (by omega), cr, b1, A8, zz, zz, aa, aa]
      · rw [if_neg (show ¬ ((8000 ≤ a ∧ a < 8000 + e.1 8 2) ∧ u = 5 ∧ (eW k r (pFstH k r T (pSb1 r e))).1 a 0 = r) from fun hh => by omega), zp]
        by_cases c76 : a = 76000 + k
        · rw [if_pos c76, if_pos c76, par_a (by rw [B7]; omega), Br _ _ (by omega), pA, if_neg (by omega), sp, if_neg (by omega), if_neg (by omega), if_neg (by omega), if_neg (by omega)]
        · rw [if_neg c76, if_neg c76]
          by_cases c71 : a = 71000 + k ∧ u = 1
          · rw [if_pos c71, if_pos c71]
          · rw [if_neg c71, if_neg c71, sp, if_neg (show ¬ (a = 7000 + r ∧ u = 6) by omega)]
            by_cases c72 : a = 7 ∧ u = 2
            · rw [if_pos c72, if_pos c72]
            · rw [if_neg c72, if_neg c72, if_neg (by omega), if_neg c71, if_neg (by omega), cr, Br a u (by omega), pA, if_neg (by omega)]
  · have l2 : (pPar r 0 (pEnd r (eS e (7000 + r) 6 5))).2.1 = e.2.1 := by rw [c2, b2]; rfl
    have r2 : (pPar r 0 (pEnd r (eW k r (pFstH k r T (pSb1 r e))))).2.1 = (eW k r (pFstH k r T (pSb1 r e))).2.1 := by rw [x2, y2]
    rw [r2]
    show (fun i => if i = k then (pPar r 0 (pEnd r (eS e (7000 + r) 6 5))).2.1 r else (pPar r 0 (pEnd r (eS e (7000 + r) 6 5))).2.1 i) = fun i => if i = k then e.2.1 r else e.2.1 i
    rw [l2]
  · have l2 : ∀ c, eL (pPar r 0 (pEnd r (eS e (7000 + r) 6 5))) c = if c = 73000 + r ∨ c = 74000 + r then [] else eL e c := fun c => by
      have : eL (pPar r 0 (pEnd r (eS e (7000 + r) 6 5))) c = eL (pEnd r (eS e (7000 + r) 6 5)) c := by unfold eL; rw [c2]
      rw [this, b4]
      rfl
    have r2 : eL (pPar r 0 (pEnd r (eW k r (pFstH k r T (pSb1 r e))))) c = if c = 73000 + r ∨ c = 74000 + r then [] else eL (eW k r (pFstH k r T (pSb1 r e))) c := by
      have : eL (pPar r 0 (pEnd r (eW k r (pFstH k r T (pSb1 r e))))) c = eL (pEnd r (eW k r (pFstH k r T (pSb1 r e)))) c := by unfold eL; rw [x2]
      rw [this, y4]
    have nl : ∀ X : ES, X.1 7 2 = k → ∀ c, eL (pNewRun (e.1 (7000 + r) 1) (e.1 (7000 + r) 2) (e.1 (7000 + r) 3) (e.1 (7000 + r) 4) (e.1 (7000 + r) 5) X) c = if c = 75000 + k then [] else if c = 74000 + k then [] else if c = 73000 + k then [] else eL X c := fun X hX c => by
      rw [← hX]
      rfl
    have lhs : eL (eW k r (pFstH k r T (pNewRun (e.1 (7000 + r) 1) (e.1 (7000 + r) 2) (e.1 (7000 + r) 3) (e.1 (7000 + r) 4) (e.1 (7000 + r) 5) (pPar r 0 (pEnd r (eS e (7000 + r) 6 5)))))) c = eL (pNewRun (e.1 (7000 + r) 1) (e.1 (7000 + r) 2) (e.1 (7000 + r) 3) (e.1 (7000 + r) 4) (e.1 (7000 + r) 5) (pPar r 0 (pEnd r (eS e (7000 + r) 6 5)))) c := rfl
    have rhs : eL (eW k r (pFstH k r T (pSb1 r e))) c = eL (pNewRun (e.1 (7000 + r) 1) (e.1 (7000 + r) 2) (e.1 (7000 + r) 3) (e.1 (7000 + r) 4) (e.1 (7000 + r) 5) e) c := rfl
    rw [lhs, r2, rhs, nl _ C7, nl e hk.symm, l2]
    by_cases g : c = 73000 + r ∨ c = 74000 + r
    · rw [if_pos g, if_pos g]
      split
      · rfl
      · split
        · rfl
        · split <;> rfl
    · rw [if_neg g, if_neg g]
  · have l2 : (pPar r 0 (pEnd r (eS e (7000 + r) 6 5))).2.2.2 = e.2.2.2 := by rw [c2, b3]; rfl
    have r2 : (pPar r 0 (pEnd r (eW k r (pFstH k r T (pSb1 r e))))).2.2.2 = (eW k r (pFstH k r T (pSb1 r e))).2.2.2 := by rw [x2, y3]
    rw [r2]
    exact l2
end RXUB
