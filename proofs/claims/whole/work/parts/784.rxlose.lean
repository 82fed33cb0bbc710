/-! THE REFERENCE'S CALLS: a history is cut. -/
section RXU9
variable {m m' M m1 m2 : MM} {e e' e2 : ES} {a b c i j k o r v w p t s x y n q A B N u z fr y1 y2 : Int} {l L : List Int} {E : Int → Ev}
theorem cut_at (h : RXE m e) (hc : CN e) (r0 : 0 ≤ r) (r1 : r < e.1 7 2) (hd : ¬ Dead e r) (h7 : ∀ j, M 87 j = m 87 j) (h8 : ∀ j, j ≠ r → M 88 j = m 88 j) (h8r : M 88 r = if m 88 r < n then m 88 r else n) (h9 : ∀ j, M 96 j = m 96 j) : (∀ i : Int, 0 ≤ i → i < n → fm_X12_at r i M = fm_X12_at r i m) ∧ ∀ q : Int, 0 ≤ q → q < e.1 7 2 → q ≠ r → ∀ i : Int, 0 ≤ i → fm_X12_at q i M = fm_X12_at q i m := by
  have n7 := hc.1
  have hs := h.sh
  have hs2 : ∀ z : Int, 0 ≤ z → z < e.1 7 2 → 0 < m 88 z → (0 ≤ m 87 z ∧ m 87 z < z) ∧ m 87 z ≠ r := fun z z0 z1 z2 => by
    obtain ⟨g1, g2⟩ := hs z z0 z1 z2
    exact ⟨g1, fun hh => hd (by rw [← hh]; exact g2)⟩
  have no : ∀ q : Int, 0 ≤ q → q < e.1 7 2 → q ≠ r → ∀ i : Int, 0 ≤ i → fm_X12_at q i M = fm_X12_at q i m := fun q q0 q1 q2 i i0 => at_not hs2 (fun j _ => h7 j) h8 h9 i0 q0 q1 q2
  refine ⟨fun i i0 i1 => ?_, no⟩
  by_cases c : m 88 r < n
  · rw [if_pos c] at h8r
    have a8 : ∀ j, M 88 j = m 88 j := fun j => by
      by_cases cj : j = r
      · rw [cj]; exact h8r
      · exact h8 j cj
    exact at_fr a8 h7 h9
  · rw [if_neg c] at h8r
    obtain ⟨⟨g1, g2⟩, g3⟩ := hs2 r r0 r1 (by omega)
    have hsM : ∀ z : Int, 0 ≤ z → z < e.1 7 2 → 0 < M 88 z → 0 ≤ M 87 z ∧ M 87 z < z := fun z z0 z1 z2 => by
      rw [h7]
      by_cases cz : z = r
      · rw [cz]; exact ⟨g1, g2⟩
      · rw [h8 z cz] at z2
        exact (hs2 z z0 z1 z2).1
    rw [at_step (m := M) hsM i0 r0 r1 n7.2 (by omega) (by rw [h8r]; exact i1), at_step (m := m) (fun z z0 z1 z2 => (hs2 z z0 z1 z2).1) i0 r0 r1 n7.2 (by omega) (by omega), h7]
    exact no _ g1 (by omega) g3 i i0
theorem RXE.cut (h : RXE m e) (hc : CN e) (r0 : 0 ≤ r) (r1 : r < e.1 7 2) (hd : ¬ Dead e r) (n0 : 0 ≤ n) (n1 : n ≤ hN e r) (h9 : c = if n < hN e r then e.1 (7000 + r) 9 + 1 else e.1 (7000 + r) 9) (fr : ∀ a j : Int, ¬ ((a = 86 ∨ (88 ≤ a ∧ a ≤ 91) ∨ a = 93) ∧ j = r) → m' a j = m a j) (v86 : m' 86 r = n) (v88 : m' 88 r = if m 88 r < n then m 88 r else n) (v89 : m' 89 r = cA (eH e r) n.toNat) (v90 : m' 90 r = cT (eH e r) n.toNat) (v91 : m' 91 r = cC (eH e r) n.toNat) (v93 : m' 93 r = c) : RXE m' (eS (pCutH r n e) (7000 + r) 9 c) := by
  have n7 := hc.1
  have fe : ∀ a u : Int, (a ≠ 71000 + r ∨ u ≠ 1) → (a ≠ 7000 + r ∨ u ≠ 9) → (eS (pCutH r n e) (7000 + r) 9 c).1 a u = e.1 a u := fun a u g1 g2 => by
    unfold pCutH eS
    dsimp only
    unfold mset
    rw [if_neg (by omega), if_neg (by omega)]
  have hNr : hN (eS (pCutH r n e) (7000 + r) 9 c) r = n := by
    unfold hN
    rw [eS_a (by omega)]
    exact eS_e
  have e9 : (eS (pCutH r n e) (7000 + r) 9 c).1 (7000 + r) 9 = c := eS_e
  have eHs' : ∀ q, eH (eS (pCutH r n e) (7000 + r) 9 c) q = eH e q := fun q => rfl
  have eLs' : ∀ q, eL (eS (pCutH r n e) (7000 + r) 9 c) q = eL e q := fun q => rfl
  generalize eS (pCutH r n e) (7000 + r) 9 c = X at *
  have e7 : X.1 7 2 = e.1 7 2 := fe _ _ (by omega) (by omega)
  have hNq : ∀ q : Int, q ≠ r → 0 ≤ q → q < 1000 → hN X q = hN e q := fun q hq q0 q1 => fe _ _ (by omega) (by omega)
  have dd : ∀ q : Int, 0 ≤ q → q < 1000 → (Dead X q ↔ Dead e q) := fun q q0 q1 => by
    unfold Dead
    rw [fe _ _ (by omega) (by omega)]
  obtain ⟨cat1, cat2⟩ := cut_at (M := m') (n := n) h hc r0 r1 hd (fun j => fr 87 j (by omega)) (fun j hj => fr 88 j (by omega)) v88 (fun j => fr 96 j (by omega))
  have cat : ∀ q i : Int, 0 ≤ q → q < e.1 7 2 → 0 ≤ i → i < hN X q → fm_X12_at q i m' = fm_X12_at q i m ∧ i < hN e q := fun q i q0 q1 i0 i1 => by
    by_cases cq : q = r
    · rw [cq] at i1 ⊢
      rw [hNr] at i1
      exact ⟨cat1 i i0 i1, by omega⟩
    · rw [hNq q cq q0 (by omega)] at i1
      exact ⟨cat2 q q0 q1 cq i i0, i1⟩
  refine h.chg hc (W := fun a => a = 86 ∨ (88 ≤ a ∧ a ≤ 91) ∨ a = 93) (U := fun j => j = 1000000) (V := fun a => a = 71000 + r ∨ a = 7000 + r) (fun a j g1 g2 g3 => fr a j (by omega)) (fun j g1 g2 => fr 68 j (by omega)) ⟨fun a j g => fe a j (by omega) (by omega), fun c _ => eLs' c, fun i _ => eHs' i⟩ (by rw [fe _ _ (by omega) (by omega)]; omega) (fun q q0 q1 g => (dd q q0 (by omega)).mpr g) (by rw [fe _ _ (by omega) (by omega)]; omega) (Or.inl ⟨fun a g => by omega, fun a g => by omega, fun a g => by omega⟩) (Or.inl ⟨fun a g => by omega, fun a g => by omega, fun a g => by omega⟩) (Or.inl ⟨fun a g => by omega, fun a g => by omega, fun a g => by omega⟩) (Or.inr ?_) (Or.inl ⟨fun a g => by omega, fun a g => by omega, fun a g => by omega⟩) (Or.inl ⟨fun a g => by omega, fun a g => by omega, fun a g => by omega⟩) (Or.inl ⟨fun a g => by omega, fun a g => by omega, fun a g => by omega⟩) (Or.inr ?_) (Or.inl ⟨fun a g => by omega, fun a g => by omega, fun a g => by omega⟩) (Or.inl ⟨fun a g => by omega, fun a g => by omega, fun a g => by omega⟩) (Or.inr ?_) (Or.inr ?_) (Or.inl ⟨fun a g => by omega, fun a g => by omega, fun a g => by omega⟩)
  · obtain ⟨k1, k2⟩ := h.pr
    refine ⟨fun q q0 q1 => ?_, fun q q0 q1 => ?_⟩
    · rw [e7] at q1
      have kq := k1 q q0 q1
      by_cases cq : q = r
      · subst cq
        obtain ⟨⟨a1, a2, a3, a4, a5, a6⟩, -, a11, -, a13, a14⟩ := kq
        unfold RXr1 hA hT hC
        rw [hNr, eHs', e9, fr 80 q (by omega), fr 81 q (by omega), fr 82 q (by omega), fr 83 q (by omega), fr 84 q (by omega), fr 85 q (by omega), fr 92 q (by omega), fr 94 q (by omega), fr 138 q (by omega), fe (7000 + q) 1 (by omega) (by omega), fe (7000 + q) 2 (by omega) (by omega), fe (7000 + q) 3 (by omega) (by omega), fe (7000 + q) 6 (by omega) (by omega), fe (7000 + q) 4 (by omega) (by omega), fe (7000 + q) 5 (by omega) (by omega), fe (7000 + q) 8 (by omega) (by omega), fe (7000 + q) 7 (by omega) (by omega), fe (7000 + q) 11 (by omega) (by omega)]
        exact ⟨⟨a1, a2, a3, a4, a5, a6⟩, ⟨v86, v89, v90, v91⟩, a11, v93, a13, a14⟩
      · unfold RXr1 hA hT hC at kq ⊢
        rw [hNq q cq q0 (by omega), eHs', fr 80 q (by omega), fr 81 q (by omega), fr 82 q (by omega), fr 83 q (by omega), fr 84 q (by omega), fr 85 q (by omega), fr 92 q (by omega), fr 94 q (by omega), fr 138 q (by omega), fr 86 q (by omega), fr 89 q (by omega), fr 90 q (by omega), fr 91 q (by omega), fr 93 q (by omega), fe (7000 + q) 1 (by omega) (by omega), fe (7000 + q) 2 (by omega) (by omega), fe (7000 + q) 3 (by omega) (by omega), fe (7000 + q) 6 (by omega) (by omega), fe (7000 + q) 4 (by omega) (by omega), fe (7000 + q) 5 (by omega) (by omega), fe (7000 + q) 8 (by omega) (by omega), fe (7000 + q) 7 (by omega) (by omega), fe (7000 + q) 11 (by omega) (by omega), fe (7000 + q) 9 (by omega) (by omega)]
        exact kq
    · rw [e7] at q0
      have kq := k2 q q0 q1
      unfold RXr0 at kq ⊢
      rw [fr 88 q (by omega), fr 89 q (by omega), fr 90 q (by omega), fr 91 q (by omega), fr 92 q (by omega), fr 93 q (by omega), fr 138 q (by omega)]
      exact kq
  · intro w w0 w1
    obtain ⟨k1, k2⟩ := h.pw w w0 w1
    refine ⟨fun q q0 q1 => ?_, fun q q0 q1 => by rw [fr 123 _ (by omega)]; exact k2 q (by rw [e7] at q0; exact q0) q1⟩
    rw [e7] at q1
    have kq := k1 q q0 q1
    unfold RXw1 at kq ⊢
    rw [fr 123 _ (by omega), fr 124 _ (by omega), fr 125 _ (by omega), fr 126 _ (by omega), fr 127 _ (by omega), fe (7000 + q) 12 (by omega) (by omega), fe (7000 + q) 13 (by omega) (by omega), fe (7000 + q) 14 (by omega) (by omega), fe (7000 + q) 15 (by omega) (by omega)]
    by_cases cq : q = r
    · subst cq
      rw [e9]
      refine ⟨fun hh => ?_, kq.2⟩
      obtain ⟨g1, g2, g3⟩ := kq.1 hh
      by_cases cn : n < hN e q
      · rw [if_pos cn] at h9
        exact ⟨by omega, fun h2 => by omega, fun _ h2 => by omega⟩
      · rw [if_neg cn] at h9
        have eT : hT X q = hT e q := by
          unfold hT
          rw [hNr, eHs', show n = hN e q by omega]
        rw [h9, eT]
        exact ⟨g1, g2, g3⟩
    · have eT : hT X q = hT e q := by
        unfold hT
        rw [hNq q cq q0 (by omega), eHs']
      rw [eT, fe (7000 + q) 9 (by omega) (by omega)]
      exact kq
  · intro q q0 q1 i i0 i1
    rw [e7] at q1
    obtain ⟨g1, g2⟩ := cat q i q0 q1 i0 i1
    obtain ⟨A, k1, k2, k3, k4, k5, k6⟩ := h.ph q q0 q1 i i0 g2
    refine ⟨A, by rw [g1]; exact k1, k2, k3, ?_, ?_, ?_⟩
    · rw [fe _ _ (by omega) (by omega)]; exact k4
    · rw [fr 95 A (by omega), eHs', fe _ _ (by omega) (by omega)]; exact k5
    · rw [eHs', fe _ _ (by omega) (by omega)]; exact k6
  · obtain ⟨mx, ⟨p1, p2, p3⟩, p4, p5, p6, p7, p8⟩ := h.pp
    have b8 := p6 r r0 r1
    refine ⟨mx, ⟨by rw [e7]; exact p1, p2.of (fun j => fe _ _ (by omega) (by omega)) (fun q q0 q1 => ?_), by rw [fr 68 32 (by omega)]; exact p3⟩, fun q k q0 q1 k0 k1 => by rw [fr 68 32 (by omega), fr 96 _ (by omega)]; exact p4 q k q0 q1 k0 k1, fun s t s0 s1 s2 => by rw [fr 96 s (by omega), fr 96 t (by omega)]; exact p5 s t s0 s1 s2, fun q q0 q1 => ?_, fun q q0 q1 i i0 i1 => ?_, fun q q0 q1 h8 => ?_⟩
    · rw [e7] at q1
      by_cases cq : q = r
      · rw [cq, hNr, v88]
        by_cases c8 : m 88 r < n
        · rw [if_pos c8]; exact Or.inl ⟨r1, n1, rfl⟩
        · rw [if_neg c8]; exact Or.inr (Int.le_refl _)
      · exact Or.inl ⟨q1, Int.le_of_eq (hNq q cq q0 (by omega)), fr 88 q (by omega)⟩
    · rw [e7] at q1
      by_cases cq : q = r
      · rw [cq, hNr, v88]
        split <;> omega
      · rw [hNq q cq q0 (by omega), fr 88 q (by omega)]
        exact p6 q q0 q1
    · rw [e7] at q1
      obtain ⟨g1, g2⟩ := cat q i q0 q1 i0 i1
      obtain ⟨o, ⟨o0, o1⟩, o2, o3, o4⟩ := p7 q q0 q1 i i0 g2
      have e88 : m' 88 o = m 88 o := by
        by_cases co : o = r
        · rcases o2 with o2 | o2
          · have i2 : i < n := by
              rw [← o2, co, hNr] at i1
              exact i1
            rw [co] at o3 ⊢
            rw [v88]
            split <;> omega
          · rw [co] at o2
            exact absurd o2 hd
        · exact fr 88 o (by omega)
      refine ⟨o, ⟨o0, by omega⟩, o2.imp id (dd o o0 (by omega)).mpr, by rw [e88]; exact o3, ?_⟩
      rw [g1, e88, fr 96 _ (by omega)]
      exact o4
    · rw [e7] at q1
      have h8' : 0 < m 88 q := by
        by_cases cq : q = r
        · rw [cq] at h8 ⊢
          rw [v88] at h8
          revert h8
          split <;> omega
        · rw [fr 88 q (by omega)] at h8
          exact h8
      obtain ⟨g1, g2⟩ := p8 q q0 q1 h8'
      rw [fr 87 q (by omega)]
      exact ⟨g1, (dd _ g1.1 (by omega)).mpr g2⟩
theorem rd_fr (hm : ∀ a j : Int, (a = 87 ∨ a = 88 ∨ a = 95 ∨ a = 96) → M a j = m a j) : fm_X12_kindAt r i M = fm_X12_kindAt r i m ∧ fm_X12_xAt r i M = fm_X12_xAt r i m ∧ fm_X12_yAt r i M = fm_X12_yAt r i m := by
  have h := at_fr (m0 := m) (m := M) (r := r) (i := i) (fun j => hm 88 j (by decide)) (fun j => hm 87 j (by decide)) (fun j => hm 96 j (by decide))
  have h5 : ∀ j, M 95 j = m 95 j := fun j => hm 95 j (by decide)
  unfold fm_X12_kindAt fm_X12_xAt fm_X12_yAt
  rw [h]
  simp only [h5, and_self]
/-- how many signals are lost -/
def nLs (e : ES) : Nat := (pLst e (e.1 7 2).toNat).length
theorem pLst_le : ∀ {n : Nat}, (∀ j : Int, 0 ≤ j → j < (n : Int) → (eL e (75000 + j)).length ≤ (eL e' (75000 + j)).length) → (pLst e n).length ≤ (pLst e' n).length := by
  intro n
  induction n with
  | zero => intro _; exact Nat.le_refl _
  | succ n ih =>
    intro h
    rw [pLst_len, pLst_len]
    have h1 := ih fun j j0 j1 => h j j0 (by omega)
    have h2 := h (n : Int) (by omega) (by omega)
    omega
theorem lo1_n (i0 : 0 ≤ r) : (pLo1 r j e).1 7 2 = e.1 7 2 ∧ nLs e ≤ nLs (pLo1 r j e) := by
  have e7 : (pLo1 r j e).1 7 2 = e.1 7 2 := lo1_a (by decide)
  refine ⟨e7, ?_⟩
  unfold nLs
  rw [e7]
  refine pLst_le fun k k0 k1 => ?_
  by_cases c : k = r
  · rw [c]
    unfold pLo1
    split
    · show _ ≤ (eL (eLs e (75000 + r) _) (75000 + r)).length
      rw [eLs_e, List.length_append]
      omega
    · exact Nat.le_refl _
  · rw [lo1_l (by omega)]
    exact Nat.le_refl _
theorem loL_n (i0 : 0 ≤ r) : ∀ (n : Nat) (j : Int) (e : ES), nLs e ≤ nLs (pLoL r N n j e) := by
  intro n
  induction n with
  | zero => intro j e; exact Nat.le_refl _
  | succ n ih =>
    intro j e
    unfold pLoL
    split
    · exact Nat.le_trans (lo1_n i0).2 (ih _ _)
    · exact Nat.le_refl _
theorem cr21 {K : MM → Option (Int × MM)} (r0 : 0 ≤ r) (r3 : r < 30) (hN5 : N < 524288) : ∀ (n f : Nat) (j : Int) (m : MM) (e : ES), RXE m e → CN e → r < e.1 7 2 → hN e r = N → (∀ j : Int, r < j → j < e.1 7 2 → eL e (75000 + j) = []) → nLs (pLoL r N n j e) ≤ 4096 → 0 ≤ j → N < j + n → 0 < n → n ≤ f → ∃ m', fl_X12_cutsRun_21 r y2 K f j m = K m' ∧ RXE m' (pLoL r N n j e) ∧ S84 m m' := by
  intro n
  induction n with
  | zero => intro f j m e h hc r1 hN' hz hL j0 h1 h2; omega
  | succ n ih =>
    intro f j m e h hc r1 hN' hz hL j0 h1 h2 h3
    obtain ⟨f, rfl⟩ : ∃ g, f = g + 1 := ⟨f - 1, by omega⟩
    have k86 : m 86 r = hN e r := (h.pr.1 r r0 r1).2.1.1
    have hu : pLoL r N (n + 1) j e = if j < N then pLoL r N n (j + 1) (pLo1 r j e) else e := rfl
    rw [hu] at hL ⊢
    unfold fl_X12_cutsRun_21
    rw [gd_t ⟨r0, r3⟩, lx_p, k86, hN']
    by_cases c : j < N
    · rw [if_pos c] at hL ⊢
      rw [if_pos c, bp_t (h.kd r0 r1 j0 (by omega))]
      have bk := h.kb r0 r1 j0 (by omega)
      have c1 : CN (pLo1 r j e) := hc.of fun a ha => lo1_a (by omega)
      have z1 : ∀ k : Int, r < k → k < (pLo1 r j e).1 7 2 → eL (pLo1 r j e) (75000 + k) = [] := fun k k0 k1 => by
        rw [lo1_l (by omega)]
        exact hz k k0 (by rw [(lo1_n r0).1] at k1; exact k1)
      have nx : ∀ M, RXE M (pLo1 r j e) → S84 m M → ∃ m', fl_X12_cutsRun_21 r y2 K f (j + 1) M = K m' ∧ RXE m' (pLoL r N n (j + 1) (pLo1 r j e)) ∧ S84 m m' := fun M g1 g2 => by
        obtain ⟨m', w1, w2, w3⟩ := ih f (j + 1) M _ g1 c1 (by rw [(lo1_n r0).1]; exact r1) (by rw [show hN (pLo1 r j e) r = hN e r from lo1_a (by omega)]; exact hN') z1 hL (by omega) (by omega) (by omega) (by omega)
        exact ⟨m', w1, w2, fun q hq => (w3 q hq).trans (g2 q hq)⟩
      by_cases c4 : ek (eH e r j) = 4
      · have ep : pLo1 r j e = eS (eLs e (75000 + r) (eL e (75000 + r) ++ [1000 * ex (eH e r j) + ey (eH e r j)])) 3 1 (e.1 3 1 + 1) := by unfold pLo1; exact if_pos c4
        have b1 := (loL_n (N := N) r0 n (j + 1) (pLo1 r j e))
        have e84 : m 68 84 = (nLs e : Int) := h.pl.2.1
        have lt : nLs e + 1 ≤ nLs (pLo1 r j e) := by
          unfold nLs
          rw [(lo1_n r0).1]
          have hcut : ∀ X : ES, (∀ k : Int, r < k → k < e.1 7 2 → eL X (75000 + k) = []) → pLst X (e.1 7 2).toNat = pLst X (r.toNat + 1) := fun X hX => pLst_cut (by omega) fun k k0 k1 => hX k (by omega) (by omega)
          rw [hcut e hz, hcut (pLo1 r j e) (fun k k0 k1 => z1 k k0 (by rw [(lo1_n r0).1]; exact k1)), pLst_len, pLst_len, show (75000 : Int) + ((r.toNat : Nat) : Int) = 75000 + r by omega, pLst_eq (e := e) (e' := pLo1 r j e) (n := r.toNat) (fun k k0 k1 => lo1_l (by omega)), show (eL (pLo1 r j e) (75000 + r)) = eL e (75000 + r) ++ [1000 * ex (eH e r j) + ey (eH e r j)] by rw [ep]; exact eLs_e (e := e), List.length_append, List.length_singleton]
          omega
        obtain ⟨B, hB⟩ : ∃ B, B = m 68 84 := ⟨_, rfl⟩
        have bB : 0 ≤ B ∧ B < 4096 := by omega
        have h1' := h.lo1 (x := ex (eH e r j)) (y := ey (eH e r j)) hc r0 r1 hz bk.2.2.1 (by omega) hB
        rw [← ep] at h1'
        obtain ⟨-, f2, -⟩ := rd_fr (m := m) (M := mset m 139 B r) (r := r) (i := j) (fun a u hh => ms_a (by omega))
        obtain ⟨-, -, f3⟩ := rd_fr (m := m) (M := mset (mset m 139 B r) 140 B (ex (eH e r j))) (r := r) (i := j) (fun a u hh => by rw [ms_a (by omega), ms_a (by omega)])
        rw [h.xx r0 r1 j0 (by omega)] at f2
        rw [h.yy r0 r1 j0 (by omega)] at f3
        rw [if_pos c4, lx_p, ← hB, gd_t bB, up_t, lx_p, ms_a (b := 68) (i := 84) (by decide), ← hB, bp_t f2, gd_t bB, up_t, lx_p, ms_a (b := 68) (i := 84) (by decide), ms_a (b := 68) (i := 84) (by decide), ← hB, bp_t f3, gd_t bB, up_t, lx_p, ms_a (b := 68) (i := 84) (by decide), ms_a (b := 68) (i := 84) (by decide), ms_a (b := 68) (i := 84) (by decide), ← hB, w32_id (z := B + 1) (by omega) (by omega), up_t, lx_p, w32_id (z := j + 1) (by omega) (by omega)]
        refine nx _ h1' fun q hq => ?_
        unfold mset
        rw [if_neg (by omega), if_neg (by omega), if_neg (by omega), if_neg (by omega)]
      · have ep : pLo1 r j e = e := by unfold pLo1; exact if_neg c4
        rw [if_neg c4, lx_p, w32_id (z := j + 1) (by omega) (by omega)]
        exact nx m (by rw [ep]; exact h) (fun _ _ => rfl)
    · rw [if_neg c, if_neg c]
      exact ⟨m, rfl, h, fun _ _ => rfl⟩
theorem es_id : eS e a j (e.1 a j) = e := by
  obtain ⟨q1, q2⟩ := e
  unfold eS
  rw [ms_id]
theorem rLose (h : RXE m e) (hc : CN e) (r0 : 0 ≤ r) (r1 : r < e.1 7 2) (hd : ¬ Dead e r) (h8 : 0 ≤ e.1 (7000 + r) 8 ∧ e.1 (7000 + r) 8 ≤ hN e r) (hn : hN e r < 524288) (h9 : 0 ≤ e.1 (7000 + r) 9 ∧ e.1 (7000 + r) 9 < 1000000) (hz : ∀ j : Int, r < j → j < e.1 7 2 → eL e (75000 + j) = []) (hL : nLs (pLose r e) ≤ 4096) (hM : TkM (eH e r) (hN e r)) : ∃ m', fm_X12_cutsRun r m = some (hN e r - e.1 (7000 + r) 8, m') ∧ RXE m' (pLose r e) ∧ S84 m m' := by
  have n7 := hc.1
  have n8 := hc.2.1
  have k86 : m 86 r = hN e r := (h.pr.1 r r0 r1).2.1.1
  have k92 : m 92 r = e.1 (7000 + r) 8 := (h.pr.1 r r0 r1).2.2.1
  obtain ⟨N, hN'⟩ : ∃ N, N = hN e r := ⟨_, rfl⟩
  obtain ⟨S, hS⟩ : ∃ S, S = e.1 (7000 + r) 8 := ⟨_, rfl⟩
  rw [← hN'] at h8 hn k86 ⊢
  rw [← hS] at h8 k92 ⊢
  obtain ⟨g1, g2, ⟨g3, g3b⟩, g4⟩ := loL_f (N := N) r0 (show r < 1000 by omega) ((N - S).toNat + 1) S e
  have eA : pLoA r e = pLoL r N ((N - S).toNat + 1) S e := by unfold pLoA; rw [← hN', ← hS]
  have nA : nLs (pLoA r e) = nLs (pLose r e) := by
    have q7 : (pLose r e).1 7 2 = (pLoA r e).1 7 2 := by
      unfold pLose
      rw [end_a (by omega), par_a (by omega), loB_a (by omega) (by omega)]
    unfold nLs
    rw [q7]
    refine congrArg List.length (pLst_eq fun k k0 k1 => ?_).symm
    unfold pLose
    rw [end_l2 (by omega) (by omega)]
    have p2 : (pPar r (e.1 (7000 + r) 8) (pLoB r (pLoA r e))).2 = (pLoB r (pLoA r e)).2 := (parL_a (r := r) (fr := e.1 (7000 + r) 8) 31 0 _ (by decide)).1
    unfold eL
    rw [p2]
    unfold pLoB
    split <;> rfl
  obtain ⟨m1, u1, u2, u3⟩ := cr21 (r := r) (y2 := N - S) (K := fun m_178 =>
lx (m_178 92 r) fun x_192 =>
up m_178 86 r x_192 fun m_194 =>
lx (m_194 88 r) fun x_210 =>
lx (m_194 86 r) fun x_218 =>
bp (fm_X12_least x_210 x_218 m_194) fun x_221 =>
up m_194 88 r x_221 fun m_229 =>
bd (fm_X12_recounts r m_229) fun x_237 m_238 =>
lx (m_238 93 r) fun x_254 =>
if 0 < N - S then
fj_X12_cutsRun_151 r (N - S) 1 x_254 r m_238
else
fj_X12_cutsRun_151 r (N - S) 0 x_254 r m_238) r0 (by omega) hn ((N - S).toNat + 1) BIG S m e h hc r1 hN'.symm hz (by rw [← eA, nA]; exact hL) h8.1 (by omega) (by omega) (Nat.le_of_lt (BIG_g (by omega)))
  rw [← eA] at u2
  have A1 : ∀ a u : Int, a ≠ 3 → (pLoA r e).1 a u = e.1 a u := by rw [eA]; exact g2
  have A2 : (pLoA r e).2.1 = e.2.1 := by rw [eA]; exact g3
  have cA' : CN (pLoA r e) := hc.of fun a ha => A1 _ _ (by omega)
  generalize hX : pLoA r e = X at *
  have eHX : eH X r = eH e r := congrFun A2 r
  have NX : hN X r = N := by rw [hN']; exact A1 _ _ (by omega)
  have SX : X.1 (7000 + r) 8 = S := by rw [hS]; exact A1 _ _ (by omega)
  have X9 : X.1 (7000 + r) 9 = e.1 (7000 + r) 9 := A1 _ _ (by omega)
  have rX : r < X.1 7 2 := by rw [A1 _ _ (by decide)]; exact r1
  have dX : ¬ Dead X r := by
    unfold Dead
    rw [A1 _ _ (by omega)]
    exact hd
  obtain ⟨C, hC⟩ : ∃ C, C = if S < N then X.1 (7000 + r) 9 + 1 else X.1 (7000 + r) 9 := ⟨_, rfl⟩
  have eB : pLoB r X = eS (pCutH r S X) (7000 + r) 9 C := by
    unfold pLoB
    rw [SX, NX]
    by_cases c : 0 < N - S
    · rw [if_pos c, hC, if_pos (by omega)]
    · rw [if_neg c, hC, if_neg (by omega)]
      have : pCutH r S X = X := by
        unfold pCutH
        rw [show S = X.1 (71000 + r) 1 from (show S = hN X r by omega)]
        exact es_id
      rw [this]
      exact es_id.symm
  obtain ⟨s1, s2⟩ := u2.pr
  obtain ⟨-, ⟨t86, -, -, -⟩, t92, t93, -, -⟩ := s1 r r0 rX
  rw [SX] at t92
  rw [X9] at t93
  have t88 := u2.pp
  obtain ⟨D, hD⟩ : ∃ D, D = if m1 88 r < S then m1 88 r else S := ⟨_, rfl⟩
  have fM : ∀ a j : Int, (a ≠ 86 ∧ a ≠ 88) ∨ j ≠ r → mset (mset m1 86 r S) 88 r D a j = m1 a j := fun a j hh => by
    unfold mset
    rw [if_neg (by omega), if_neg (by omega)]
  have f86 : mset (mset m1 86 r S) 88 r D 86 r = S := by rw [ms_a (by decide)]; exact ms_e
  have f88 : mset (mset m1 86 r S) 88 r D 88 r = D := ms_e
  obtain ⟨m2, w1, w2, w3, w4, w5⟩ := rRec (m := mset (mset m1 86 r S) 88 r D) (n := S) (E := eH e r) r0 (by omega) f86 h8.1 (by omega) (fun k k0 k1 hk => hM k k0 (by omega) hk) (fun M hF i i0 i1 => by
    obtain ⟨ct, -⟩ := cut_at (M := M) (n := S) u2 cA' r0 rX dX (fun j => (hF 87 j (by omega)).trans (fM 87 j (by omega))) (fun j hj => (hF 88 j (by omega)).trans (fM 88 j (by omega))) (by rw [hF 88 r (by omega), f88, hD]) (fun j => (hF 96 j (by omega)).trans (fM 96 j (by omega)))
    have h95 : ∀ j, M 95 j = m1 95 j := fun j => (hF 95 j (by omega)).trans (fM 95 j (by omega))
    have k1 := u2.kd r0 rX i0 (by omega)
    have k2 := u2.xx r0 rX i0 (by omega)
    rw [← eHX]
    constructor
    · rw [← k1]
      unfold fm_X12_kindAt
      rw [ct i i0 i1]
      simp only [h95]
    · rw [← k2]
      unfold fm_X12_xAt
      rw [ct i i0 i1]
      simp only [h95])
  have h3 : RXE (mset m2 93 r C) (eS (pCutH r S X) (7000 + r) 9 C) := by
    have z : ∀ a j : Int, ¬ ((a = 86 ∨ (88 ≤ a ∧ a ≤ 91) ∨ a = 93) ∧ j = r) → mset m2 93 r C a j = m1 a j := fun a j hh => by
      rw [show mset m2 93 r C a j = m2 a j from if_neg (by omega), w2 a j (by omega), fM a j (by omega)]
    exact u2.cut cA' r0 rX dX h8.1 (by omega) (by rw [NX]; exact hC) z (by rw [ms_a (by decide), w2 86 r (by omega)]; exact f86) (by rw [ms_a (by decide), w2 88 r (by omega), f88]; exact hD) (by rw [ms_a (by decide), w3, eHX]) (by rw [ms_a (by decide), w4, eHX]) (by rw [ms_a (by decide), w5, eHX]) ms_e
  rw [← eB] at h3
  have cB : CN (pLoB r X) := cA'.of fun a ha => loB_a (by omega) (by omega)
  have rB : r < (pLoB r X).1 7 2 := by rw [loB_a (by omega) (by omega)]; exact rX
  obtain ⟨m3, v1, v2, v3⟩ := h3.endw cB r0 rB
  have cE := cB.endw (r := r)
  have n86 : m3 86 r = S := by
    have q := (v2.pr.1 r r0 (by rw [end_a (by omega)]; exact rB)).2.1.1
    rw [q]
    show (pEnd r (pLoB r X)).1 (71000 + r) 1 = S
    rw [end_a (by omega), eB, eS_a (by omega)]
    exact eS_e
  have e7B : (pEnd r (pLoB r X)).1 7 2 = e.1 7 2 := by rw [end_a (by omega), loB_a (by omega) (by omega), A1 _ _ (by decide)]
  obtain ⟨m4, o1, o2, o3⟩ := cr160 (r := r) (fr := S) (y2 := N - S) r0 (by omega) 31 BIG 0 m3 _ v2 cE n86 (Int.le_refl _) (by rw [e7B]; omega) (by omega) (by decide)
  have o2' : RXE m4 (pPar r S (pEnd r (pLoB r X))) := o2
  rw [par_end cB] at o2'
  have fin : pLose r e = pEnd r (pPar r S (pLoB r X)) := by unfold pLose; rw [← hS, hX]
  refine ⟨m4, ?_, by rw [fin]; exact o2', fun q hq => ?_⟩
  · have j151 : ∀ s0 : Int, e.1 (7000 + r) 9 + s0 = C → fj_X12_cutsRun_151 r (N - S) s0 (m2 93 r) r m2 = some (N - S, m4) := fun s0 hs0 => by
      have b93 : m2 93 r = e.1 (7000 + r) 9 := by rw [w2 93 r (by omega), fM 93 r (by omega), t93]
      have hCb : C = e.1 (7000 + r) 9 ∨ C = e.1 (7000 + r) 9 + 1 := by
        rw [hC, X9]
        split
        · exact Or.inr rfl
        · exact Or.inl rfl
      unfold fj_X12_cutsRun_151
      rw [gd_t (by omega), b93, w32_id (z := e.1 (7000 + r) 9 + s0) (by omega) (by omega), hs0, up_t, bd_t v1]
      exact o1
    unfold fm_X12_cutsRun
    rw [gd_t (by omega), lx_p, k86, lx_p, k92, lx_p, w32_id (z := N - S) (by omega) (by omega), u1, lx_p, t92, up_t, lx_p, ms_a (b := 88) (by decide), lx_p, ms_e, bp_t rLeast, ← hD, up_t, bd_t w1, lx_p]
    by_cases c : 0 < N - S
    · rw [if_pos c]
      exact j151 1 (by rw [hC, if_pos (by omega), X9])
    · rw [if_neg c]
      exact j151 0 (by rw [hC, if_neg (by omega), X9]; omega)
  · rw [o3.2 q hq, v3.2 q hq, ms_a (by decide), w2 68 q (by omega), fM 68 q (by omega), u3 q hq]
end RXU9
