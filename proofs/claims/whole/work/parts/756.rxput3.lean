/-! THE REFERENCE'S ENGINE: an event is put: the reference stands for the plain state again; histories read. -/
section RXQ3
variable {m m' M : MM} {e e' : ES} {a b c i j k o r v w p t s x y n A B q G : Int} {l : List Int}
/-- what a step of the reference leaves of its own scratch places and of what it has thrown -/
def SCR (m m' : MM) : Prop := (∀ a j : Int, a ≠ 68 → a = 97 ∨ 141 < a ∨ a < 68 → m' a j = m a j) ∧ ∀ j : Int, 84 < j → m' 68 j = m 68 j
theorem SCR.rf : SCR m m := ⟨fun _ _ _ _ => rfl, fun _ _ => rfl⟩
theorem SCR.tr (h : SCR m m') (g : SCR m' M) : SCR m M := ⟨fun a j h1 h2 => (g.1 a j h1 h2).trans (h.1 a j h1 h2), fun j h1 => (g.2 j h1).trans (h.2 j h1)⟩
theorem SCR.ms (h1 : a ≠ 97) (h2 : 68 ≤ a) (h3 : a ≤ 141) (h4 : a = 68 → j ≤ 84) : SCR m (mset m a j v) := ⟨fun b i g1 g2 => ms_a (by omega), fun i g1 => by
  by_cases c : a = 68
  · rw [c]; exact ms_j (by have := h4 c; omega)
  · exact ms_a (by omega)⟩
theorem RXE.put (h : RXE m e) (hc : CN e) (r0 : 0 ≤ r) (r1 : r < e.1 7 2) (hd : ¬ Dead e r) (hN1 : 0 ≤ hN e r ∧ hN e r < 524288) (hP : e.1 68 1000 ≤ 1300000) (k0 : 0 ≤ k) (k1 : k ≤ 17) (x0 : 0 ≤ x) (x1 : x < 524288) (y0 : 0 ≤ y) (y1 : y ≤ 999) (ht : 0 ≤ e.1 4 14 ∧ e.1 4 14 < 1000000) (ho : 0 ≤ e.1 68 29 ∧ e.1 68 29 < 536000) (o0 : 0 ≤ o) (hk : k = 17 → hC e r ≤ x) : ∃ m', fm_X12_puts r k x y m = some (hN e r, m') ∧ RXE m' (pPut r k x y (e.1 4 14) o e) ∧ SCR m m' ∧ ∀ a j : Int, 97 ≤ a → m' a j = m a j := by
  have n7 := hc.1
  obtain ⟨g0, g12, g29, g30, g34, g50, g51, g68, g69, g79, g80⟩ := h.ps
  obtain ⟨kr1, ⟨k86, k89, k90, k91⟩, kr2⟩ := h.pr.1 r r0 r1
  have bA := cA_b (E := eH e r) (hN e r).toNat
  have bT := cT_b (E := eH e r) (hN e r).toNat
  have hA' : m 89 r = cA (eH e r) (hN e r).toNat := k89
  have hT' : m 90 r = cT (eH e r) (hN e r).toNat := k90
  obtain ⟨s, hs⟩ : ∃ s, s = 2048 * r + (hN e r - m 88 r) / 256 := ⟨_, rfl⟩
  obtain ⟨M2, hM2⟩ : ∃ M2, M2 = xM2 (xM1 m s) r k := ⟨_, rfl⟩
  obtain ⟨A, hAv⟩ : ∃ A, A = 256 * (xM1 m s 96 s - 1) + (hN e r - m 88 r) % 256 := ⟨_, rfl⟩
  obtain ⟨m', hm'⟩ : ∃ m', m' = xM3 M2 r k x y (xG M2 k) A := ⟨_, rfl⟩
  have X : xPut m m' r k x y s A (xG M2 k) := by rw [hm', hM2]; exact xPut_e
  have e96 : m' 96 s = xM1 m s 96 s := by
    rw [X.2.2.2.1.2]
    unfold xM1
    by_cases c : m 96 s = 0
    · rw [if_pos ⟨c, rfl⟩, if_pos c, ms_e]
    · rw [if_neg (fun hh => c hh.1), if_neg c]
  obtain ⟨P1, P2, P3, P4, P5, P6, P7⟩ := h.pp.put (t := e.1 4 14) (o := o) hc r0 r1 hd hN1 hP hs X (by rw [e96]; exact hAv)
  have run := x_put0 (m := m) (k := k) (x := x) (y := y) r0 (by omega) (by rw [k86]; exact hN1) (by rw [k86]; exact P4) (by rw [k86, ← hs]; exact P2) P3 k0 k1 x0 x1 y0 y1 (by rw [g0]; exact ht) (by rw [g29]; exact ho) (by omega) (by omega) (by rw [k91]; exact hk) (s := s) (A := A) (by rw [k86]; exact hs) (by rw [k86]; exact hAv)
  rw [k86, ← hM2, ← hm'] at run
  obtain ⟨X1, X2, ⟨X3, X3b⟩, ⟨X4, X5⟩, X6, X7, X8, X9, X10⟩ := X
  have G1 : xG M2 k = if k ≤ 7 then 1000 * (pOrd r k e).1 68 29 + e.1 4 14 % 1000 else e.1 4 14 := by
    have e0 : M2 68 0 = e.1 4 14 := by
      rw [← g0, ← X2 0 (by decide) (by decide) (by decide), hm']
      unfold xM3
      rw [ms_a (by decide), ms_a (by decide), ms_a (by decide), ms_a (by decide), ms_a (by decide)]
    have e29 : M2 68 29 = (pOrd r k e).1 68 29 := by
      have : m' 68 29 = M2 68 29 := by
        rw [hm']
        unfold xM3
        rw [ms_a (by decide), ms_a (by decide), ms_a (by decide), ms_a (by decide), ms_a (by decide)]
      rw [← this, X3, (ord_29 r0).1, g29, g30]
    unfold xG
    rw [e0, e29]
  have o29 : 0 ≤ (pOrd r k e).1 68 29 ∧ (pOrd r k e).1 68 29 ≤ 536000 := by
    rw [(ord_29 r0).1]
    split
    · split <;> omega
    · omega
  have hG : 0 ≤ xG M2 k ∧ xG M2 k < 536870912 := by
    rw [G1]
    split <;> omega
  have e7 : (pPut r k x y (e.1 4 14) o e).1 7 2 = e.1 7 2 := put_a (by decide) (by decide) (by omega) (by omega)
  obtain ⟨c1, c2, c3⟩ := put_ct (k := k) (x := x) (y := y) (t := e.1 4 14) (o := o) k0 x0 r0 (show r < 1000 by omega) hN1.1
  have hNr : ∀ j : Int, 0 ≤ j → j < 1000 → hN (pPut r k x y (e.1 4 14) o e) j = (if j = r then hN e j + 1 else hN e j) ∧ eH (pPut r k x y (e.1 4 14) o e) j = if j = r then Ev1 (eH e j) (hN e j) (evP k x y (e.1 4 14) o) else eH e j := fun j j0 j1 => put_hN r0 j0 j1
  have he : ∀ a u : Int, ¬ (a = 3 ∨ a = 68 ∨ a = 76000 + r ∨ a = 71000 + r) → (pPut r k x y (e.1 4 14) o e).1 a u = e.1 a u := fun a u ha => put_a (by omega) (by omega) (by omega) (by omega)
  have e88 : ∀ j, m' 88 j = m 88 j := fun j => X1 _ _ (by decide) (by decide) (by decide) (by decide) (by decide) (by decide) (by decide)
  have e87 : ∀ j, m' 87 j = m 87 j := fun j => X1 _ _ (by decide) (by decide) (by decide) (by decide) (by decide) (by decide) (by decide)
  refine ⟨m', run, h.chg hc (W := fun a => a = 86 ∨ (89 ≤ a ∧ a ≤ 91) ∨ a = 95 ∨ a = 96) (U := fun j => j = 29 ∨ j = 30 ∨ j = 32) (V := fun a => a = 3 ∨ a = 68 ∨ a = 76000 + r ∨ a = 71000 + r) (fun a j g1 g2 g3 => X1 a j (by omega) (by omega) (by omega) (by omega) (by omega) (by omega) (by omega)) (fun j g1 g2 => X2 j (by omega) (by omega) (by omega)) ⟨he, fun c _ => put_l, fun i hi => ?_⟩ (by rw [he 4 _ (by omega)]; omega) (DdM.of fun q q0 q1 => he _ _ (by omega)) (by rw [put_3 r0]; omega) (Or.inr ?_) (Or.inl ⟨fun a g => by omega, fun a g => by omega, fun a g => by omega⟩) (Or.inl ⟨fun a g => by omega, fun a g => by omega, fun a g => by omega⟩) (Or.inr ⟨fun r' r2 r3 => ?_, fun r' r2 r3 => ?_⟩) (Or.inl ⟨fun a g => by omega, fun a g => by omega, fun a g => by omega⟩) (Or.inl ⟨fun a g => by omega, fun a g => by omega, fun a g => by omega⟩) (Or.inl ⟨fun a g => by omega, fun a g => by omega, fun a g => by omega⟩) (Or.inr fun w w0 w1 => ⟨fun r' r2 r3 => ?_, fun r' r2 r3 => ?_⟩) (Or.inl ⟨fun a g => by omega, fun a g => by omega, fun a g => by omega⟩) (Or.inl ⟨fun a g => by omega, fun a g => by omega, fun a g => by omega⟩) (Or.inr fun r' r2 r3 i i0 i1 => ?_) (Or.inr P1) (Or.inl ⟨fun a g => by omega, fun a g => by omega, fun a g => by omega⟩), ⟨fun a j g1 g2 => X1 a j (by omega) (by omega) (by omega) (by omega) (by omega) (by omega) (by omega), fun j g1 => X2 j (by omega) (by omega) (by omega)⟩, fun a j g1 => X1 a j (by omega) (by omega) (by omega) (by omega) (by omega) (by omega) (by omega)⟩
  · show (if i = r then _ else (pOrd r k e).2.1 i) = e.2.1 i
    rw [if_neg (by omega)]
    unfold pOrd pOrd0
    split <;> rfl
  · unfold RXs
    rw [X2 0 (by decide) (by decide) (by decide), X2 12 (by decide) (by decide) (by decide), X2 34 (by decide) (by decide) (by decide), X2 50 (by decide) (by decide) (by decide), X2 51 (by decide) (by decide) (by decide), X2 68 (by decide) (by decide) (by decide), X2 69 (by decide) (by decide) (by decide), X2 79 (by decide) (by decide) (by decide), X2 80 (by decide) (by decide) (by decide), X3, X3b, put_68 r0, put_68 r0, (ord_29 r0).1, (ord_29 r0).2, g29, g30, he 4 14 (by omega), he 4 13 (by omega), he 4 15 (by omega), he 4 12 (by omega), he 4 11 (by omega), he 7 _ (by omega), he 8 _ (by omega), he 9 _ (by omega), he 10 _ (by omega)]
    exact ⟨g0, g12, rfl, rfl, g34, g50, g51, g68, g69, g79, g80⟩
  · rw [e7] at r3
    obtain ⟨a1, ⟨a2, a3, a4, a5⟩, a6⟩ := h.pr.1 r' r2 r3
    unfold RXr1
    simp only [he (7000 + r') _ (by omega)]
    have hm : ∀ a, (80 ≤ a ∧ a ≤ 85) ∨ (92 ≤ a ∧ a ≤ 94) ∨ a = 138 → m' a r' = m a r' := fun a ha => X1 _ _ (by omega) (by omega) (by omega) (by omega) (by omega) (by omega) (by omega)
    rw [hm 80 (by decide), hm 81 (by decide), hm 82 (by decide), hm 83 (by decide), hm 84 (by decide), hm 85 (by decide), hm 92 (by decide), hm 93 (by decide), hm 94 (by decide), hm 138 (by decide), X7, X8, X9, X10]
    refine ⟨a1, ?_, a6⟩
    by_cases c : r' = r
    · rw [c, if_pos rfl, if_pos rfl, if_pos rfl, if_pos rfl, c1, c2, c3, (hNr r r0 (by omega)).1, if_pos rfl, k86, k89, k90, k91]
      exact ⟨rfl, rfl, rfl, rfl⟩
    · obtain ⟨q1, q2⟩ := hNr r' r2 (by omega)
      rw [if_neg c] at q1 q2
      unfold hA hT hC
      rw [if_neg c, if_neg c, if_neg c, if_neg c, q1, q2]
      exact ⟨a2, a3, a4, a5⟩
  · rw [e7] at r2
    unfold RXr0
    rw [e88, X8, X9, X10, if_neg (by omega), if_neg (by omega), if_neg (by omega), X1 92 _ (by decide) (by decide) (by decide) (by decide) (by decide) (by decide) (by decide), X1 93 _ (by decide) (by decide) (by decide) (by decide) (by decide) (by decide) (by decide), X1 138 _ (by decide) (by decide) (by decide) (by decide) (by decide) (by decide) (by decide)]
    exact h.pr.2 r' r2 r3
  · rw [e7] at r3
    have hm : ∀ a j, (123 ≤ a ∧ a ≤ 127) → m' a j = m a j := fun a j ha => X1 _ _ (by omega) (by omega) (by omega) (by omega) (by omega) (by omega) (by omega)
    obtain ⟨a1, a2⟩ := (h.pw w w0 w1).1 r' r2 r3
    unfold RXw1
    simp only [he (7000 + r') _ (by omega)]
    rw [hm 123 _ (by decide), hm 124 _ (by decide), hm 125 _ (by decide), hm 126 _ (by decide), hm 127 _ (by decide)]
    refine ⟨fun g1 => ?_, a2⟩
    obtain ⟨b1, b2, b3⟩ := a1 g1
    by_cases c : r' = r
    · rw [c] at b1 b2 b3 ⊢
      rw [c2]
      by_cases c17 : k = 17
      · rw [if_pos c17]
        exact ⟨b1, fun g2 => by have := b2 g2; omega, fun g2 g3 => by have := b2 g3.2; omega⟩
      · rw [if_neg c17]
        exact ⟨b1, b2, b3⟩
    · obtain ⟨q1, q2⟩ := hNr r' r2 (by omega)
      rw [if_neg c] at q1 q2
      have : hT (pPut r k x y (e.1 4 14) o e) r' = hT e r' := by unfold hT; rw [q1, q2]
      rw [this]
      exact ⟨b1, b2, b3⟩
  · rw [e7] at r2
    rw [X1 123 _ (by decide) (by decide) (by decide) (by decide) (by decide) (by decide) (by decide)]
    exact (h.pw w w0 w1).2 r' r2 r3
  · rw [e7] at r3
    obtain ⟨q1, q2⟩ := hNr r' r2 (by omega)
    rw [q1] at i1
    unfold RXh1
    rw [q2]
    by_cases c : r' = r ∧ i = hN e r
    · obtain ⟨cr, ci⟩ := c
      subst cr
      have hv : Ev1 (eH e r') (hN e r') (evP k x y (e.1 4 14) o) i = evP k x y (e.1 4 14) o := if_pos ci
      rw [if_pos rfl, put_G r0, if_pos ci, ← G1, hv, ci]
      refine ⟨A, P5.1, P5.2.1, P5.2.2, hG.1, ?_, ?_, ?_, ?_, by omega, fun hk7 => ?_⟩
      · rw [X6, if_pos rfl]
        rfl
      · show k.toNat ≤ 17
        omega
      · show x.toNat < 524288
        omega
      · show y.toNat ≤ 999
        omega
      · have hk8 : ((k.toNat : Nat) : Int) ≤ 7 := hk7
        have k7 : k ≤ 7 := by omega
        have ewv : ew (evP k x y (e.1 4 14) o) = 1024 * o + e.1 4 14 % 1000 := by
          show (((if k ≤ 7 then (1024 * o + e.1 4 14 % 1000).toNat else (e.1 4 14).toNat : Nat)) : Int) = _
          rw [if_pos k7]
          omega
        rw [ewv]
        rw [if_pos k7] at G1
        omega
    · have i2 : i < hN e r' := by
        by_cases c2 : r' = r
        · rw [if_pos c2] at i1
          have : i ≠ hN e r := fun hh => c ⟨c2, hh⟩
          rw [c2] at i1 ⊢
          omega
        · rw [if_neg c2] at i1
          exact i1
      have eG : (pPut r k x y (e.1 4 14) o e).1 (76000 + r') i = e.1 (76000 + r') i := by
        by_cases c2 : r' = r
        · rw [c2, put_G r0, if_neg (fun hh => c ⟨c2, hh⟩)]
        · exact put_Ga c2 r2 (by omega) r0 (by omega)
      have eE : (if r' = r then Ev1 (eH e r') (hN e r') (evP k x y (e.1 4 14) o) else eH e r') i = eH e r' i := by
        by_cases c2 : r' = r
        · rw [if_pos c2]
          exact if_neg (by omega)
        · rw [if_neg c2]
      rw [eG, eE]
      obtain ⟨B, h1, h2, h3, h4, h5, h6⟩ := h.ph r' r2 r3 i i0 i2
      refine ⟨B, at_up e88 e87 P6 h1 h2, h2, h3, h4, ?_, h6⟩
      rw [X6, if_neg (P7 r' i B r2 r3 i0 i2 h1)]
      exact h5
/-- an arrival is put -/
theorem RXE.arr (h : RXE m e) (hc : CN e) (r0 : 0 ≤ r) (r1 : r < e.1 7 2) (hd : ¬ Dead e r) (hN1 : 0 ≤ hN e r ∧ hN e r < 524288) (hP : e.1 68 1000 ≤ 1300000) (k0 : 0 ≤ k) (k1 : k ≤ 16) (x0 : 0 ≤ x) (x1 : x < 524288) (y0 : 0 ≤ y) (y1 : y ≤ 999) (ht : 0 ≤ e.1 4 14 ∧ e.1 4 14 < 1000000) (ho : 0 ≤ e.1 68 29 ∧ e.1 68 29 < 536000) (o0 : 0 ≤ e.1 4 16) : ∃ m', fm_X12_puts r k x y m = some (hN e r, m') ∧ RXE m' (pArr r k x y e) ∧ SCR m m' := by
  obtain ⟨m', g1, g2, g3, -⟩ := h.put (k := k) (x := x) (y := y) (o := e.1 4 16) hc r0 r1 hd hN1 hP k0 (by omega) x0 x1 y0 y1 ht ho o0 (fun hh => by omega)
  refine ⟨m', g1, ?_, g3⟩
  have n7 := hc.1
  have pa : ∀ a u : Int, a ≠ 68 → a ≠ 3 → a ≠ 76000 + r → a ≠ 71000 + r → (pPut r k x y (e.1 4 14) (e.1 4 16) e).1 a u = e.1 a u := fun a u h1 h2 h3 h4 => put_a h1 h2 h3 h4
  have hc2 : CN (pPut r k x y (e.1 4 14) (e.1 4 16) e) := by
    obtain ⟨d1, d2, d3, d4, d5⟩ := hc
    refine ⟨?_, ?_, ?_, ?_, fun t ht => ?_⟩
    · rw [pa _ _ (by decide) (by decide) (by omega) (by omega)]; exact d1
    · rw [pa _ _ (by decide) (by decide) (by omega) (by omega)]; exact d2
    · rw [pa _ _ (by decide) (by decide) (by omega) (by omega)]; exact d3
    · rw [pa _ _ (by decide) (by decide) (by omega) (by omega)]; exact d4
    · have := isT_b ht
      rw [pa _ _ (by omega) (by omega) (by omega) (by omega)]
      exact d5 t ht
  refine g2.sc (j := 1000) hc2 (fun a j _ _ => rfl) (fun u _ _ => rfl) (by decide) (by decide) ?_
  obtain ⟨s1, s2, s3, s4, s5, s6, s7, s8, s9, s10, s11⟩ := g2.ps
  unfold RXs
  rw [eS_j (by decide), eS_j (by decide), eS_j (by decide), eS_j (by decide), eS_j (by decide), eS_a (by decide), eS_a (by decide), eS_a (by decide), eS_a (by decide), eS_a (by decide), eS_a (by decide)]
  exact ⟨s1, s2, s3, s4, s5, s6, s7, s8, s9, s10, s11⟩
theorem CN.of (h : CN e) (he : ∀ a : Int, (7 ≤ a ∧ a ≤ 10) ∨ (48 ≤ a ∧ a ≤ 61) → e'.1 a 2 = e.1 a 2) : CN e' := by
  obtain ⟨d1, d2, d3, d4, d5⟩ := h
  refine ⟨?_, ?_, ?_, ?_, fun t ht => ?_⟩
  · rw [he _ (by decide)]; exact d1
  · rw [he _ (by decide)]; exact d2
  · rw [he _ (by decide)]; exact d3
  · rw [he _ (by decide)]; exact d4
  · have := isT_b ht
    rw [he _ (by omega)]
    exact d5 t ht
theorem CN.arr (h : CN e) (r0 : 0 ≤ r) : CN (pArr r k x y e) := h.of fun a ha => arr_a (by omega) (by omega) (by omega) (by omega) (by omega)
theorem CN.put (h : CN e) (r0 : 0 ≤ r) : CN (pPut r k x y t o e) := h.of fun a ha => put_a (by omega) (by omega) (by omega) (by omega)
/-- histories read -/
theorem RXE.kd (h : RXE m e) (r0 : 0 ≤ r) (r1 : r < e.1 7 2) (h0 : 0 ≤ i) (h1 : i < hN e r) : fm_X12_kindAt r i m = some (ek (eH e r i)) := by
  obtain ⟨A, g1, g2, g3, g4, g5, g6, g7, g8, g9, -⟩ := h.ph r r0 r1 i h0 h1
  unfold fm_X12_kindAt
  rw [bp_t g1, gd_t ⟨g2, g3⟩, lx_p, g5, r_kind g6 g8 g7 g9]
  rfl
theorem RXE.xx (h : RXE m e) (r0 : 0 ≤ r) (r1 : r < e.1 7 2) (h0 : 0 ≤ i) (h1 : i < hN e r) : fm_X12_xAt r i m = some (ex (eH e r i)) := by
  obtain ⟨A, g1, g2, g3, g4, g5, g6, g7, g8, g9, -⟩ := h.ph r r0 r1 i h0 h1
  unfold fm_X12_xAt
  rw [bp_t g1, gd_t ⟨g2, g3⟩, lx_p, g5, r_x g6 g8 g7 g9]
  rfl
theorem RXE.yy (h : RXE m e) (r0 : 0 ≤ r) (r1 : r < e.1 7 2) (h0 : 0 ≤ i) (h1 : i < hN e r) : fm_X12_yAt r i m = some (ey (eH e r i)) := by
  obtain ⟨A, g1, g2, g3, g4, g5, g6, g7, g8, g9, -⟩ := h.ph r r0 r1 i h0 h1
  unfold fm_X12_yAt
  rw [bp_t g1, gd_t ⟨g2, g3⟩, lx_p, g5, r_y g6 g8 g7 g9]
  rfl
theorem RXE.wn (h : RXE m e) (r0 : 0 ≤ r) (r1 : r < e.1 7 2) (h0 : 0 ≤ i) (h1 : i < hN e r) : fm_X12_whenAt r i m = some (e.1 (76000 + r) i) := by
  obtain ⟨A, g1, g2, g3, g4, g5, g6, g7, g8, g9, -⟩ := h.ph r r0 r1 i h0 h1
  unfold fm_X12_whenAt
  rw [bp_t g1, gd_t ⟨g2, g3⟩, lx_p, g5, r_w g6 g8 g7 g9, Int.toNat_of_nonneg g4]
theorem RXE.kb (h : RXE m e) (r0 : 0 ≤ r) (r1 : r < e.1 7 2) (h0 : 0 ≤ i) (h1 : i < hN e r) : (0 ≤ ek (eH e r i) ∧ ek (eH e r i) ≤ 17) ∧ (0 ≤ ex (eH e r i) ∧ ex (eH e r i) < 524288) ∧ 0 ≤ ey (eH e r i) ∧ ey (eH e r i) ≤ 999 := by
  obtain ⟨A, g1, g2, g3, g4, g5, g6, g7, g8, g9, -⟩ := h.ph r r0 r1 i h0 h1
  unfold ek ex ey
  omega
end RXQ3
