/-! ORDERS: the class's and the reference's go the same way; whens. -/
section ODR
variable {e e' e1 e2 : ES} {a b c i j k q r v w N M p x y t o ev tn ver inp par pe st : Int} {n : Nat} {E : Int → Ev}
def oA (e : ES) (r p : Int) : Int := ew (eH e r p) / 1024
def gA' (e : ES) (r p : Int) : Int := e.1 (76000 + r) p / 1000
def isA (e : ES) (r p : Int) : Prop := (0 ≤ r ∧ r < e.1 7 2) ∧ (0 ≤ p ∧ p < hN e r) ∧ ek (eH e r p) ≤ 7
/-- a timer's event has its when -/
def WnW (e : ES) (r : Int) : Prop := ∀ k : Int, 0 ≤ k → k < hN e r → ek (eH e r k) = 9 → e.1 (76000 + r) k = ew (eH e r k) ∧ ew (eH e r k) < 1000000
/-- orders, whens -/
def OI (e : ES) : Prop :=
  (0 ≤ e.1 4 16 ∧ 0 ≤ e.1 68 29 ∧ e.1 68 30 < e.1 7 2) ∧
  (∀ r p : Int, isA e r p → oA e r p < e.1 4 16 ∧ gA' e r p ≤ e.1 68 29) ∧
  (∀ i j p q : Int, i ≠ j → ¬ Dead e i → ¬ Dead e j → isA e i p → isA e j q → (oA e i p < oA e j q ↔ gA' e i p < gA' e j q)) ∧
  (0 ≤ e.1 68 30 → ¬ Dead e (e.1 68 30) → ∀ j q : Int, j ≠ e.1 68 30 → ¬ Dead e j → isA e j q → gA' e j q < e.1 68 29) ∧
  ∀ r : Int, 0 ≤ r → r < e.1 7 2 → WnW e r
/-- the orders stay where histories and whens do, or are cut -/
theorem OI.fr (h : OI e) (n1 : e'.1 7 2 = e.1 7 2) (h4 : e'.1 4 16 = e.1 4 16) (h29 : e'.1 68 29 = e.1 68 29) (h30 : e'.1 68 30 = e.1 68 30) (hd : ∀ r : Int, 0 ≤ r → r < e.1 7 2 → Dead e r → Dead e' r) (hh : ∀ r : Int, 0 ≤ r → r < e.1 7 2 → hN e' r ≤ hN e r ∧ ∀ p : Int, 0 ≤ p → p < hN e' r → eH e' r p = eH e r p ∧ e'.1 (76000 + r) p = e.1 (76000 + r) p) : OI e' := by
  obtain ⟨⟨a1, a2, a3⟩, h1, h2, h3, h5⟩ := h
  have hA : ∀ r p : Int, isA e' r p → isA e r p ∧ oA e' r p = oA e r p ∧ gA' e' r p = gA' e r p := fun r p ⟨⟨r0, r1⟩, ⟨p0, p1⟩, hk⟩ => by
    rw [n1] at r1
    obtain ⟨g1, g2⟩ := hh r r0 r1
    obtain ⟨g3, g4⟩ := g2 p p0 p1
    rw [g3] at hk
    refine ⟨⟨⟨r0, r1⟩, ⟨p0, by omega⟩, hk⟩, ?_, ?_⟩
    · unfold oA; rw [g3]
    · unfold gA'; rw [g4]
  have hdd : ∀ r p : Int, isA e' r p → ¬ Dead e' r → ¬ Dead e r := fun r p ha hn d => hn (hd r (hA r p ha).1.1.1 (hA r p ha).1.1.2 d)
  refine ⟨⟨by omega, by omega, by omega⟩, fun r p ha => ?_, fun i j p q hij hi hj hp hq => ?_, fun h0 hd0 j q hj hdj hq => ?_, fun r r0 r1 => ?_⟩
  · obtain ⟨g1, g2, g3⟩ := hA r p ha
    rw [g2, g3, h4, h29]
    exact h1 r p g1
  · obtain ⟨g1, g2, g3⟩ := hA i p hp
    obtain ⟨k1, k2, k3⟩ := hA j q hq
    rw [g2, g3, k2, k3]
    exact h2 i j p q hij (hdd i p hp hi) (hdd j q hq hj) g1 k1
  · obtain ⟨g1, g2, g3⟩ := hA j q hq
    rw [h30] at h0 hd0 hj
    rw [g3, h29]
    exact h3 h0 (fun d => hd0 (hd _ h0 a3 d)) j q hj (hdd j q hq hdj) g1
  · rw [n1] at r1
    obtain ⟨g1, g2⟩ := hh r r0 r1
    intro k k0 k1 hk
    obtain ⟨g3, g4⟩ := g2 k k0 k1
    rw [g3] at hk ⊢
    rw [g4]
    exact h5 r r0 r1 k k0 (by omega) hk
/-- an arrival is put -/
theorem OI.arr (h : OI e) (hc : CN e) (r0 : 0 ≤ r) (r1 : r < e.1 7 2) (hn : 0 ≤ hN e r) (k0 : 0 ≤ k) (k1 : k ≤ 7) : OI (pArr r k x y e) := by
  have n7 := hc.1
  obtain ⟨⟨a1, a2, a3⟩, h1, h2, h3, h5⟩ := h
  have e7 : (pArr r k x y e).1 7 2 = e.1 7 2 := arr_a (by decide) (by decide) (by omega) (by omega) (by omega)
  obtain ⟨g1, g2⟩ := arr_eH (k := k) (x := x) (y := y) (e := e) r0 (by omega)
  have hH : ∀ j : Int, j ≠ r → eH (pArr r k x y e) j = eH e j := fun j hj => arr_h hj
  have hNj : ∀ j : Int, j ≠ r → 0 ≤ j → j < e.1 7 2 → hN (pArr r k x y e) j = hN e j := fun j hj j0 j1 => arr_a (by omega) (by omega) (by omega) (by omega) (by omega)
  have h16 : (pArr r k x y e).1 4 16 = e.1 4 16 + 1 := arr_16
  have f68 : ∀ u : Int, (pArr r k x y e).1 68 u = (pOrd r k e).1 68 u := fun u => (eS_a (by decide)).trans (put_68 r0)
  have h29 : (pArr r k x y e).1 68 29 = if e.1 68 30 = r then e.1 68 29 else e.1 68 29 + 1 := by
    rw [f68, (ord_29 r0).1, if_pos k1]
  have h30 : (pArr r k x y e).1 68 30 = r := by
    rw [f68, (ord_29 r0).2, if_pos k1]
  have hg : ∀ p : Int, (pArr r k x y e).1 (76000 + r) p = if p = hN e r then 1000 * (pArr r k x y e).1 68 29 + e.1 4 14 % 1000 else e.1 (76000 + r) p := fun p => by
    have e0 : (pArr r k x y e).1 (76000 + r) p = (pPut r k x y (e.1 4 14) (e.1 4 16) e).1 (76000 + r) p := eS_a (by omega)
    rw [e0, put_G r0, if_pos k1, f68]
  have hgj : ∀ j p : Int, j ≠ r → 0 ≤ j → j < e.1 7 2 → (pArr r k x y e).1 (76000 + j) p = e.1 (76000 + j) p := fun j p hj j0 j1 => arr_a (by omega) (by omega) (by omega) (by omega) (by omega)
  have hD : ∀ j : Int, 0 ≤ j → j < e.1 7 2 → (Dead (pArr r k x y e) j ↔ Dead e j) := fun j j0 j1 => Dead.eq (arr_a (by omega) (by omega) (by omega) (by omega) (by omega))
  have b29 : e.1 68 29 ≤ (pArr r k x y e).1 68 29 := by rw [h29]; split <;> omega
  -- an arrival of the new history: old or new
  have hA : ∀ i p : Int, isA (pArr r k x y e) i p → (isA e i p ∧ oA (pArr r k x y e) i p = oA e i p ∧ gA' (pArr r k x y e) i p = gA' e i p) ∨ ((i = r ∧ p = hN e r) ∧ oA (pArr r k x y e) i p = e.1 4 16 ∧ gA' (pArr r k x y e) i p = (pArr r k x y e).1 68 29) := fun i p ⟨⟨i0, i1⟩, ⟨p0, p1⟩, hk⟩ => by
    rw [e7] at i1
    by_cases ci : i = r
    · subst ci
      rw [g1] at p1
      by_cases cp : p = hN e i
      · subst cp
        refine Or.inr ⟨⟨rfl, rfl⟩, ?_, ?_⟩
        · unfold oA
          rw [g2, show Ev1 (eH e i) (hN e i) (evP k x y (e.1 4 14) (e.1 4 16)) (hN e i) = evP k x y (e.1 4 14) (e.1 4 16) from if_pos rfl]
          exact (evP_w k1 a1).2
        · unfold gA'
          rw [hg, if_pos rfl]
          omega
      · have e1 : eH (pArr i k x y e) i p = eH e i p := by rw [g2]; exact if_neg cp
        rw [e1] at hk
        refine Or.inl ⟨⟨⟨i0, i1⟩, ⟨p0, by omega⟩, hk⟩, ?_, ?_⟩
        · unfold oA; rw [e1]
        · unfold gA'; rw [hg, if_neg cp]
    · rw [hH i ci] at hk
      rw [hNj i ci i0 i1] at p1
      refine Or.inl ⟨⟨⟨i0, i1⟩, ⟨p0, p1⟩, hk⟩, ?_, ?_⟩
      · unfold oA; rw [hH i ci]
      · unfold gA'; rw [hgj i p ci i0 i1]
  -- others lie below the new
  have low : ∀ j q : Int, j ≠ r → ¬ Dead e r → ¬ Dead e j → isA e j q → gA' e j q < (pArr r k x y e).1 68 29 := fun j q hj hdr hdj hq => by
    rw [h29]
    by_cases c : e.1 68 30 = r
    · rw [if_pos c]
      exact h3 (by omega) (by rw [c]; exact hdr) j q (by omega) hdj hq
    · rw [if_neg c]
      have := (h1 j q hq).2
      omega
  refine ⟨⟨by omega, by omega, by omega⟩, fun i p ha => ?_, fun i j p q hij hi hj hp hq => ?_, fun h0 hd0 j q hj hdj hq => ?_, fun i i0 i1 => ?_⟩
  · rcases hA i p ha with ⟨q1, q2, q3⟩ | ⟨q1, q2, q3⟩
    · have := h1 i p q1
      rw [q2, q3]
      omega
    · rw [q2, q3]
      omega
  · have i1 : i < e.1 7 2 := by have := hp.1.2; omega
    have j1 : j < e.1 7 2 := by have := hq.1.2; omega
    have di := fun d => hi ((hD i hp.1.1 i1).mpr d)
    have dj := fun d => hj ((hD j hq.1.1 j1).mpr d)
    rcases hA i p hp with ⟨q1, q2, q3⟩ | ⟨q1, q2, q3⟩
    · rcases hA j q hq with ⟨u1, u2, u3⟩ | ⟨u1, u2, u3⟩
      · rw [q2, q3, u2, u3]
        exact h2 i j p q hij di dj q1 u1
      · rw [q2, q3, u2, u3]
        have l1 := (h1 i p q1).1
        have l2 := low i p (by omega) (by rw [← u1.1]; exact dj) di q1
        omega
    · rcases hA j q hq with ⟨u1, u2, u3⟩ | ⟨u1, u2, u3⟩
      · rw [q2, q3, u2, u3]
        have l1 := (h1 j q u1).1
        have l2 := low j q (by omega) (by rw [← q1.1]; exact di) dj u1
        omega
      · omega
  · rw [h30] at hd0 hj
    have j1 : j < e.1 7 2 := by have := hq.1.2; omega
    rcases hA j q hq with ⟨u1, u2, u3⟩ | ⟨u1, u2, u3⟩
    · rw [u3]
      exact low j q hj (fun d => hd0 ((hD r r0 r1).mpr d)) (fun d => hdj ((hD j hq.1.1 j1).mpr d)) u1
    · exact absurd u1.1 hj
  · rw [e7] at i1
    intro k' k0' k1' hk'
    by_cases ci : i = r
    · subst ci
      rw [g1] at k1'
      by_cases cp : k' = hN e i
      · subst cp
        rw [g2, show Ev1 (eH e i) (hN e i) (evP k x y (e.1 4 14) (e.1 4 16)) (hN e i) = evP k x y (e.1 4 14) (e.1 4 16) from if_pos rfl, evP_k k0] at hk'
        omega
      · have e1 : eH (pArr i k x y e) i k' = eH e i k' := by rw [g2]; exact if_neg cp
        rw [e1] at hk' ⊢
        rw [hg, if_neg cp]
        exact h5 i i0 i1 k' k0' (by omega) hk'
    · rw [hH i ci] at hk' ⊢
      rw [hNj i ci i0 i1] at k1'
      rw [hgj i k' ci i0 i1]
      exact h5 i i0 i1 k' k0' k1' hk'
/-- another run -/
theorem OI.nrun (h : OI e) (hc : CN e) : OI (pNewRun t tn ver par pe e) := by
  have n7 := hc.1
  obtain ⟨⟨a1, a2, a3⟩, h1, h2, h3, h5⟩ := h
  have f1 : ∀ a u : Int, a ≠ 7 → a ≠ 7000 + e.1 7 2 → a ≠ 71000 + e.1 7 2 → (pNewRun t tn ver par pe e).1 a u = e.1 a u := fun a u g1 g2 g3 => pNewRun_1 g1 g2 g3
  have fn : (pNewRun t tn ver par pe e).1 7 2 = e.1 7 2 + 1 := pNewRun_n
  have fZ : hN (pNewRun t tn ver par pe e) (e.1 7 2) = 0 := pNewRun_h n7.1
  have hA : ∀ r p : Int, isA (pNewRun t tn ver par pe e) r p → isA e r p ∧ oA (pNewRun t tn ver par pe e) r p = oA e r p ∧ gA' (pNewRun t tn ver par pe e) r p = gA' e r p ∧ (Dead (pNewRun t tn ver par pe e) r ↔ Dead e r) := fun r p ⟨⟨r0, r1⟩, ⟨p0, p1⟩, hk⟩ => by
    rw [fn] at r1
    have cr : r ≠ e.1 7 2 := fun cr => by
      rw [cr, fZ] at p1
      omega
    have hNr : hN (pNewRun t tn ver par pe e) r = hN e r := f1 _ _ (by omega) (by omega) (by omega)
    rw [hNr] at p1
    exact ⟨⟨⟨r0, by omega⟩, ⟨p0, p1⟩, hk⟩, rfl, by unfold gA'; rw [f1 _ _ (by omega) (by omega) (by omega)], Dead.eq (f1 _ _ (by omega) (by omega) (by omega))⟩
  refine ⟨⟨by rw [f1 _ _ (by omega) (by omega) (by omega)]; exact a1, by rw [f1 _ _ (by omega) (by omega) (by omega)]; exact a2, by rw [f1 _ _ (by omega) (by omega) (by omega), fn]; omega⟩, fun r p ha => ?_, fun i j p q hij hi hj hp hq => ?_, fun h0 hd0 j q hj hdj hq => ?_, fun r r0 r1 => ?_⟩
  · obtain ⟨q1, q2, q3, q4⟩ := hA r p ha
    rw [q2, q3, f1 _ _ (by omega) (by omega) (by omega), f1 _ _ (by omega) (by omega) (by omega)]
    exact h1 r p q1
  · obtain ⟨q1, q2, q3, q4⟩ := hA i p hp
    obtain ⟨u1, u2, u3, u4⟩ := hA j q hq
    rw [q2, q3, u2, u3]
    exact h2 i j p q hij (fun d => hi (q4.mpr d)) (fun d => hj (u4.mpr d)) q1 u1
  · obtain ⟨q1, q2, q3, q4⟩ := hA j q hq
    rw [f1 68 30 (by omega) (by omega) (by omega)] at h0 hd0 hj
    rw [q3, f1 _ _ (by omega) (by omega) (by omega)]
    exact h3 h0 (fun d => hd0 ((Dead.eq (f1 _ _ (by omega) (by omega) (by omega))).mpr d)) j q hj (fun d => hdj (q4.mpr d)) q1
  · rw [fn] at r1
    intro k k0 k1 hk
    by_cases cr : r = e.1 7 2
    · rw [cr, fZ] at k1
      omega
    · have hNr : hN (pNewRun t tn ver par pe e) r = hN e r := f1 _ _ (by omega) (by omega) (by omega)
      rw [hNr] at k1
      rw [f1 _ _ (by omega) (by omega) (by omega)]
      exact h5 r r0 (by omega) k k0 k1 hk
theorem OI.start (h : OI e) (hc : CN e) (hn : e.1 7 2 < 30) : OI (pStart t tn inp par pe e) :=
  h.nrun hc |>.arr (hc.nrun hn) hc.1.1 (by rw [pNewRun_n]; omega) (by rw [show hN (pNewRun t tn (e.1 (48 + 4 * t + 1) 2 - 1) par pe e) (e.1 7 2) = 0 from pNewRun_h hc.1.1]; omega) (Int.le_refl _) (by decide)
/-- a command, a TASK is put -/
theorem OI.put (h : OI e) (hc : CN e) (r0 : 0 ≤ r) (r1 : r < e.1 7 2) (hn : 0 ≤ hN e r) (k8 : 8 ≤ k) (t0 : 0 ≤ t) (t1 : t < 1000000) : OI (pPut r k x y t o e) := by
  have n7 := hc.1
  obtain ⟨⟨a1, a2, a3⟩, h1, h2, h3, h5⟩ := h
  have pa : ∀ a u : Int, a ≠ 68 → a ≠ 3 → a ≠ 76000 + r → a ≠ 71000 + r → (pPut r k x y t o e).1 a u = e.1 a u := fun a u q1 q2 q3 q4 => put_a q1 q2 q3 q4
  have e7 : (pPut r k x y t o e).1 7 2 = e.1 7 2 := pa _ _ (by omega) (by omega) (by omega) (by omega)
  have f68 : (pPut r k x y t o e).1 68 29 = e.1 68 29 ∧ (pPut r k x y t o e).1 68 30 = e.1 68 30 := by
    rw [put_68 r0, put_68 r0, (ord_29 r0).1, (ord_29 r0).2, if_neg (by omega), if_neg (by omega)]
    exact ⟨rfl, rfl⟩
  have hp : ∀ j : Int, 0 ≤ j → j < e.1 7 2 → hN (pPut r k x y t o e) j = (if j = r then hN e j + 1 else hN e j) ∧ eH (pPut r k x y t o e) j = if j = r then Ev1 (eH e j) (hN e j) (evP k x y t o) else eH e j := fun j j0 j1 => put_hN r0 j0 (by omega)
  have hg : ∀ p : Int, (pPut r k x y t o e).1 (76000 + r) p = if p = hN e r then t else e.1 (76000 + r) p := fun p => by
    rw [put_G r0, if_neg (show ¬ k ≤ 7 by omega)]
  have hgj : ∀ j p : Int, j ≠ r → 0 ≤ j → j < e.1 7 2 → (pPut r k x y t o e).1 (76000 + j) p = e.1 (76000 + j) p := fun j p hj j0 j1 => pa _ _ (by omega) (by omega) (by omega) (by omega)
  have hD : ∀ j : Int, 0 ≤ j → j < e.1 7 2 → (Dead (pPut r k x y t o e) j ↔ Dead e j) := fun j j0 j1 => Dead.eq (pa _ _ (by omega) (by omega) (by omega) (by omega))
  have hA : ∀ i p : Int, isA (pPut r k x y t o e) i p → isA e i p ∧ oA (pPut r k x y t o e) i p = oA e i p ∧ gA' (pPut r k x y t o e) i p = gA' e i p := fun i p ⟨⟨i0, i1⟩, ⟨p0, p1⟩, hk⟩ => by
    rw [e7] at i1
    obtain ⟨u1, u2⟩ := hp i i0 i1
    by_cases ci : i = r
    · subst ci
      rw [if_pos rfl] at u1 u2
      rw [u1] at p1
      by_cases cp : p = hN e i
      · subst cp
        rw [u2, show Ev1 (eH e i) (hN e i) (evP k x y t o) (hN e i) = evP k x y t o from if_pos rfl, evP_k (by omega)] at hk
        omega
      · have e1 : eH (pPut i k x y t o e) i p = eH e i p := by rw [u2]; exact if_neg cp
        rw [e1] at hk
        refine ⟨⟨⟨i0, i1⟩, ⟨p0, by omega⟩, hk⟩, ?_, ?_⟩
        · unfold oA; rw [e1]
        · unfold gA'; rw [hg, if_neg cp]
    · rw [if_neg ci] at u1 u2
      rw [u2] at hk
      rw [u1] at p1
      refine ⟨⟨⟨i0, i1⟩, ⟨p0, p1⟩, hk⟩, ?_, ?_⟩
      · unfold oA; rw [u2]
      · unfold gA'; rw [hgj i p ci i0 i1]
  refine ⟨⟨by rw [pa _ _ (by omega) (by omega) (by omega) (by omega)]; exact a1, by rw [f68.1]; exact a2, by rw [f68.2, e7]; exact a3⟩, fun i p ha => ?_, fun i j p q hij hi hj hp hq => ?_, fun h0 hd0 j q hj hdj hq => ?_, fun i i0 i1 => ?_⟩
  · obtain ⟨q1, q2, q3⟩ := hA i p ha
    rw [q2, q3, f68.1, pa _ _ (by omega) (by omega) (by omega) (by omega)]
    exact h1 i p q1
  · obtain ⟨q1, q2, q3⟩ := hA i p hp
    obtain ⟨u1, u2, u3⟩ := hA j q hq
    rw [q2, q3, u2, u3]
    exact h2 i j p q hij (fun d => hi ((hD i q1.1.1 q1.1.2).mpr d)) (fun d => hj ((hD j u1.1.1 u1.1.2).mpr d)) q1 u1
  · obtain ⟨u1, u2, u3⟩ := hA j q hq
    rw [f68.2] at h0 hd0 hj
    rw [u3, f68.1]
    exact h3 h0 (fun d => hd0 ((hD _ h0 a3).mpr d)) j q hj (fun d => hdj ((hD j u1.1.1 u1.1.2).mpr d)) u1
  · rw [e7] at i1
    obtain ⟨u1, u2⟩ := hp i i0 i1
    intro k' k0' k1' hk'
    by_cases ci : i = r
    · subst ci
      rw [if_pos rfl] at u1 u2
      rw [u1] at k1'
      by_cases cp : k' = hN e i
      · subst cp
        have e2 : eH (pPut i k x y t o e) i (hN e i) = evP k x y t o := by rw [u2]; exact if_pos rfl
        rw [e2, evP_k (by omega)] at hk'
        rw [hg, if_pos rfl, e2]
        show t = ((if k ≤ 7 then (1024 * o + t % 1000).toNat else t.toNat : Nat) : Int) ∧ ((if k ≤ 7 then (1024 * o + t % 1000).toNat else t.toNat : Nat) : Int) < 1000000
        rw [if_neg (by omega)]
        omega
      · have e1 : eH (pPut i k x y t o e) i k' = eH e i k' := by rw [u2]; exact if_neg cp
        rw [e1] at hk' ⊢
        rw [hg, if_neg cp]
        exact h5 i i0 i1 k' k0' (by omega) hk'
    · rw [if_neg ci] at u1 u2
      rw [u2] at hk' ⊢
      rw [u1] at k1'
      rw [hgj i k' ci i0 i1]
      exact h5 i i0 i1 k' k0' k1' hk'
end ODR
