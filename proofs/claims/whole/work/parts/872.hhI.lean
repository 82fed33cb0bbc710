/-! ALL THAT STANDS BETWEEN THE CALLS: set back. -/
section HHK
variable {e e' e1 e2 : ES} {W : Int → Int → Prop} {S D T S' D' T' a b c d i j k q r v w N M p y t o p1 p2 : Int} {n : Nat}
/-- what the copy's beginning leaves of links and histories -/
theorem HK.sb5 (h : HK S D T W noX e) (hW : ∀ q j : Int, ¬ W q j) (z : NZ e) (r0 : 0 ≤ r) (r1 : r < e.1 7 2) (hd : ¬ Dead e r) (hn : e.1 7 2 < 30) (N0 : 0 < N) (N1 : N ≤ hN e r) (hl : lcm (eH e r) N = 0) : HK S D T W noX (pSb5 r N e) ∧ NZ (pSb5 r N e) ∧ RLo (e.1 7 2) 0 (pSb5 r N e) := by
  have hc := h.cn
  have n7 := hc.1
  have pa : ∀ a u : Int, a ≠ 7000 + r ∨ u ≠ 6 → (eS e (7000 + r) 6 5).1 a u = e.1 a u := fun a u hh => by rw [es_pt, if_neg (by omega)]
  have e7 : (eS e (7000 + r) 6 5).1 7 2 = e.1 7 2 := pa _ _ (by omega)
  have h1 := h.dies (st := 5) r0 r1 hd (by decide) (by decide)
  have k1 : CN (eS e (7000 + r) 6 5) := h1.cn
  have hpr := h.pr r r0 r1
  have hdm : ∀ p : Int, Dead e p → Dead (eS e (7000 + r) 6 5) p := fun p d => by
    unfold Dead at d ⊢
    rw [es_pt]
    split
    · decide
    · exact d
  have h2 := h1.nrun (t := e.1 (7000 + r) 1) (tn := e.1 (7000 + r) 2) (ver := e.1 (7000 + r) 3) (par := e.1 (7000 + r) 4) (pe := e.1 (7000 + r) 5) (X' := noX) (by rw [e7]; exact hn) (by rw [e7]; exact hpr) (fun p0 pd => Or.inr ⟨rfl, rfl, rfl, ⟨p0, hpr.2⟩, fun d => pd (hdm _ d)⟩) fun _ _ _ g => g.elim
  have t2 := tot_nrun (t := e.1 (7000 + r) 1) (tn := e.1 (7000 + r) 2) (ver := e.1 (7000 + r) 3) (par := e.1 (7000 + r) 4) (pe := e.1 (7000 + r) 5) k1
  rw [tot_die hc r0 r1 hd (by decide) (by decide)] at t2
  have w1 : pSb1 r e = pNewRun (e.1 (7000 + r) 1) (e.1 (7000 + r) 2) (e.1 (7000 + r) 3) (e.1 (7000 + r) 4) (e.1 (7000 + r) 5) (eS e (7000 + r) 6 5) := nrun_cm n7.1 r0 r1
  rw [← w1] at h2 t2
  have a1 : ∀ a u : Int, a ≠ 7 → a ≠ 7000 + e.1 7 2 → a ≠ 71000 + e.1 7 2 → (a ≠ 7000 + r ∨ u ≠ 6) → (pSb1 r e).1 a u = e.1 a u := fun a u q1 q2 q3 q4 => sb1_a n7.1 q1 q2 q3 q4
  have s7 : (pSb1 r e).1 7 2 = e.1 7 2 + 1 := by rw [w1, pNewRun_n, e7]
  have sN : hN (pSb1 r e) (e.1 7 2) = 0 := by
    rw [w1]
    have := pNewRun_h (t := e.1 (7000 + r) 1) (p1 := e.1 (7000 + r) 2) (p2 := e.1 (7000 + r) 3) (p3 := e.1 (7000 + r) 4) (p4 := e.1 (7000 + r) 5) (e := eS e (7000 + r) 6 5) (by rw [e7]; exact n7.1)
    rw [e7] at this
    exact this
  have sNr : ∀ q : Int, 0 ≤ q → q < e.1 7 2 → hN (pSb1 r e) q = hN e q := fun q q0 q1 => a1 _ _ (by omega) (by omega) (by omega) (by omega)
  have sH : ∀ q : Int, eH (pSb1 r e) q = eH e q := fun q => rfl
  have sD : ∀ q : Int, 0 ≤ q → q < e.1 7 2 → q ≠ r → (Dead (pSb1 r e) q ↔ Dead e q) := fun q q0 q1 hq => Dead.eq (a1 _ _ (by omega) (by omega) (by omega) (by omega))
  have hdr : Dead (pSb1 r e) r := by
    unfold Dead
    have : (pSb1 r e).1 (7000 + r) 6 = 5 := eS_e
    rw [this]
    decide
  have hdk : ¬ Dead (pSb1 r e) (e.1 7 2) := by
    unfold Dead
    rw [w1]
    have := pNewRun_f (t := e.1 (7000 + r) 1) (p1 := e.1 (7000 + r) 2) (p2 := e.1 (7000 + r) 3) (p3 := e.1 (7000 + r) 4) (p4 := e.1 (7000 + r) 5) (e := eS e (7000 + r) 6 5) (j := 6) (by rw [e7]; exact n7.1)
    rw [e7] at this
    rw [this]
    exact fun hh => hh.1 rfl
  have hcr : csr e r = csg (eH e r) (hN e r).toNat := rfl
  have hst := h.1.2.2
  have hm := csg_m (E := eH e r) ((hN e r).toNat - N.toNat) N.toNat
  rw [show N.toNat + ((hN e r).toNat - N.toNat) = (hN e r).toNat by omega] at hm
  obtain ⟨h3, t3⟩ := h2.copy hW (k := e.1 7 2) (r := r) (N := N) n7.1 (by omega) sN r0 (by omega) (by omega) (by rw [sNr r r0 r1]; exact N1) (by rw [sH]; exact hl) (by rw [sH]; omega)
  rw [sH] at t3
  -- the whens
  have cW : ∀ a u : Int, a ≠ 76000 + e.1 7 2 → (eW (e.1 7 2) r (pFstH (e.1 7 2) r N (pSb1 r e))).1 a u = (pFstH (e.1 7 2) r N (pSb1 r e)).1 a u := fun a u ha => eW_a ha
  have h4 : HK S D T W noX (eW (e.1 7 2) r (pFstH (e.1 7 2) r N (pSb1 r e))) := h3.frm0 (fun _ _ _ g => g) (h3.cn.of fun a ha => cW _ _ (by omega)) (by rw [cW _ _ (by omega)]; exact h3.1.1.2.1) (fun a u ha => cW _ _ (by omega)) (fun _ _ _ => ⟨rfl, rfl⟩) fun _ _ _ => rfl
  have h5 := h4.endw (r := r) r0 (by omega)
  have h6 := h5.parts (r := r) (fr := 0)
  have w6 : pPar r 0 (pEnd r (eW (e.1 7 2) r (pFstH (e.1 7 2) r N (pSb1 r e)))) = pSb5 r N e := rfl
  -- frames
  have f4 : ∀ a u : Int, a ≠ 71000 + e.1 7 2 → a ≠ 76000 + e.1 7 2 → (eW (e.1 7 2) r (pFstH (e.1 7 2) r N (pSb1 r e))).1 a u = (pSb1 r e).1 a u := fun a u g1 g2 => (cW a u g2).trans (eS_a g1)
  have c8 := h4.cn.2.1
  have c7 := h4.cn.1
  have f5 : ∀ a u : Int, a < 8000 ∨ 9000 ≤ a ∨ u ≠ 5 → (pEnd r (eW (e.1 7 2) r (pFstH (e.1 7 2) r N (pSb1 r e)))).1 a u = (eW (e.1 7 2) r (pFstH (e.1 7 2) r N (pSb1 r e))).1 a u := fun a u ha => end_a (by omega)
  have c75 := h5.cn.1
  have f6 : ∀ a u : Int, (a < 8000 ∨ 9000 ≤ a ∨ u ≠ 5) → (a < 7000 ∨ 8000 ≤ a ∨ u ≠ 4) → (pSb5 r N e).1 a u = (eW (e.1 7 2) r (pFstH (e.1 7 2) r N (pSb1 r e))).1 a u := fun a u ha hb => (par_a (r := r) (fr := 0) (e := pEnd r (eW (e.1 7 2) r (pFstH (e.1 7 2) r N (pSb1 r e)))) (by omega)).trans (f5 a u ha)
  have q7 : (pSb5 r N e).1 7 2 = e.1 7 2 + 1 := by rw [f6 _ _ (by omega) (by omega), f4 _ _ (by omega) (by omega)]; exact s7
  have qN : hN (pSb5 r N e) (e.1 7 2) = N := by
    have h1 : hN (pSb5 r N e) (e.1 7 2) = hN (eW (e.1 7 2) r (pFstH (e.1 7 2) r N (pSb1 r e))) (e.1 7 2) := f6 _ _ (by omega) (by omega)
    rw [h1]
    have h2 : hN (eW (e.1 7 2) r (pFstH (e.1 7 2) r N (pSb1 r e))) (e.1 7 2) = hN (pFstH (e.1 7 2) r N (pSb1 r e)) (e.1 7 2) := cW _ _ (by omega)
    rw [h2]
    exact eS_e
  have qNr : ∀ q : Int, 0 ≤ q → q < e.1 7 2 → hN (pSb5 r N e) q = hN e q := fun q q0 q1 => by
    have h1 : hN (pSb5 r N e) q = hN (eW (e.1 7 2) r (pFstH (e.1 7 2) r N (pSb1 r e))) q := f6 _ _ (by omega) (by omega)
    rw [h1]
    have h2 : hN (eW (e.1 7 2) r (pFstH (e.1 7 2) r N (pSb1 r e))) q = hN (pSb1 r e) q := f4 _ _ (by omega) (by omega)
    rw [h2]
    exact sNr q q0 q1
  have qD : ∀ q : Int, 0 ≤ q → q < 30 → (Dead (pSb5 r N e) q ↔ Dead (pSb1 r e) q) := fun q q0 q1 => Dead.eq (by rw [f6 _ _ (by omega) (by omega), f4 _ _ (by omega) (by omega)])
  have p5 := (par_pt (r := r) (fr := 0) h5.cn).2
  have p4 := (end_pt (r := r) h4.cn).2.1
  have qH : ∀ q : Int, q ≠ e.1 7 2 → eH (pSb5 r N e) q = eH e q := fun q hq => by
    have g1 : eH (pSb5 r N e) q = eH (pEnd r (eW (e.1 7 2) r (pFstH (e.1 7 2) r N (pSb1 r e)))) q := congrFun (congrArg (·.1) p5) q
    have g2 : eH (pEnd r (eW (e.1 7 2) r (pFstH (e.1 7 2) r N (pSb1 r e)))) q = eH (eW (e.1 7 2) r (pFstH (e.1 7 2) r N (pSb1 r e))) q := congrFun p4 q
    rw [g1, g2]
    exact if_neg hq
  have z6 : NZ (pSb5 r N e) := fun q q0 q1 hd' => by
    rw [q7] at q1
    by_cases cq : q = e.1 7 2
    · rw [cq, qN]
      exact N0
    · rw [qNr q q0 (by omega)]
      by_cases cr : q = r
      · exact absurd ((qD q q0 (by omega)).mpr (by rw [cr]; exact hdr)) hd'
      · exact z q q0 (by omega) fun d => hd' ((qD q q0 (by omega)).mpr ((sD q q0 (by omega) cr).mpr d))
  have hR : RLo (e.1 7 2) 0 (pSb5 r N e) := fun k v w g => by
    have g1 : Lk noX (pEnd r (eW (e.1 7 2) r (pFstH (e.1 7 2) r N (pSb1 r e)))) k (e.1 7 2) v w := Lk.parts h5.cn g
    have g2 := Lk.endw h4.cn g1
    have g3 : Lk noX (pSb1 r e) k (e.1 7 2) v w := g2.of h2.cn (fun a u ha => f4 _ _ (by omega) (by omega)) fun _ _ _ => rfl
    have := (h2.2.2.2.1 _ _ _ _ g3).2.1
    omega
  rw [w6] at h6
  exact ⟨h6, z6, hR⟩
/-- the state behind the copy -/
theorem sb5_pt (hc : CN e) (r0 : 0 ≤ r) (r1 : r < e.1 7 2) (hn : e.1 7 2 < 30) :
    (∀ a u : Int, a ≠ 7 → a ≠ 7000 + e.1 7 2 → a ≠ 71000 + e.1 7 2 → a ≠ 76000 + e.1 7 2 → (a ≠ 7000 + r ∨ u ≠ 6) → (a < 8000 ∨ 9000 ≤ a ∨ u ≠ 5) → (a < 7000 ∨ 8000 ≤ a ∨ u ≠ 4) → (pSb5 r N e).1 a u = e.1 a u) ∧
    (∀ u : Int, u ≠ 4 → (pSb5 r N e).1 (7000 + e.1 7 2) u = fRun (e.1 7 2) (e.1 (7000 + r) 1) (e.1 (7000 + r) 2) (e.1 (7000 + r) 3) (e.1 (7000 + r) 4) (e.1 (7000 + r) 5) u) ∧
    ((∀ q : Int, 0 ≤ q → q < e.1 7 2 → (pSb5 r N e).1 (7000 + q) 4 = e.1 (7000 + q) 4 ∨ (pSb5 r N e).1 (7000 + q) 4 = -1) ∧ ((pSb5 r N e).1 (7000 + e.1 7 2) 4 = e.1 (7000 + r) 4 ∨ (pSb5 r N e).1 (7000 + e.1 7 2) 4 = -1)) ∧
    ((∀ p : Int, 0 ≤ p → p < e.1 8 2 → (pSb5 r N e).1 (8000 + p) 5 = if e.1 (8000 + p) 0 = r then 2 else e.1 (8000 + p) 5) ∧ (pSb5 r N e).1 (7000 + r) 6 = 5 ∧ (∀ p : Int, (pSb5 r N e).1 (76000 + e.1 7 2) p = e.1 (76000 + r) p) ∧ (pSb5 r N e).1 7 2 = e.1 7 2 + 1) ∧
    (hN (pSb5 r N e) (e.1 7 2) = N ∧ eH (pSb5 r N e) (e.1 7 2) = eH e r ∧ ∀ q : Int, q ≠ e.1 7 2 → eH (pSb5 r N e) q = eH e q) ∧
    (∀ c : Int, eL (pSb5 r N e) c = if c = 73000 + r ∨ c = 74000 + r ∨ c = 73000 + e.1 7 2 ∨ c = 74000 + e.1 7 2 ∨ c = 75000 + e.1 7 2 then [] else eL e c) ∧ (pSb5 r N e).2.2.2 = e.2.2.2 := by
  have n7 := hc.1
  have n8 := hc.2.1
  have a1 : ∀ a u : Int, a ≠ 7 → a ≠ 7000 + e.1 7 2 → a ≠ 71000 + e.1 7 2 → (a ≠ 7000 + r ∨ u ≠ 6) → (pSb1 r e).1 a u = e.1 a u := fun a u q1 q2 q3 q4 => sb1_a n7.1 q1 q2 q3 q4
  have hc1 : CN (eW (e.1 7 2) r (pFstH (e.1 7 2) r N (pSb1 r e))) := by
    have hcn : CN (pSb1 r e) := (hc.nrun hn).of fun a ha => by
      unfold pSb1
      rw [es_pt, if_neg (by omega)]
    refine hcn.of fun a ha => ?_
    rw [eW_a (by omega)]
    exact eS_a (by omega)
  have f4 : ∀ a u : Int, a ≠ 71000 + e.1 7 2 → a ≠ 76000 + e.1 7 2 → (eW (e.1 7 2) r (pFstH (e.1 7 2) r N (pSb1 r e))).1 a u = (pSb1 r e).1 a u := fun a u g1 g2 => (eW_a g2).trans (eS_a g1)
  have w7 : (pSb1 r e).1 7 2 = e.1 7 2 + 1 := by
    unfold pSb1
    rw [es_pt, if_neg (by omega), pNewRun_n]
  obtain ⟨q1, q2, q3, q4⟩ := end_pt (r := r) hc1
  have ce := hc1.endw (r := r)
  obtain ⟨u1, u2⟩ := par_pt (r := r) (fr := 0) ce
  have e8 : (eW (e.1 7 2) r (pFstH (e.1 7 2) r N (pSb1 r e))).1 8 2 = e.1 8 2 := by rw [f4 _ _ (by omega) (by omega), a1 _ _ (by omega) (by omega) (by omega) (by omega)]
  have f5 : ∀ a u : Int, a < 8000 ∨ 9000 ≤ a ∨ u ≠ 5 → (pEnd r (eW (e.1 7 2) r (pFstH (e.1 7 2) r N (pSb1 r e)))).1 a u = (eW (e.1 7 2) r (pFstH (e.1 7 2) r N (pSb1 r e))).1 a u := fun a u ha => end_a (by rw [e8]; omega)
  have e7' : (pEnd r (eW (e.1 7 2) r (pFstH (e.1 7 2) r N (pSb1 r e)))).1 7 2 = e.1 7 2 + 1 := by rw [f5 _ _ (by omega), f4 _ _ (by omega) (by omega), w7]
  rw [e7'] at u1
  have f6 : ∀ a u : Int, (a < 8000 ∨ 9000 ≤ a ∨ u ≠ 5) → (a < 7000 ∨ 8000 ≤ a ∨ u ≠ 4) → (pSb5 r N e).1 a u = (eW (e.1 7 2) r (pFstH (e.1 7 2) r N (pSb1 r e))).1 a u := fun a u ha hb => (u1 a u).trans ((if_neg (by omega)).trans (f5 a u ha))
  have fr : ∀ u : Int, (pSb1 r e).1 (7000 + e.1 7 2) u = fRun (e.1 7 2) (e.1 (7000 + r) 1) (e.1 (7000 + r) 2) (e.1 (7000 + r) 3) (e.1 (7000 + r) 4) (e.1 (7000 + r) 5) u := fun u => by
    unfold pSb1
    rw [es_pt, if_neg (by omega), pNewRun_f n7.1]
  refine ⟨fun a u h1 h2 h3 h4 h5 h6 h7 => by rw [f6 a u h6 h7, f4 a u h3 h4, a1 a u h1 h2 h3 h5], fun u h4 => by rw [f6 _ _ (by omega) (by omega), f4 _ _ (by omega) (by omega), fr], ⟨fun q q0 q1' => ?_, ?_⟩, ⟨fun p p0 p1 => ?_, ?_, fun p => ?_, ?_⟩, ⟨?_, ?_, fun q hq => ?_⟩, fun c => ?_, ?_⟩
  · have := u1 (7000 + q) 4
    have g : (pEnd r (eW (e.1 7 2) r (pFstH (e.1 7 2) r N (pSb1 r e)))).1 (7000 + q) 4 = e.1 (7000 + q) 4 := by rw [f5 _ _ (by omega), f4 _ _ (by omega) (by omega), a1 _ _ (by omega) (by omega) (by omega) (by omega)]
    split at this
    · exact Or.inr this
    · exact Or.inl (this.trans g)
  · have := u1 (7000 + e.1 7 2) 4
    have g : (pEnd r (eW (e.1 7 2) r (pFstH (e.1 7 2) r N (pSb1 r e)))).1 (7000 + e.1 7 2) 4 = e.1 (7000 + r) 4 := by
      rw [f5 _ _ (by omega), f4 _ _ (by omega) (by omega), fr]
      rfl
    split at this
    · exact Or.inr this
    · exact Or.inl (this.trans g)
  · have g := u1 (8000 + p) 5
    rw [if_neg (by omega), q1, e8] at g
    have g0 : ∀ u : Int, (eW (e.1 7 2) r (pFstH (e.1 7 2) r N (pSb1 r e))).1 (8000 + p) u = e.1 (8000 + p) u := fun u => by rw [f4 _ _ (by omega) (by omega), a1 _ _ (by omega) (by omega) (by omega) (by omega)]
    rw [g0, g0] at g
    refine Eq.trans g ?_
    by_cases c : e.1 (8000 + p) 0 = r
    · rw [if_pos ⟨by omega, rfl, c⟩, if_pos c]
    · rw [if_neg (fun hh => c hh.2.2), if_neg c]
  · rw [f6 _ _ (by omega) (by omega), f4 _ _ (by omega) (by omega)]
    exact eS_e
  · rw [f6 _ _ (by omega) (by omega)]
    have g : (eW (e.1 7 2) r (pFstH (e.1 7 2) r N (pSb1 r e))).1 (76000 + e.1 7 2) p = (pFstH (e.1 7 2) r N (pSb1 r e)).1 (76000 + r) p := if_pos rfl
    rw [g]
    exact (eS_a (by omega)).trans (a1 _ _ (by omega) (by omega) (by omega) (by omega))
  · rw [f6 _ _ (by omega) (by omega), f4 _ _ (by omega) (by omega), w7]
  · have g : hN (pSb5 r N e) (e.1 7 2) = hN (eW (e.1 7 2) r (pFstH (e.1 7 2) r N (pSb1 r e))) (e.1 7 2) := f6 _ _ (by omega) (by omega)
    rw [g]
    exact (eW_a (by omega)).trans eS_e
  · have g1 : eH (pSb5 r N e) (e.1 7 2) = eH (pEnd r (eW (e.1 7 2) r (pFstH (e.1 7 2) r N (pSb1 r e)))) (e.1 7 2) := congrFun (congrArg (·.1) u2) _
    rw [g1, show eH (pEnd r (eW (e.1 7 2) r (pFstH (e.1 7 2) r N (pSb1 r e)))) (e.1 7 2) = eH (eW (e.1 7 2) r (pFstH (e.1 7 2) r N (pSb1 r e))) (e.1 7 2) from congrFun q2 _]
    exact if_pos rfl
  · have g1 : eH (pSb5 r N e) q = eH (pEnd r (eW (e.1 7 2) r (pFstH (e.1 7 2) r N (pSb1 r e)))) q := congrFun (congrArg (·.1) u2) _
    rw [g1, show eH (pEnd r (eW (e.1 7 2) r (pFstH (e.1 7 2) r N (pSb1 r e)))) q = eH (eW (e.1 7 2) r (pFstH (e.1 7 2) r N (pSb1 r e))) q from congrFun q2 _]
    exact if_neg hq
  · have g1 : eL (pSb5 r N e) c = eL (pEnd r (eW (e.1 7 2) r (pFstH (e.1 7 2) r N (pSb1 r e)))) c := congrFun (congrArg (·.2.1) u2) _
    have g2 : eL (eW (e.1 7 2) r (pFstH (e.1 7 2) r N (pSb1 r e))) c = if c = 75000 + e.1 7 2 then [] else if c = 74000 + e.1 7 2 then [] else if c = 73000 + e.1 7 2 then [] else eL e c := rfl
    rw [g1, q4, g2]
    by_cases c1 : c = 73000 + r ∨ c = 74000 + r
    · rw [if_pos c1, if_pos (by omega)]
    · rw [if_neg c1]
      by_cases c2 : c = 75000 + e.1 7 2
      · rw [if_pos c2, if_pos (by omega)]
      · rw [if_neg c2]
        by_cases c3 : c = 74000 + e.1 7 2
        · rw [if_pos c3, if_pos (by omega)]
        · rw [if_neg c3]
          by_cases c4 : c = 73000 + e.1 7 2
          · rw [if_pos c4, if_pos (by omega)]
          · rw [if_neg c4, if_neg (by omega)]
  · have g1 : (pSb5 r N e).2.2.2 = (pEnd r (eW (e.1 7 2) r (pFstH (e.1 7 2) r N (pSb1 r e)))).2.2.2 := congrArg (·.2.2) u2
    rw [g1, q3]
    rfl
end HHK
