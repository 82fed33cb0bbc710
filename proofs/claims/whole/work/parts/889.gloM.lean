/-! A COMPLETE that is not stale: what it comes to; THE GLOBAL NUMBERS behind it. -/
section GLN
variable {e e' e3 : ES} {S D T a b c d i j k k' q r v w N M p y t o p1 p2 : Int} {n : Nat}
/-- either the run is found stuck, or news and a TASK are put and carried out -/
theorem cmp_two (h : HH S D T e) (hw : WX e) (ht : 0 ≤ e.1 4 14 ∧ e.1 4 14 < 1000000) (hb2 : S + 2 * (D + 1) + 2 * T ≤ 540) (c0 : 0 ≤ p1 ∧ p1 < e.1 9 2) (hr : e.1 (9000 + p1) 1 = r) (c1 : e.1 (9000 + p1) 5 = 0 ∧ e.1 (7000 + r) 6 = 0 ∧ pMark e r = e.1 (9000 + p1) 4) : (0 ≤ r ∧ r < e.1 7 2) ∧ ∃ Q QB, CmB p1 e Q QB ∧
    (sg (sBeh (pCmpX p1 e) (pCmpS p1 e)) 0 30 = 0 → (pcComplete p1 e).2 = pCarL r (sn (cTd p1 e)).length (hN e r) (pPN r p1 (cG p1 e) (cE0 p1 e)) ∧ CN (pPN r p1 (cG p1 e) (cE0 p1 e)) ∧ HNN (pPN r p1 (cG p1 e) (cE0 p1 e)) ∧ EX (pPN r p1 (cG p1 e) (cE0 p1 e)) (pCarL r (sn (cTd p1 e)).length (hN e r) (pPN r p1 (cG p1 e) (cE0 p1 e)))) ∧
    (¬ sg (sBeh (pCmpX p1 e) (pCmpS p1 e)) 0 30 = 0 → (pcComplete p1 e).2 = eS (eS (cE0 p1 e) (7000 + r) 6 6) (7000 + r) 7 (sg (sBeh (pCmpX p1 e) (pCmpS p1 e)) 0 31)) := by
  have hc := h.cn
  have n7 := hc.1
  have n9 := hc.2.2.1
  obtain ⟨h1, h2, h3⟩ := h
  obtain ⟨kO, kK, kV, ⟨kT, kR⟩, kN⟩ := h3
  obtain ⟨r0, r1⟩ := kR p1 c0.1 c0.2
  rw [hr] at r0 r1
  have hrun := hw.run r0 r1
  have hcode := (hw.glo.2.2.2.2.2.2.1 _ (isT_4 hrun.1.1 hrun.1.2)).2 _ hrun.2.2.1.1 (by have := hrun.2.2.1.2; omega)
  have hty := hrun.1
  have hv3 := hrun.2.2.1
  have n48 := hc.2.2.2.2 _ (isT_4 hty.1 hty.2)
  obtain ⟨Q, QB, hB⟩ := cmp_b h1 c0.1 c0.2 (hw.tsk c0.1 c0.2).1.1 (by rw [hr]; exact r0) (by rw [hr]; exact r1) (by rw [hr]; exact hcode) (by rw [hr]; exact ⟨hv3.1, by omega⟩) kK kT (by rw [hr]; exact c1.2.1) (by rw [hr]; exact c1.2.2)
  have hs := c1.2.1
  have eg : pKept r (e.1 (9000 + p1) 0) (eS e (9000 + p1) 5 1) = cG p1 e := by rw [← hr]; rfl
  obtain ⟨z1, z2, z3, z4⟩ := e0_g (k := p1) (e := e)
  have hNM : hN (eM (pCmp2 p1 e) (-1) (pCmpS p1 e) (pCmpB p1 e)) r = hN e r := (eM_eq.1 _ _ (by omega)).trans (cmp2_a (by omega) (by omega))
  have hE : (pcComplete p1 e).2 = (pcComp2 r p1 (cG p1 e) (pCmpX p1 e) (pCmpS p1 e) (pCmpB p1 e) (eM (pCmp2 p1 e) (-1) (pCmpS p1 e) (pCmpB p1 e))).2 := by
    unfold pcComplete
    rw [if_pos c0, hr, if_pos c1, eg]
  refine ⟨⟨r0, r1⟩, Q, QB, hB, fun hbe => ?_, fun hbe => ?_⟩
  · have s4 : sn (pCmpS p1 e) = sn (cTd p1 e) := (cmp_S hB hbe).2.2.2.1
    have hE2 : (pcComplete p1 e).2 = pCarL r (sn (cTd p1 e)).length (hN e r) (pPN r p1 (cG p1 e) (cE0 p1 e)) := by
      rw [hE]
      unfold pcComp2
      rw [if_pos hbe, hNM, s4]
      rfl
    obtain ⟨⟨a1, a2⟩, ⟨a3, a4⟩, a5, -, a7, a8, a9, a10⟩ := cmp_pn h1 h2 kO hB c0.1 c0.2 hr.symm r0 r1 hs ht hb2 hbe
    generalize hG : pPN r p1 (cG p1 e) (cE0 p1 e) = e3 at a1 a2 a3 a4 a5 a7 a8 a9 a10 hE2 ⊢
    obtain ⟨g1, g2, g3, ⟨g4, g5, g6, g7, g8⟩, ⟨g9, g10, g11, g12⟩, ⟨g13, g14, g15⟩, g16, g17⟩ := cmp_fr h1 hB c0.1 c0.2 hr.symm r0 r1 hbe hG
    rw [s4] at a1 a5
    have e7 : e3.1 7 2 = e.1 7 2 := g1 _ _ (by omega) (by omega) (by omega) (by omega) (by omega) (by omega) (by omega) (by omega)
    have hs3 : e3.1 (7000 + r) 6 = 0 := (g1 _ _ (by omega) (by omega) (by omega) (by omega) (by omega) (by omega) (by omega) (by omega)).trans hs
    have ht3 : 0 ≤ e3.1 4 14 ∧ e3.1 4 14 < 1000000 := by
      rw [g1 _ _ (by omega) (by omega) (by omega) (by omega) (by omega) (by omega) (by omega) (by omega)]
      exact ht
    have hl := h1.1.len r0 r1
    obtain ⟨v1, -, -⟩ := gc_carL r0 (sn (cTd p1 e)).length (hN e r) e3 a1 a2 a3 ht3 (fun _ => ⟨by rw [e7]; exact r1, hs3, hl.1, by omega⟩) a5 (fun j j0 j1 => by
      rw [show j = hN e r + (sn (cTd p1 e)).length by omega]
      exact Or.inr g7) fun _ => ⟨a7, a8, a9⟩
    exact ⟨hE2, a1.cn, a1.hnn, v1.1.1⟩
  · rw [hE]
    unfold pcComp2
    rw [if_neg hbe]
    rfl
theorem GLo.fr3 (h : GLo k e) (hc : CN e) (hc' : CN e') (h4 : ∀ u : Int, u = 13 ∨ u = 15 ∨ u = 17 → e'.1 4 u = e.1 4 u) (h10 : ∀ a u : Int, 9 ≤ a → a ≤ 67 → a ≠ 16 → e'.1 a u = e.1 a u) (h9 : ∀ a u : Int, 9000 ≤ a → a < 11000 → e'.1 a u = e.1 a u) (h7 : e.1 7 2 ≤ e'.1 7 2) (hl : ∀ c : Int, 48000 ≤ c → c < 62000 → eL e' c = eL e c) : GLo k e' := by
  have pt : ∀ a u : Int, ((fun a u => if a = 16 then e.1 16 u else e'.1 a u, e'.2) : ES).1 a u = if a = 16 then e.1 16 u else e'.1 a u := fun _ _ => rfl
  have g : GLo k ((fun a u => if a = 16 then e.1 16 u else e'.1 a u, e'.2) : ES) := h.fr hc (fun u hu => by rw [pt, if_neg (by decide)]; exact h4 u hu) (fun a u a0 a1 => by
    rw [pt]
    by_cases c : a = 16
    · rw [if_pos c, c]
    · rw [if_neg c]; exact h10 a u a0 a1 c) (fun a u a0 a1 => by rw [pt, if_neg (by omega)]; exact h9 a u a0 a1) (by rw [pt, if_neg (by decide)]; exact h7) hl
  exact g.eqm (hc'.of fun a ha => by rw [pt, if_neg (by omega)]) ⟨fun a u ha => by rw [pt, if_neg ha], rfl, rfl⟩
theorem gl_cmp2 (h : GLo k e) (hc : CN e) (c0 : 0 ≤ p1 ∧ p1 < e.1 9 2) (hk : k ≤ 1000) : GLo (k + 1) (cE0 p1 e) ∧ CN (cE0 p1 e) := by
  have n9 := hc.2.2.1
  have h1 := h.s9 hc c0.1 c0.2
  have hc1 : CN (eS e (9000 + p1) 5 1) := hc.of fun a ha => eS_a (by omega)
  have h1' := h1.mono (k' := k + 1) (by omega)
  have key : GLo (k + 1) (pCmp2 p1 e) ∧ CN (pCmp2 p1 e) := by
    unfold pCmp2
    split
    · unfold pRep
      split
      · rename_i cw
        obtain ⟨q1, -, -⟩ := h1.2.2.2.1 _ cw.1 cw.2
        rw [w32_id (by omega) (by omega)]
        exact h1'.s11 hc1 (Or.inl rfl) (by omega) (by omega)
      · exact ⟨h1', hc1⟩
    · exact ⟨h1', hc1⟩
  have hE : EQM (pCmp2 p1 e) (cE0 p1 e) := eM_eq.tr eM_eq
  exact ⟨key.1.eqm key.2 hE, key.2.of fun a ha => hE.1 _ _ (by omega)⟩
theorem gl_complete (h : GLo k e) (hH : HH S D T e) (hw : WX e) (ht : 0 ≤ e.1 4 14 ∧ e.1 4 14 < 1000000) (hb2 : S + 2 * (D + 1) + 2 * T ≤ 540) (hk : k ≤ 1000) : GLo (k + 1) (pcComplete p1 e).2 := by
  have hc := hH.cn
  have n7 := hc.1
  have n9 := hc.2.2.1
  have h' := h.mono (k' := k + 1) (by omega)
  by_cases c0 : 0 ≤ p1 ∧ p1 < e.1 9 2
  · by_cases c1 : e.1 (9000 + p1) 5 = 0 ∧ e.1 (7000 + e.1 (9000 + p1) 1) 6 = 0 ∧ pMark e (e.1 (9000 + p1) 1) = e.1 (9000 + p1) 4
    · generalize hr : e.1 (9000 + p1) 1 = r at c1
      obtain ⟨⟨r0, r1⟩, Q, QB, hB, k1, k2⟩ := cmp_two hH hw ht hb2 c0 hr c1
      obtain ⟨g0, gc⟩ := gl_cmp2 (p1 := p1) h hc c0 hk
      by_cases hbe : sg (sBeh (pCmpX p1 e) (pCmpS p1 e)) 0 30 = 0
      · obtain ⟨q1, q2, q3, q4⟩ := k1 hbe
        obtain ⟨s1, s2, s3, s4, s5, s6⟩ := cmp_S hB hbe
        obtain ⟨f1, f2, f3, f4, f5⟩ := e0_f (k := p1) (e := e) s1
        have hP := pn_f (r := r) (k := p1) (g := cG p1 e) (e := cE0 p1 e) (L := sn (cTd p1 e)) gc r0 (by rw [f1 _ _ (by omega) (by omega) (by omega)]; exact r1) c0.1 (by omega) (by rw [f4, s4])
        obtain ⟨b1, b2, -⟩ := hP
        rw [q1]
        refine GLo.ex ?_ q2 q4
        exact g0.fr3 gc q2 (fun u hu => b1 _ _ (by omega) (by omega) (by omega) (by omega) (by omega) (by omega)) (fun a u a0 a1 a2 => b1 _ _ (by omega) (by omega) (by omega) (by omega) (by omega) (by omega)) (fun a u a0 a1 => b1 _ _ (by omega) (by omega) (by omega) (by omega) (by omega) (by omega)) (by rw [b1 _ _ (by omega) (by omega) (by omega) (by omega) (by omega) (by omega)]; omega) fun c _ _ => b2 c
      · rw [k2 hbe]
        have g1 := g0.es (a := 7000 + r) (j := 6) (v := 6) gc (by omega)
        exact g1.es (gc.of fun a ha => eS_a (by omega)) (by omega)
    · unfold pcComplete
      rw [if_pos c0, if_neg c1]
      exact h'.s9 hc c0.1 c0.2
  · unfold pcComplete
    rw [if_neg c0]
    exact h'.thr hc
end GLN
