/-! A COMPLETE: what the reference's call asks for. -/
section CPR
variable {e e' : ES} {S D T T' a b c i j k q r v w N M p x0 y t o lim p1 g : Int} {n : Nat} {s : TS} {x : CX} {L : List (Int × Int × Int)} {Q QB : TS → Prop}
theorem mr_pn (hc : CN e) (r0 : 0 ≤ r) (r1 : r < e.1 7 2) (k0 : 0 ≤ k) (k1 : k < 1000) (hq : ∀ q ∈ sn (eT e), 8 ≤ q.1) : MR e (pPN r k g e) ∧ MR (pPut r 17 (e.1 (9000 + k) 3) 0 (e.1 4 14) 0 (pPNL r (e.1 4 14) (sn (eT e)) e)) (pPN r k g e) := by
  have n7 := hc.1
  obtain ⟨g1, g2, g3⟩ := mr_pnl (t := e.1 4 14) r0 (sn (eT e)) e hc r1 hq
  have g4 := mr_put (k := 17) (x := e.1 (9000 + k) 3) (y := 0) (t := e.1 4 14) (o := 0) g2 r0 (by rw [g3]; exact r1) (by decide)
  have h0 := g1.tr g4
  have e2 := pn2_eq (k := k) (g := g) (e := e) r0 (by omega)
  generalize pPut r 17 (e.1 (9000 + k) 3) 0 (e.1 4 14) 0 (pPNL r (e.1 4 14) (sn (eT e)) e) = e4 at h0 e2 ⊢
  have h1 : MR e4 (pPN2 r k g e) := by
    rw [e2]
    split
    · exact (mr_eS (by omega) (by omega) (by omega) (by omega) (by omega)).tr (mr_eS (by omega) (by omega) (by omega) (by omega) (by omega))
    · exact MR.rf
  have h2 : MR (pPN2 r k g e) (pPN4 r k g e) := (mr_eS (by omega) (by omega) (by omega) (by omega) (by omega)).tr (mr_eS (by omega) (by omega) (by omega) (by omega) (by omega))
  have h3 : MR (pPN4 r k g e) (pPN r k g e) := MR.of (eM_eq.1 _ _ (by decide)) (fun j => eM_eq.1 _ _ (by decide)) (fun j => eM_eq.1 _ _ (by decide)) (eM_eq.1 _ _ (by decide)) fun i i0 i1 => eM_eq.1 _ _ (by omega)
  have h4 := (h1.tr h2).tr h3
  exact ⟨h0.tr h4, h4⟩
theorem cmp_pR (h : HH S D T e) (hw : WX e) (ht : 0 ≤ e.1 4 14 ∧ e.1 4 14 < 1000000) (hb2 : S + 2 * (D + 1) + 2 * T ≤ 540) (c0 : 0 ≤ p1 ∧ p1 < e.1 9 2) (hr : e.1 (9000 + p1) 1 = r) (c1 : e.1 (9000 + p1) 5 = 0 ∧ e.1 (7000 + r) 6 = 0 ∧ pMark e r = e.1 (9000 + p1) 4) (hl : RLw e) (hf : RFw (pcComplete p1 e).2) (h11 : (pcComplete p1 e).2.1 4 11 < 1048576) : CmR p1 e := by
  obtain ⟨⟨r0, r1⟩, Q, QB, hB, k1, -⟩ := cmp_two h hw ht hb2 c0 hr c1
  have hs := c1.2.1
  have hB' := hB
  obtain ⟨⟨hCX, hx2, xn, x1, xh⟩, hF, hSm, hGB, hM5, hM6, hM7, hlt, hle, hlim⟩ := hB
  obtain ⟨h1, h2, kO, -⟩ := h
  have hc := h1.cn
  have n7 := hc.1
  have n9 := hc.2.2.1
  have hlen := h1.1.len r0 r1
  have hI := (h1.1.2.1 r r0 r1).1.2
  have hct := (h1.1.2.1 r r0 r1).2
  have hb := h1.1.1.2.1
  have xn' := xn
  have xh' := xh
  have x1' := x1
  rw [hr] at xn' xh' x1' hM5 hlt hle
  have hcc := hI.cc (hN e r).toNat (by omega)
  have hC0 : 0 ≤ hC e r := hcc.2.2.1
  have hIx : HInv (pCmpX p1 e).2.1 ((pCmpX p1 e).1 0) := by rw [xh', xn']; exact hI
  have htb : TelB (cTd p1 e) := told_b (lim := e.1 (9000 + p1) 3) (S := S) (D := D) (T := T) hCX hIx hx2 (by rw [xh', xn']; exact hct.1) (by rw [xh', xn']; exact hct.2.1) (by rw [xh', xn']; have := hct.2.2.1; unfold lcm at this; split at this <;> omega) hb.1
  have hbp := fol_bp (lim := e.1 (9000 + p1) 3) hCX ((e.1 (9000 + p1) 3).toNat + 1) 0 s00 1 (bp00 hCX.2.2.2.2.1) rfl (by omega)
  have hMA : MA (pCmpX p1 e) (cRh p1 e) (cRc p1 e) := by
    refine ⟨⟨hM7.2.1, hM7.2.2⟩, fun t t0 t1 => ?_, hM7.1, hCX.2.2.1, hM6.imp (fun z => ⟨z.2.1, z.2.2, z.1⟩) id⟩
    have e1 := cmpx_eq (e := e) (k := p1) (by rw [hr]; exact r0) (by rw [hr]; omega) c0.1
    rw [e1, hr]
    rw [hr] at e1
    exact tb_all hlen.1 t0 (by omega)
  refine ⟨⟨hCX, ⟨by omega, by omega⟩, htb⟩, hMA, ⟨⟨Q, QB, hGB.1, hGB.2.2⟩, fun g1 g2 => ?_⟩, hSm, fun g1 _ => ?_, by rw [hr]; omega, fun h30 z hz => ?_, hbp.1.2.2.2.2.1, fun hbe => ?_⟩
  · have := (hM5 (by omega)).2
    omega
  · rw [hr] at g1 ⊢
    exact (hM5 g1).1
  · have hnl : hN e r + ((sn (cTd p1 e)).length : Int) ≤ 524288 := by
      have g := told_nl (lim := e.1 (9000 + p1) 3) hCX (hIx.hl rfl rfl) hx2
      have h3 := hct.1
      have h4 : ccn (pCmpX p1 e).2.1 ((pCmpX p1 e).1 0).toNat ≤ 1 := by
        rcases hIx.ccn1 ((pCmpX p1 e).1 0).toNat (by have := hCX.2.2.2.2; omega) with g | ⟨g, -⟩ <;> omega
      have h5 : csg (pCmpX p1 e).2.1 ((pCmpX p1 e).1 0).toNat ≤ S := by rw [xh', xn']; exact h3
      have e1 : nl (told (pCmpX p1 e) (e.1 (9000 + p1) 3)) = ((sn (cTd p1 e)).length : Int) := rfl
      omega
    obtain ⟨g1, g2, g3, -⟩ := cmp_nw h1 hB' (by rw [hr]; exact r0) (by rw [hr]; exact r1) h30 (by rw [hr]; exact hnl) z hz
    exact ⟨g1, g2, g3.1, g3.2⟩
  · obtain ⟨q1, q2, q3, q4⟩ := k1 hbe
    obtain ⟨s1, s2, s3, s4, s5, s6⟩ := cmp_S hB' hbe
    obtain ⟨f1, f2, f3, f4, f5⟩ := e0_f (k := p1) (e := e) s1
    have hcE : CN (cE0 p1 e) := hc.of fun a ha => f1 _ _ (by omega) (by omega) (by omega)
    have e0N : hN (cE0 p1 e) r = hN e r := f1 _ _ (by omega) (by omega) (by omega)
    have e0r : r < (cE0 p1 e).1 7 2 := by rw [f1 _ _ (by omega) (by omega) (by omega)]; exact r1
    have hnl : hN e r + ((sn (cTd p1 e)).length : Int) ≤ 524288 := by
      have g := hF.2.2.1
      rw [hr] at g
      have eN : hN (pCmp2 p1 e) r = hN e r := cmp2_a (by omega) (by omega)
      rw [eN] at g
      have e2 : pFS (pCmp2 p1 e) r (pCmpV p1 e) (pCmpW p1 e) (e.1 (9000 + p1) 3) = pCmpS p1 e := by
        unfold pCmpS
        rw [hr]
      rw [e2] at g
      rw [← s4]
      exact g
    have nw := cmp_nw h1 hB' (by rw [hr]; exact r0) (by rw [hr]; exact r1) s2 (by rw [hr]; exact hnl)
    obtain ⟨m1, m2⟩ := mr_pn (r := r) (k := p1) (g := cG p1 e) hcE r0 e0r c0.1 (by omega) fun z hz => by
      rw [f4, s4] at hz
      exact (nw z hz).1.1
    have eE2 : pPut r 17 ((cE0 p1 e).1 (9000 + p1) 3) 0 ((cE0 p1 e).1 4 14) 0 (pPNL r ((cE0 p1 e).1 4 14) (sn (eT (cE0 p1 e))) (cE0 p1 e)) = cE2 p1 e := by
      unfold cE2
      rw [hr, f1 _ _ (by omega) (by omega) (by omega), f1 4 14 (by omega) (by omega) (by omega), f4]
    rw [eE2] at m2
    have m0 : MR e (cE0 p1 e) := MR.of (f1 _ _ (by omega) (by omega) (by omega)) (fun j => f1 _ _ (by omega) (by omega) (by omega)) (fun j => f1 _ _ (by omega) (by omega) (by omega)) (f1 _ _ (by omega) (by omega) (by omega)) fun i i0 i1 => f1 _ _ (by omega) (by omega) (by omega)
    obtain ⟨⟨a1, a2⟩, ⟨a3, a4⟩, a5, -, a7, a8, a9, a10⟩ := cmp_pn h1 h2 kO hB' c0.1 c0.2 hr.symm r0 r1 hs ht hb2 hbe
    have hS' : eT (pPN r p1 (cG p1 e) (cE0 p1 e)) = sKnow (hN (pPN4 r p1 (cG p1 e) (cE0 p1 e)) r) (sBeh (pCmpX p1 e) (pCmpS p1 e)) := rfl
    have hgr := cmp_fr (e' := pPN r p1 (cG p1 e) (cE0 p1 e)) h1 hB' c0.1 c0.2 hr.symm r0 r1 hbe rfl
    have hT4 : hT (cE2 p1 e) r = hT e r + 1 := by
      obtain ⟨-, -, -, -, -, -, -, g17⟩ := hgr
      rw [← g17, ← eE2]
      have e2 := pn2_eq (k := p1) (g := cG p1 e) (e := cE0 p1 e) r0 (by omega)
      have hh : ∀ (E : ES) (u1 v1 u2 v2 : Int), hT (eS (eS E (7000 + r) u1 v1) (7000 + r) u2 v2) r = hT E r := fun E u1 v1 u2 v2 => by
        have : hN (eS (eS E (7000 + r) u1 v1) (7000 + r) u2 v2) r = hN E r := by
          unfold hN
          rw [eS_a (by omega), eS_a (by omega)]
        unfold hT
        rw [this]
        rfl
      have w1 : hT (pPN r p1 (cG p1 e) (cE0 p1 e)) r = hT (pPN4 r p1 (cG p1 e) (cE0 p1 e)) r := by
        have : hN (pPN r p1 (cG p1 e) (cE0 p1 e)) r = hN (pPN4 r p1 (cG p1 e) (cE0 p1 e)) r := eM_eq.1 _ _ (by omega)
        unfold hT
        rw [this]
        rfl
      rw [w1]
      unfold pPN4
      rw [hh, e2]
      split
      · rw [hh]
      · rfl
    rw [s4] at a1 a5
    obtain ⟨g1, g2, g3, ⟨g4, g5, g6, g7, g8⟩, -⟩ := hgr
    rw [q1] at hf h11
    rw [hr, s4]
    have eS11 : sg (sBeh (pCmpX p1 e) (pCmpS p1 e)) 0 11 = sg (eT (pPN r p1 (cG p1 e) (cE0 p1 e))) 0 11 := rfl
    have esn : sn (sKnow (hN (pPN4 r p1 (cG p1 e) (cE0 p1 e)) r) (sBeh (pCmpX p1 e) (pCmpS p1 e))) = sn (cTd p1 e) := by
      rw [s1]
      exact s4
    generalize hG : pPN r p1 (cG p1 e) (cE0 p1 e) = e3 at *
    have e7 : e3.1 7 2 = e.1 7 2 := g1 _ _ (by omega) (by omega) (by omega) (by omega) (by omega) (by omega) (by omega) (by omega)
    have hs3 : e3.1 (7000 + r) 6 = 0 := (g1 _ _ (by omega) (by omega) (by omega) (by omega) (by omega) (by omega) (by omega) (by omega)).trans hs
    have ht3 : 0 ≤ e3.1 4 14 ∧ e3.1 4 14 < 1000000 := by
      rw [g1 _ _ (by omega) (by omega) (by omega) (by omega) (by omega) (by omega) (by omega) (by omega)]
      exact ht
    have hl3 : RLw e3 := m1.2.2 (m0.2.2 hl)
    have hf3 : RFw e3 := hf.bk (q4.mr q3)
    have hT1 : hT e r ≤ D := hct.2.1
    obtain ⟨-, z2⟩ := carP (S' := sKnow (hN (pPN4 r p1 (cG p1 e) (cE0 p1 e)) r) (sBeh (pCmpX p1 e) (pCmpS p1 e))) (base := hN e r) r0 (sn (cTd p1 e)).length (hN e r) e3 a1 a2 a3 ht3 hl3 (fun _ => ⟨by rw [e7]; exact r1, hs3, hlen.1, by omega⟩) a5 (fun j j0 j1 => by
      rw [show j = hN e r + (sn (cTd p1 e)).length by omega]
      exact Or.inr g7) (fun _ => ⟨a7, a8, a9⟩) ⟨hS', Int.le_refl _⟩ (fun j j0 j1 => by
      rw [esn]
      have hlt' : (j - hN e r).toNat < (sn (cTd p1 e)).length := by omega
      obtain ⟨-, w1, w2, w3⟩ := g6 _ _ (List.getElem?_eq_getElem hlt')
      rw [show hN e r + (((j - hN e r).toNat : Nat) : Int) = j by omega] at w1 w2 w3
      rw [List.getElem?_eq_getElem hlt', w1, w2, w3]) (fun _ => by
      rw [← hS']
      exact ⟨a10, a8⟩) hf
    exact ⟨hf3.bk m2, by omega, z2 h11⟩
end CPR
