/-! A COMPLETE: what the news and the TASK leave as it should be. -/
section CM3
variable {e e' e1 e2 : ES} {S D T a b c i j k q r v w N M p y t o g : Int} {n : Nat} {s : TS} {x : CX} {L : List (Int × Int × Int)} {B : Int} {Z : Int → Prop} {Q QB : TS → Prop}
theorem FBi.fr (h : FBi Z e) (hc : CN e) (ha : ∀ a u : Int, a = 7 ∨ a = 8 ∨ (a = 9 ∧ u = 2) ∨ (49 ≤ a ∧ a ≤ 61 ∧ u = 2) ∨ (a = 4 ∧ (u = 11 ∨ u = 12)) ∨ (7000 ≤ a ∧ a < 7030 ∧ u ≤ 10 ∧ u ≠ 7 ∧ u ≠ 9) ∨ (8000 ≤ a ∧ a < 8060) → e'.1 a u = e.1 a u) (hn : ∀ r : Int, 0 ≤ r → r < e.1 7 2 → hN e r ≤ hN e' r) (hl : ∀ c : Int, c = 14 ∨ (73000 ≤ c ∧ c < 76000) → eL e' c = eL e c) : FBi Z e' := by
  have n7 := hc.1
  have n8 := hc.2.1
  obtain ⟨f1, f2, f3, f4, f5⟩ := h
  have e7 : e'.1 7 2 = e.1 7 2 := ha _ _ (by omega)
  have e8 : e'.1 8 2 = e.1 8 2 := ha _ _ (by omega)
  have hD : ∀ j : Int, 0 ≤ j → j < e.1 7 2 → (Dead e' j ↔ Dead e j) := fun j j0 j1 => Dead.eq (ha _ _ (by omega))
  refine ⟨fun j j0 j1 => ?_, fun j j0 j1 => ?_, fun p p0 p1 => ?_, fun j j0 j1 => ?_, ?_⟩
  · rw [e7] at j1
    obtain ⟨q1, q2, q3, q4, q5, q6, q7, q8⟩ := f1 j j0 j1
    have hN' := hn j j0 j1
    unfold RunF
    rw [ha (7000 + j) 1 (by omega), ha (7000 + j) 2 (by omega), ha (7000 + j) 3 (by omega), ha (7000 + j) 4 (by omega), ha (7000 + j) 5 (by omega), ha (7000 + j) 6 (by omega), ha (7000 + j) 8 (by omega), ha (7000 + j) 10 (by omega), ha 9 2 (by omega), e7, ha (48 + 4 * e.1 (7000 + j) 1 + 1) 2 (by omega)]
    exact ⟨q1, q2, q3, q4, q5, q6, ⟨q7.1, by omega⟩, q8⟩
  · rw [e7] at j1
    unfold TmF
    rw [hl _ (by omega), hl _ (by omega), hD j j0 j1]
    exact f2 j j0 j1
  · rw [e8] at p1
    obtain ⟨q1, q2, q3⟩ := f3 p p0 p1
    unfold AcF WAs WAct
    simp only [fun u => ha (8000 + p) u (by omega)]
    rw [e7, hD _ q2.1 q2.2]
    exact ⟨q1, q2, q3⟩
  · rw [e7] at j1
    rw [hl _ (by omega)]
    exact f4 j j0 j1
  · unfold TgF
    rw [hl _ (by omega), e7, ha _ _ (by omega), ha _ _ (by omega)]
    exact f5
/-- what a complete that isn't stuck finds -/
theorem cmp_S (hB : CmB k e Q QB) (hbe : sg (sBeh (pCmpX k e) (pCmpS k e)) 0 30 = 0) : sBeh (pCmpX k e) (pCmpS k e) = pCmpS k e ∧ sg (cTd k e) 0 30 = 0 ∧ (pCmpX k e).1 0 ≤ nc (pCmpX k e) (sg (cTd k e) 0 12) ∧ sn (pCmpS k e) = sn (cTd k e) ∧ (∀ n, sq (pCmpS k e) n = sq (cTd k e) n) ∧ ∀ a j : Int, (a ≠ 0 ∨ (j ≠ 12 ∧ j ≠ 13)) → sg (pCmpS k e) a j = sg (cTd k e) a j := by
  obtain ⟨-, -, ⟨q, p, L0, u1, u2, u3⟩, -⟩ := hB
  have hg : ∀ a j : Int, (a ≠ 0 ∨ (j ≠ 12 ∧ j ≠ 13)) → sg (pCmpS k e) a j = sg (cTd k e) a j := fun a j h => by rw [u1]; exact ax_o h
  have h12 : sg (pCmpS k e) 0 12 = p := by rw [u1, ax_g, if_pos ⟨rfl, rfl⟩]
  have hsn : sn (pCmpS k e) = sn (cTd k e) := by
    rw [u1]
    exact u3
  have hsq : ∀ n, sq (pCmpS k e) n = sq (cTd k e) n := fun n => by rw [u1]; rfl
  unfold sBeh at hbe ⊢
  by_cases c : sg (pCmpS k e) 0 30 = 0
  · rw [if_pos c] at hbe ⊢
    unfold sLeft at hbe ⊢
    by_cases c2 : nc (pCmpX k e) (sg (pCmpS k e) 0 12) < (pCmpX k e).1 0
    · rw [if_pos c2] at hbe
      exact absurd hbe (by
        show ¬ sg (sStuck (pCmpS k e) (nc (pCmpX k e) (sg (pCmpS k e) 0 12))) 0 30 = 0
        unfold sStuck
        rw [st_g, if_neg (by omega), st_g, if_pos ⟨rfl, rfl⟩]
        decide)
    · rw [if_neg c2]
      refine ⟨rfl, by rw [← hg 0 30 (by omega)]; exact c, ?_, hsn, hsq, hg⟩
      rw [← u2, ← h12]
      omega
  · rw [if_neg c] at hbe
    exact absurd hbe c
/-- the state in which the news are put -/
theorem e0_f (hbe : sBeh (pCmpX k e) (pCmpS k e) = pCmpS k e) : (∀ a u : Int, a ≠ 16 → a ≠ 11 → (a ≠ 9000 + k ∨ u ≠ 5) → (cE0 k e).1 a u = e.1 a u) ∧ (∀ j, eH (cE0 k e) j = eH e j) ∧ (∀ c, eL (cE0 k e) c = eL e c) ∧ eT (cE0 k e) = pCmpS k e ∧ eB (cE0 k e) = pCmpB k e := by
  have hE : EQM (pCmp2 k e) (cE0 k e) := eM_eq.tr eM_eq
  refine ⟨fun a u h1 h2 h3 => (hE.1 _ _ h1).trans (cmp2_a h2 h3), fun j => (congrFun hE.2.1 j).trans (by unfold eH; rw [cmp2_2]), fun c => (congrFun hE.2.2 c).trans (by unfold eL; rw [cmp2_2]), hbe, rfl⟩
theorem cmp_pn (h : PHs S D T e) (hF : FBi nZ e) (hO : OI e) (hB : CmB k e Q QB) (k0 : 0 ≤ k) (k1 : k < e.1 9 2) (hr : r = e.1 (9000 + k) 1) (r0 : 0 ≤ r) (r1 : r < e.1 7 2) (hs : e.1 (7000 + r) 6 = 0) (ht : 0 ≤ e.1 4 14 ∧ e.1 4 14 < 1000000) (hb2 : S + 2 * (D + 1) + 2 * T ≤ 540) (hbe : sg (sBeh (pCmpX k e) (pCmpS k e)) 0 30 = 0) :
    (HK S (D + 1) T (Wz r (hN e r) (hN e r + (sn (pCmpS k e)).length)) noX (pPN r k (cG k e) (cE0 k e)) ∧ NZ (pPN r k (cG k e) (cE0 k e))) ∧
    (FBi nZ (pPN r k (cG k e) (cE0 k e)) ∧ OI (pPN r k (cG k e) (cE0 k e))) ∧
    (∀ j : Int, hN e r ≤ j → j < hN e r + (sn (pCmpS k e)).length → (8 ≤ ek (eH (pPN r k (cG k e) (cE0 k e)) r j) ∧ ek (eH (pPN r k (cG k e) (cE0 k e)) r j) ≤ 16) ∧ (ek (eH (pPN r k (cG k e) (cE0 k e)) r j) = 14 ∨ ek (eH (pPN r k (cG k e) (cE0 k e)) r j) = 15 ∨ ek (eH (pPN r k (cG k e) (cE0 k e)) r j) = 16 → j + 1 = hN e r + (sn (pCmpS k e)).length)) ∧
    PnF r k (cG k e) (sn (pCmpS k e)) (cE0 k e) (pPN r k (cG k e) (cE0 k e)) ∧
    ((∀ n : Int, 0 ≤ n → n < 4 → ∀ v ∈ sq (eT (pPN r k (cG k e) (cE0 k e))) n, 0 ≤ v ∧ v ≤ 999) ∧ (0 ≤ sg (eT (pPN r k (cG k e) (cE0 k e))) 0 11 ∧ sg (eT (pPN r k (cG k e) (cE0 k e))) 0 11 ≤ hN e r) ∧ Qn (eT (pPN r k (cG k e) (cE0 k e))) ≤ csg (eH (pPN r k (cG k e) (cE0 k e)) r) (sg (eT (pPN r k (cG k e) (cE0 k e))) 0 11).toNat ∧ cA (eH (pPN r k (cG k e) (cE0 k e)) r) (sg (eT (pPN r k (cG k e) (cE0 k e))) 0 11).toNat = sg (eT (pPN r k (cG k e) (cE0 k e))) 0 10) := by
  obtain ⟨s1, s2, s3, s4, s5, s6⟩ := cmp_S hB hbe
  obtain ⟨f1, f2, f3, f4, f5⟩ := e0_f (k := k) (e := e) s1
  obtain ⟨⟨hCX, hx2, xn, x1, xh⟩, -, -, -, -, -, -, hlt, hle, -⟩ := hB
  rw [← hr] at xn x1 xh hlt hle
  have hc := h.cn
  have n7 := hc.1
  have n8 := hc.2.1
  have n9 := hc.2.2.1
  have hcE : CN (cE0 k e) := hc.of fun a ha => f1 _ _ (by omega) (by omega) (by omega)
  have hP := pn_f (r := r) (k := k) (g := cG k e) (e := cE0 k e) (L := sn (pCmpS k e)) hcE r0 (by rw [f1 _ _ (by omega) (by omega) (by omega)]; exact r1) k0 (by omega) (by rw [f4])
  have hPk := hP
  -- orders
  have hOE : OI (cE0 k e) := hO.fr (f1 _ _ (by omega) (by omega) (by omega)) (f1 _ _ (by omega) (by omega) (by omega)) (f1 _ _ (by omega) (by omega) (by omega)) (f1 _ _ (by omega) (by omega) (by omega)) (fun q q0 q1 d => (Dead.eq (f1 _ _ (by omega) (by omega) (by omega))).mpr d) fun q q0 q1 => ⟨by unfold hN; rw [f1 _ _ (by omega) (by omega) (by omega)]; omega, fun p p0 p1 => ⟨by rw [f2], f1 _ _ (by omega) (by omega) (by omega)⟩⟩
  have hl := h.1.len r0 r1
  have hI := (h.1.2.1 r r0 r1).1.2
  have hct := (h.1.2.1 r r0 r1).2
  have hS0 := h.1.1.2.1
  have hI' : HInv (pCmpX k e).2.1 ((pCmpX k e).1 0) := by rw [xh, xn]; exact hI
  have hn0 : 0 < hN e r := h.2 r r0 r1 fun d => d.1 hs
  have eTd : cTd k e = told (pCmpX k e) (e.1 (9000 + k) 3) := rfl
  have hq := fun (i : Nat) (z : Int × Int × Int) hz => told_nw (Q := QD) (lim := e.1 (9000 + k) 3) hCX hx2 nwD (by rw [← eTd]; exact s2) i z hz
  have hen := told_en (lim := e.1 (9000 + k) 3) hCX (by rw [← eTd]; exact s2)
  rw [← eTd, ← s4] at hen
  generalize hG : pPN r k (cG k e) (cE0 k e) = e3 at hP hPk ⊢
  obtain ⟨p1, p2, p3, ⟨p4, p5, p6, p7⟩, ⟨p8, p9, p10, p11⟩, p12, p13, p14⟩ := hP
  have eN0 : hN (cE0 k e) r = hN e r := f1 _ _ (by omega) (by omega) (by omega)
  rw [eN0] at p4 p5 p6 p7
  rw [f2] at p5
  have e14 : (cE0 k e).1 4 14 = e.1 4 14 := f1 _ _ (by omega) (by omega) (by omega)
  have e93 : (cE0 k e).1 (9000 + k) 3 = e.1 (9000 + k) 3 := f1 _ _ (by omega) (by omega) (by omega)
  rw [e14] at p6 p7
  rw [e93] at p7
  have fr : ∀ a u : Int, a ≠ 68 → a ≠ 3 → a ≠ 76000 + r → a ≠ 71000 + r → a ≠ 16 → a ≠ 11 → (a ≠ 9000 + k ∨ u ≠ 5) → (a ≠ 7000 + r ∨ u < 12 ∨ 15 < u) → e3.1 a u = e.1 a u := fun a u h1 h2 h3 h4 h5 h6 h7 h8 => (p1 a u h1 h2 h3 h4 h5 h8).trans (f1 a u h5 h6 h7)
  have hLz : ∀ (i : Nat) (z : Int × Int × Int), (sn (pCmpS k e))[i]? = some z → (8 ≤ z.1 ∧ z.1 ≤ 16) ∧ 0 ≤ z.2.1 ∧ 0 ≤ z.2.2 := fun i z hz => by
    obtain ⟨q1, q2, q3, q4, -⟩ := hq i z (by rw [← eTd, ← s4]; exact hz)
    exact ⟨⟨q1, q2⟩, q3, q4⟩
  have hFz : ∀ (i : Nat) (z : Int × Int × Int), (sn (cTd k e))[i]? = some z → ek (eH e3 r (hN e r + i)) = z.1 ∧ ex (eH e3 r (hN e r + i)) = z.2.1 ∧ ey (eH e3 r (hN e r + i)) = z.2.2 := fun i z hz => by
    rw [← s4] at hz
    obtain ⟨q1, q2, q3⟩ := hLz i z hz
    rw [p6 i z hz]
    exact ⟨evP_k (by omega), evP_x q2, evP_y q3⟩
  have hcc := hI.cc (hN e r).toNat (by omega)
  have hl0 : 0 ≤ hC e r := hcc.2.2.1
  -- the history with its counts
  have hcx : HCt (pCmpX k e).2.1 ((pCmpX k e).1 0) (csg (eH e r) (hN e r).toNat) D T := by
    rw [xh, xn]
    exact ⟨Int.le_refl _, hct.2⟩
  have hcs : csg (eH e r) (hN e r).toNat ≤ S := hct.1
  have hcp := h_comp (E' := eH e3 r) (lim := e.1 (9000 + k) 3) hCX hI' (by rw [xn]; exact hn0) hx2 hcx (by omega) (by rw [← eTd]; exact s2) s3 (fun j j0 j1 => by rw [xn] at j1; rw [xh]; exact p5 j j0 j1) (fun i z hz => by rw [xn]; exact hFz i z hz) (by
    have hnl : nl (told (pCmpX k e) (e.1 (9000 + k) 3)) = ((sn (pCmpS k e)).length : Int) := by rw [s4]; rfl
    rw [hnl, xn, p7]
    exact ⟨evP_k (by decide), evP_x (by omega), by rw [evP_y (Int.le_refl _)]; decide⟩) (by omega) (by rw [xh, xn]; exact hle) (fun t t0 t1 tk => by
    rw [xn] at t1
    rw [xh] at tk ⊢
    have := hcc.2.1 t t0 (by omega) tk
    have e2 : cC (eH e r) (hN e r).toNat = hC e r := rfl
    omega)
  have hnl : nl (told (pCmpX k e) (e.1 (9000 + k) 3)) = ((sn (pCmpS k e)).length : Int) := by rw [s4]; rfl
  rw [hnl, xn] at hcp
  obtain ⟨hi3, hct3, -⟩ := hcp
  have nz : ∀ j : Int, hN e r ≤ j → j < hN e r + (sn (pCmpS k e)).length → ∃ z, (sn (pCmpS k e))[(j - hN e r).toNat]? = some z ∧ ek (eH e3 r j) = z.1 := fun j j0 j1 => by
    have hl2 : (j - hN e r).toNat < (sn (pCmpS k e)).length := by omega
    have hz := List.getElem?_eq_getElem hl2
    refine ⟨_, hz, ?_⟩
    have := (hFz _ _ (by rw [← s4]; exact hz)).1
    rw [show hN e r + (((j - hN e r).toNat : Nat) : Int) = j by omega] at this
    exact this
  have hkz : ∀ j : Int, hN e r ≤ j → j < hN e r + (sn (pCmpS k e)).length → 8 ≤ ek (eH e3 r j) ∧ ek (eH e3 r j) ≤ 16 := fun j j0 j1 => by
    obtain ⟨z, z1, z2⟩ := nz j j0 j1
    rw [z2]
    exact (hLz _ z z1).1
  have hk17 : ek (eH e3 r (hN e r + (sn (pCmpS k e)).length)) = 17 := by
    rw [p7]
    exact evP_k (by decide)
  -- links
  have e37 : e3.1 7 2 = e.1 7 2 := fr _ _ (by omega) (by omega) (by omega) (by omega) (by omega) (by omega) (by omega) (by omega)
  have hh : ∀ q : Int, 0 ≤ q → q < e.1 7 2 → q ≠ r → hN e3 q = hN e q ∧ eH e3 q = eH e q := fun q q0 q1 hq => by
    obtain ⟨g1, g2⟩ := p3 q hq q0 (by omega)
    rw [g1, g2, f2]
    exact ⟨f1 _ _ (by omega) (by omega) (by omega), rfl⟩
  have hel : ∀ c, eL e3 c = eL e c := fun c => (p2 c).trans (f3 c)
  have hD3 : ∀ q : Int, 0 ≤ q → q < e.1 7 2 → (Dead e3 q ↔ Dead e q) := fun q q0 q1 => Dead.eq (fr _ _ (by omega) (by omega) (by omega) (by omega) (by omega) (by omega) (by omega) (by omega))
  have htt : tot e3 ≤ S := Int.le_trans (tot_le e37 (fun q q0 q1 d => (hD3 q q0 q1).mpr d) (fun q q0 q1 => by
    by_cases c : q = r
    · rw [c]
      unfold csr
      rw [p4]
      exact hct3.1
    · unfold csr
      rw [(hh q q0 q1 c).1, (hh q q0 q1 c).2]
      exact Int.le_refl _) fun q q0 q1 => by rw [hel]; exact Nat.le_refl _) h.1.1.2.2
  have hH3 := h.1.news (e' := e3) (r := r) (L := (sn (pCmpS k e)).length) nWt_n hb2 (hc.of fun a ha => fr _ _ (by omega) (by omega) (by omega) (by omega) (by omega) (by omega) (by omega) (by omega)) (by rw [fr _ _ (by omega) (by omega) (by omega) (by omega) (by omega) (by omega) (by omega) (by omega)]; exact h.1.1.1.2.1) (h.1.pr.of e37 fun q q0 q1 => fr _ _ (by omega) (by omega) (by omega) (by omega) (by omega) (by omega) (by omega) (by omega)) e37 r0 r1 p4 (fun j j0 j1 => p5 j j0 j1) hkz hk17 hh htt hi3 (hct3.mono hcs (Int.le_refl _) (Int.le_refl _)) fun k q v w g => g.of hc (fun a u hau => fr _ _ (by omega) (by omega) (by omega) (by omega) (by omega) (by omega) (by omega) (by omega)) fun q q0 q1 => hel _
  have hZ3 : NZ e3 := h.2.of e37 (fun q q0 q1 d => (hD3 q q0 q1).mpr d) fun q q0 q1 => by
    by_cases c : q = r
    · rw [c, p4]; omega
    · rw [(hh q q0 q1 c).1]; omega
  have hF3 : FBi nZ e3 := hF.fr hc (fun a u hau => fr _ _ (by omega) (by omega) (by omega) (by omega) (by omega) (by omega) (by omega) (by omega)) (fun q q0 q1 => by
    by_cases c : q = r
    · rw [c, p4]; omega
    · rw [(hh q q0 q1 c).1]; omega) fun c _ => hel c
  have hO3 : OI e3 := by
    have o0 : OI (pPN0 r (cG k e) (cE0 k e)) ∧ CN (pPN0 r (cG k e) (cE0 k e)) ∧ hN (pPN0 r (cG k e) (cE0 k e)) r = hN e r ∧ (pPN0 r (cG k e) (cE0 k e)).1 7 2 = e.1 7 2 := by
      have q1 : ∀ a u : Int, (a ≠ 7000 + r ∨ (u ≠ 14 ∧ u ≠ 15)) → (pPN0 r (cG k e) (cE0 k e)).1 a u = (cE0 k e).1 a u := fun a u h => by
        unfold pPN0
        split
        · rw [es_pt, if_neg (by omega), es_pt, if_neg (by omega)]
        · rfl
      have q2 : ∀ j, eH (pPN0 r (cG k e) (cE0 k e)) j = eH (cE0 k e) j := fun j => by
        unfold pPN0 eH
        split <;> rfl
      refine ⟨hOE.fr (q1 _ _ (by omega)) (q1 _ _ (by omega)) (q1 _ _ (by omega)) (q1 _ _ (by omega)) (fun q q0 q1' d => (Dead.eq (q1 _ _ (by omega))).mpr d) fun q q0 q1' => ⟨by unfold hN; rw [q1 _ _ (by omega)]; omega, fun p p0 p1 => ⟨by rw [q2], q1 _ _ (by rw [f1 _ _ (by omega) (by omega) (by omega)] at q1'; omega)⟩⟩, hcE.of fun a ha => q1 _ _ (by omega), (q1 _ _ (by omega)).trans eN0, (q1 _ _ (by omega)).trans (f1 _ _ (by omega) (by omega) (by omega))⟩
    obtain ⟨o1, o2, o3, o4⟩ := o0
    obtain ⟨v1, v2⟩ := oi_pnl (r := r) (t := e.1 4 14) r0 ht.1 ht.2 (sn (pCmpS k e)) _ o2 (by rw [o4]; exact r1) (by rw [o3]; exact hl.1) (fun z hz => by
      obtain ⟨i, hi⟩ := List.getElem?_of_mem hz
      exact (hLz i z hi).1.1) o1
    have e7L : (pPNL r (e.1 4 14) (sn (pCmpS k e)) (pPN0 r (cG k e) (cE0 k e))).1 7 2 = e.1 7 2 := (pnl_a (by omega) (by omega) (by omega) (by omega) _ _).trans o4
    have hNL := (pnl_h (t := e.1 4 14) r0 (by omega) (sn (pCmpS k e)) (pPN0 r (cG k e) (cE0 k e))).1
    have v3 := v1.put (k := 17) (x := e.1 (9000 + k) 3) (y := 0) (t := e.1 4 14) (o := 0) v2 r0 (by rw [e7L]; exact r1) (by rw [hNL, o3]; omega) (by decide) ht.1 ht.2
    have w2 : pPN2 r k (cG k e) (cE0 k e) = pPut r 17 (e.1 (9000 + k) 3) 0 (e.1 4 14) 0 (pPNL r (e.1 4 14) (sn (pCmpS k e)) (pPN0 r (cG k e) (cE0 k e))) := by
      unfold pPN2
      rw [f4, e14, e93]
    rw [← w2] at v3
    have m4 : ∀ a u : Int, a ≠ 16 → (a ≠ 7000 + r ∨ (u ≠ 12 ∧ u ≠ 13)) → e3.1 a u = (pPN2 r k (cG k e) (cE0 k e)).1 a u := fun a u h1 h2 => by
      rw [← hG]
      show mset (pPN4 r k (cG k e) (cE0 k e)).1 16 7 r a u = _
      rw [ms_a h1]
      unfold pPN4
      rw [es_pt, if_neg (by omega), es_pt, if_neg (by omega)]
    have m7 : (pPN2 r k (cG k e) (cE0 k e)).1 7 2 = e.1 7 2 := (m4 _ _ (by omega) (by omega)).symm.trans e37
    refine v3.fr (m4 _ _ (by omega) (by omega)) (m4 _ _ (by omega) (by omega)) (m4 _ _ (by omega) (by omega)) (m4 _ _ (by omega) (by omega)) (fun q q0 q1 d => (Dead.eq (m4 _ _ (by omega) (by omega))).mpr d) fun q q0 q1 => ⟨by unfold hN; rw [m4 _ _ (by omega) (by omega)]; omega, fun p p0 p1 => ⟨by rw [← hG]; rfl, m4 _ _ (by omega) (by rw [m7] at q1; omega)⟩⟩
  refine ⟨⟨hH3, hZ3⟩, ⟨hF3, hO3⟩, fun j j0 j1 => ⟨hkz j j0 j1, fun hE => ?_⟩, hPk, ?_⟩
  · obtain ⟨z, z1, z2⟩ := nz j j0 j1
    rw [z2] at hE
    rcases hen with hen | ⟨M, w, w1, w2, w3⟩
    · have := hen z (List.mem_of_getElem? z1)
      omega
    · rw [w1] at z1
      have hlen : (sn (pCmpS k e)).length = M.length + 1 := by rw [w1, List.length_append]; rfl
      by_cases cj : (j - hN e r).toNat < M.length
      · rw [List.getElem?_append_left cj] at z1
        have := w2 z (List.mem_of_getElem? z1)
        omega
      · omega
  · obtain ⟨⟨t1, t2, t3⟩, t4, t5⟩ := told_sig (lim := e.1 (9000 + k) 3) hCX (hI'.hl rfl rfl) hx2 (by rw [← eTd]; exact s2)
    rw [← eTd, xh] at t1 t4
    rw [← eTd] at t2 t3 t5
    rw [xn] at t3
    have k11 : sg (eT e3) 0 11 = sg (cTd k e) 0 11 := by
      rw [p13, f4]
      unfold sKnow
      rw [st_g, if_neg (by omega), st_g, if_neg (by omega)]
      exact s6 0 11 (by omega)
    have k10 : sg (eT e3) 0 10 = sg (cTd k e) 0 10 := by
      rw [p13, f4]
      unfold sKnow
      rw [st_g, if_neg (by omega), st_g, if_neg (by omega)]
      exact s6 0 10 (by omega)
    have kq : ∀ n, sq (eT e3) n = sq (cTd k e) n := fun n => by
      rw [p13, f4]
      exact s5 n
    have hQ3 : Qn (eT e3) = Qn (cTd k e) := by unfold Qn; rw [kq, kq, kq, kq]
    rw [k11, k10, hQ3]
    refine ⟨fun n n0 n1 v hv => by rw [kq] at hv; exact t5 n n0 n1 v hv, ⟨t2, t3⟩, ?_, ?_⟩
    · rw [(cts_to (E := eH e r) (E' := eH e3 r) (sg (cTd k e) 0 11).toNat fun i i0 i1 => p5 i i0 (by omega)).1]
      exact t4
    · rw [(cc_to (E := eH e r) (E' := eH e3 r) (sg (cTd k e) 0 11).toNat fun i i0 i1 => p5 i i0 (by omega)).1]
      exact t1.symm
end CM3
