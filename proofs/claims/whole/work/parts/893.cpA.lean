/-! A COMPLETE: what the two calls ask for, but for what is carried out. -/
section CPA
variable {e e' : ES} {S D T T' a b c i j k q r v w N M p x0 y t o lim p1 : Int} {n : Nat} {s : TS} {x : CX} {L : List (Int × Int × Int)} {Q QB : TS → Prop}
/-- a new command's numbers -/
theorem qd_b (h : QD r k a b) (hr : r ≤ 524288) : (8 ≤ k ∧ k ≤ 16) ∧ (0 ≤ a ∧ a < 524288) ∧ (0 ≤ b ∧ b ≤ 999) ∧ (k = 10 → a < 4 ∧ b < 1000) ∧ (k = 13 ∨ k = 14 ∨ k = 16 → a < 1000) := by
  obtain ⟨h1, h2, h3, h4, h5, h6⟩ := h
  by_cases c : k = 11
  · have := h5 c
    exact ⟨⟨h1, h2⟩, ⟨h3, by omega⟩, ⟨h4, by omega⟩, fun _ => by omega, fun _ => by omega⟩
  · obtain ⟨c1, c2, c3, c4, c5, c6⟩ := h6 c
    have : k = 8 ∨ k = 9 ∨ k = 10 ∨ k = 12 ∨ (k = 13 ∨ k = 14 ∨ k = 16) ∨ k = 15 := by omega
    rcases this with g | g | g | g | g | g
    · have := c1 g
      exact ⟨⟨h1, h2⟩, ⟨h3, by omega⟩, ⟨h4, by omega⟩, fun _ => by omega, fun _ => by omega⟩
    · have := c2 g
      exact ⟨⟨h1, h2⟩, ⟨h3, by omega⟩, ⟨h4, by omega⟩, fun _ => by omega, fun _ => by omega⟩
    · have := c3 g
      exact ⟨⟨h1, h2⟩, ⟨h3, by omega⟩, ⟨h4, by omega⟩, fun _ => by omega, fun _ => by omega⟩
    · have := c4 g
      exact ⟨⟨h1, h2⟩, ⟨h3, by omega⟩, ⟨h4, by omega⟩, fun _ => by omega, fun _ => by omega⟩
    · have := c5 g
      exact ⟨⟨h1, h2⟩, ⟨h3, by omega⟩, ⟨h4, by omega⟩, fun _ => by omega, fun _ => by omega⟩
    · have := c6 g
      exact ⟨⟨h1, h2⟩, ⟨h3, by omega⟩, ⟨h4, by omega⟩, fun _ => by omega, fun _ => by omega⟩
/-- an ending is the last -/
theorem en_last (h : EnL L) (i : Nat) (z : Int × Int × Int) (hz : L[i]? = some z) (hk : z.1 = 14 ∨ z.1 = 15 ∨ z.1 = 16) : i + 1 = L.length := by
  have hi : i < L.length := (List.getElem?_eq_some_iff.mp hz).1
  rcases h with h | ⟨M, u, rfl, hM, -⟩
  · have := h z (List.mem_of_getElem? hz)
    omega
  · rw [List.length_append, List.length_singleton] at hi ⊢
    by_cases c : i < M.length
    · rw [List.getElem?_append_left c] at hz
      have := hM z (List.mem_of_getElem? hz)
      omega
    · omega
/-- the news of a complete -/
theorem cmp_nw (h : PHs S D T e) (hB : CmB k e Q QB) (r0 : 0 ≤ e.1 (9000 + k) 1) (r1 : e.1 (9000 + k) 1 < e.1 7 2) (h30 : sg (cTd k e) 0 30 = 0) (hl : hN e (e.1 (9000 + k) 1) + (sn (cTd k e)).length ≤ 524288) : ∀ z ∈ sn (cTd k e), (8 ≤ z.1 ∧ z.1 ≤ 16) ∧ (0 ≤ z.2.1 ∧ z.2.1 < 524288) ∧ (0 ≤ z.2.2 ∧ z.2.2 ≤ 999) ∧ (z.1 = 10 → z.2.1 < 4 ∧ z.2.2 < 1000) ∧ (z.1 = 13 ∨ z.1 = 14 ∨ z.1 = 16 → z.2.1 < 1000) := fun z hz => by
  obtain ⟨⟨hCX, hx2, xn, -, -⟩, -⟩ := hB
  obtain ⟨i, hi⟩ := List.getElem?_of_mem hz
  have hil : i < (sn (cTd k e)).length := (List.getElem?_eq_some_iff.mp hi).1
  have hq := told_nw (Q := QD) (lim := e.1 (9000 + k) 3) hCX hx2 nwD h30 i z hi
  rw [xn] at hq
  exact qd_b hq (by omega)
theorem cmp_pP (h : HH S D T e) (sm : SmA T' e) (hTT : T' ≤ 1000) (hw : WX e) (c0 : 0 ≤ p1 ∧ p1 < e.1 9 2) (hr : e.1 (9000 + p1) 1 = r) (hs : e.1 (7000 + r) 6 = 0) (r0 : 0 ≤ r) (r1 : r < e.1 7 2) (hB : CmB p1 e Q QB) : CmpP p1 e := by
  have hc := h.cn
  have n7 := hc.1
  have n9 := hc.2.2.1
  have hg := hw.glo.2.2.1
  have hB' := hB
  obtain ⟨⟨hCX, hx2, xn, x1, xh⟩, hF, ⟨q, pp, L0, u1, u2, u3⟩, -, -, -, -, hlt, hle, hlim⟩ := hB
  have hl := h.1.1.len r0 r1
  have hI := (h.1.1.2.1 r r0 r1).1.2
  have hct := (h.1.1.2.1 r r0 r1).2
  have hb := h.1.1.1.2.1
  rw [hr] at xn x1 xh hlt hle
  have hcc := hI.cc (hN e r).toNat (by omega)
  have hC0 : 0 ≤ hC e r := hcc.2.2.1
  have hnl : hN e r + ((sn (pCmpS p1 e)).length : Int) ≤ 524288 := by
    have g := hF.2.2.1
    rw [hr] at g
    have eN : hN (pCmp2 p1 e) r = hN e r := cmp2_a (by omega) (by omega)
    rw [eN] at g
    have e2 : pFS (pCmp2 p1 e) r (pCmpV p1 e) (pCmpW p1 e) (e.1 (9000 + p1) 3) = pCmpS p1 e := by
      unfold pCmpS
      rw [hr]
    rw [e2] at g
    exact g
  have hbp := fol_bp (lim := e.1 (9000 + p1) 3) hCX ((e.1 (9000 + p1) 3).toNat + 1) 0 s00 1 (bp00 hCX.2.2.2.2.1) rfl (by omega)
  have e11 : sg (pCmpS p1 e) 0 11 = sg (cTd p1 e) 0 11 := by rw [u1]; exact ax_o (by omega)
  refine ⟨hF, fun hbe => ?_, ?_, by omega, by omega⟩
  · obtain ⟨s1, s2, s3, s4, s5, s6⟩ := cmp_S hB' hbe
    have nw := cmp_nw h.1 hB' (by rw [hr]; exact r0) (by rw [hr]; exact r1) s2 (by rw [hr, ← s4]; exact hnl)
    have en := told_en (lim := e.1 (9000 + p1) 3) hCX s2
    rw [hr]
    refine ⟨fun z hz => ?_, ⟨fun z hz => ?_, fun i z hz hk => ?_⟩, by omega, hnl, ?_⟩
    · rw [s4] at hz
      obtain ⟨g1, g2, g3, -⟩ := nw z hz
      exact ⟨g1, g2, g3.1, by omega⟩
    · rw [s4] at hz
      exact (nw z hz).2.2.2
    · rw [s4] at hz ⊢
      exact en_last en i z hz hk
    · have eg : pKept r (e.1 (9000 + p1) 0) (eS e (9000 + p1) 5 1) = cG p1 e := by rw [← hr]; rfl
      rw [eg]
      obtain ⟨g1, -, -, -, -, -, -, g17⟩ := cmp_fr (e' := pPN r p1 (cG p1 e) (cE0 p1 e)) h.1 hB' c0.1 c0.2 hr.symm r0 r1 hbe rfl
      have f9 : ∀ u : Int, u < 12 → (pPN2 r p1 (cG p1 e) (cE0 p1 e)).1 (7000 + r) u = e.1 (7000 + r) u := fun u hu => by
        rw [← g1 (7000 + r) u (by omega) (by omega) (by omega) (by omega) (by omega) (by omega) (by omega) (by omega)]
        unfold pPN pPN4
        rw [eM_eq.1 _ _ (by omega), es_pt, if_neg (by omega), es_pt, if_neg (by omega)]
      have fT : hT (pPN2 r p1 (cG p1 e) (cE0 p1 e)) r = hT e r + 1 := by
        rw [← g17]
        have eN : hN (pPN r p1 (cG p1 e) (cE0 p1 e)) r = hN (pPN2 r p1 (cG p1 e) (cE0 p1 e)) r := by
          unfold hN pPN pPN4
          rw [eM_eq.1 _ _ (by omega), es_pt, if_neg (by omega), es_pt, if_neg (by omega)]
        unfold hT
        rw [eN]
        rfl
      have hs9 := sm.1.2 r r0 r1
      have hT1 : hT e r ≤ D := hct.2.1
      have hT0 : 0 ≤ hT e r := (cT_b _).1
      have hv3 := (hw.run r0 r1).2.2.1
      have hty := (hw.run r0 r1).1
      have n48 := hc.2.2.2.2 _ (isT_4 hty.1 hty.2)
      show MkB (pPN2 r p1 (cG p1 e) (cE0 p1 e)) r
      unfold MkB
      rw [f9 9 (by decide), f9 3 (by decide), fT]
      omega
  · rw [e11]
    exact hbp.2.1.1
end CPA
