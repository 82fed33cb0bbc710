/-! A COMPLETE: what is kept of the run, of all runs, and what the tasks count. -/
section KPU
variable {e e' e1 e2 : ES} {S D T a b c d i j k q r v w N M p y t o lim c0 n0 : Int} {n : Nat} {s : TS} {x x' : CX} {E E' : Int → Ev} {F L : List (Int × Int × Int)} {Q QB : TS → Prop}
theorem cmp_kv (h : PHs S D T e) (hB : CmB k e Q QB) (hSW : SW (pCmpX k e) (pCmpS k e) (pCmpB k e)) (k0 : 0 ≤ k) (k1 : k < e.1 9 2) (hr : r = e.1 (9000 + k) 1) (r0 : 0 ≤ r) (r1 : r < e.1 7 2) (hs : e.1 (7000 + r) 6 = 0) (hv : 0 ≤ e.1 (7000 + r) 3 ∧ e.1 (7000 + r) 3 < 4) (hne : NEn2 e) (hbe : sg (sBeh (pCmpX k e) (pCmpS k e)) 0 30 = 0) (hG : pPN r k (cG k e) (cE0 k e) = e') (hE : ∀ z ∈ sn (cTd k e), ¬ (14 ≤ z.1 ∧ z.1 ≤ 16)) : KpR e' r := by
  obtain ⟨s1, s2, s3, s4, s5, s6⟩ := cmp_S hB hbe
  obtain ⟨g1, g2, g3, ⟨g4, g5, g6, g7, g8⟩, ⟨g9, g10, g11, g12⟩, ⟨g13, g14, g15⟩, g16, g17⟩ := cmp_fr h hB k0 k1 hr r0 r1 hbe hG
  obtain ⟨⟨hCX, hx2, xn, x1, xh⟩, -, ⟨qq, pp, L0, u1, u2, u3⟩, hgb, -, h10, h11, hlt, hle, hli⟩ := hB
  rw [← hr] at xn x1 xh hlt hle
  have hc := h.cn
  have n7 := hc.1
  have n9 := hc.2.2.1
  have hl := h.1.len r0 r1
  have hI := (h.1.2.1 r r0 r1).1.2
  have hcc := hI.cc (hN e r).toNat (by omega)
  have hl0 : 0 ≤ hC e r := hcc.2.2.1
  have eTd : cTd k e = told (pCmpX k e) (e.1 (9000 + k) 3) := rfl
  have hI' : HInv (pCmpX k e).2.1 ((pCmpX k e).1 0) := by rw [xh, xn]; exact hI
  have hnd : ¬ Dead e r := fun d => d.1 hs
  -- how the telling ended
  have hgo : goes (cTd k e) = true := by
    rcases told_nd (lim := e.1 (9000 + k) 3) hCX (fun d d0 d1 => by rw [xn] at d1; rw [xh]; exact hne r r0 r1 hnd d d0 d1) (by rw [← eTd]; exact s2) with g | ⟨z, z1, z2⟩
    · rw [← eTd] at g
      unfold goes
      rw [s2, g]
      rfl
    · exact absurd z2 (hE z z1)
  have hFN : FNS (pCmpX k e) (cTd k e) (sn (cTd k e)) (e.1 (9000 + k) 3) := ⟨hgo, told_10 hCX (hI'.hl rfl rfl) hx2 (by omega) (by rw [xh, xn]; exact hle) hgo, rfl, s3⟩
  have hbw := (fol_bp (lim := e.1 (9000 + k) 3) hCX ((e.1 (9000 + k) 3).toNat + 1) 0 s00 1 (bp00 hCX.2.2.2.2.1) rfl (by omega)).1
  have hSW2 : SW (pCmpX k e) (cTd k e) (pCmpB k e) := sw_ax hSW (u1.trans (by rw [u3])) hbw.1
  have ty : e'.1 (7000 + r) 1 = e.1 (7000 + r) 1 := g1 _ _ (by omega) (by omega) (by omega) (by omega) (by omega) (by omega) (by omega) (by omega)
  have t3 : e'.1 (7000 + r) 3 = e.1 (7000 + r) 3 := g1 _ _ (by omega) (by omega) (by omega) (by omega) (by omega) (by omega) (by omega) (by omega)
  have hmk : e'.1 (7000 + r) 13 / 4 = bs e' r ∧ e'.1 (7000 + r) 13 % 4 = e.1 (7000 + r) 3 := by
    rw [g10]
    unfold pMark bs
    rw [t3]
    omega
  intro _
  rw [hmk.1, hmk.2]
  refine ⟨Int.le_refl _, fun _ => ?_⟩
  have hx := cmpx_eq (e := e) (k := k) (by rw [← hr]; exact r0) (by rw [← hr]; omega) k0
  rw [← hr] at hx
  unfold KV
  rw [g11, g12]
  refine ⟨pCmpX k e, sn (cTd k e), e.1 (9000 + k) 3, Q, QB, ⟨⟨?_, ?_⟩, fun i i0 i1 => ?_, fun i kk aa bb hi => ?_, ?_, fun i i0 i1 => ?_, g16, ⟨hCX.2.2.1, show ¬ (2 : Int) = 1 by decide⟩, ?_, ⟨rfl, rfl, h11.1, ?_, h11.2.2⟩, h10, fun i i0 i1 => ?_, hCX.2.2.2.2.1⟩, ⟨hCX, hx2, h11.2.1⟩, hgb, hFN, fun j j0 j1 jk => ?_, by omega, fun _ => ⟨?_, ?_, ?_⟩⟩
  · rw [hx]
    show ((eL e' (1000 * (48 + 4 * e'.1 (7000 + r) 1) + e.1 (7000 + r) 3)).length : Int) = ((eL e (1000 * (48 + 4 * e.1 (7000 + r) 1) + e.1 (7000 + r) 3)).length : Int)
    rw [ty, g2]
  · rw [hx]
    unfold pCX
    simp only [ty, g2]
  · rw [xn] at i1
    rw [xh]
    exact g5 i i0 i1
  · obtain ⟨z1, z2, z3, z4⟩ := g6 i (kk, aa, bb) hi
    rw [xn]
    refine ⟨?_, z1.1⟩
    show eis (eH e' r (hN e r + i)) kk aa bb = true
    unfold eis
    rw [z2, z3, z4]
    simp only [decide_true, Bool.and_self]
  · rw [xn]
    exact ⟨g7, g8⟩
  · exfalso
    have : (pCX e' r (e.1 (7000 + r) 3) 2 (cRc k e) (cRh k e)).1 0 = hN e' r := rfl
    rw [this, g4] at i1
    rw [xn] at i0
    omega
  · show (pCmpX k e).1 0 + ((sn (cTd k e)).length : Int) < hN e' r
    rw [xn, g4]
    omega
  · rw [x1]; omega
  · rw [xn] at i1
    rw [xh]
    exact (hI.1 i i0 i1).1.1
  · rw [xn] at j1
    rw [xh] at jk ⊢
    have := hcc.2.1 j j0 (by omega) jk
    have e2 : cC (eH e r) (hN e r).toNat = hC e r := rfl
    omega
  · rw [g14, g4, xn]
    rfl
  · rw [g15, g17]
    unfold pCmpB pFB
    have hT2 : hT (pCmp2 k e) r = hT e r := by
      have hN2 : hN (pCmp2 k e) r = hN e r := cmp2_a (by omega) (by omega)
      unfold hT
      rw [hN2]
      unfold eH
      rw [cmp2_2]
    rw [← hr, hT2]
    have h40 : sg (pFS (pCmp2 k e) r (pCmpV k e) (pCmpW k e) (e.1 (9000 + k) 3)) 0 40 = sg (told (pCmpX k e) (e.1 (9000 + k) 3)) 0 40 := by
      have := s6 0 40 (by omega)
      unfold pCmpS at this
      rw [← hr] at this
      exact this
    rw [h40]
    omega
  · rw [g15]
    exact hSW2
/-- what the tasks count, what is kept of the others, no ends -/
theorem cmp_k2 (h : PHs S D T e) (hB : CmB k e Q QB) (k0 : 0 ≤ k) (k1 : k < e.1 9 2) (hr : r = e.1 (9000 + k) 1) (r0 : 0 ≤ r) (r1 : r < e.1 7 2) (hbe : sg (sBeh (pCmpX k e) (pCmpS k e)) 0 30 = 0) (hG : pPN r k (cG k e) (cE0 k e) = e') (hK : KpI e) (hTk : TkI2 e) (hR : TsR e) (hne : NEn2 e) :
    (∀ q : Int, 0 ≤ q → q < e.1 7 2 → q ≠ r → ¬ Dead e q → KpR e' q) ∧ TkI2 e' ∧ TsR e' ∧ (∀ q : Int, 0 ≤ q → q < e.1 7 2 → q ≠ r → ¬ Dead e q → ∀ j : Int, 0 ≤ j → j < hN e' q → ¬ (14 ≤ ek (eH e' q j) ∧ ek (eH e' q j) ≤ 16)) ∧ ((∀ z ∈ sn (cTd k e), ¬ (14 ≤ z.1 ∧ z.1 ≤ 16)) → ¬ Dead e r → ∀ j : Int, 0 ≤ j → j < hN e' r → ¬ (14 ≤ ek (eH e' r j) ∧ ek (eH e' r j) ≤ 16)) := by
  obtain ⟨g1, g2, g3, ⟨g4, g5, g6, g7, g8⟩, ⟨g9, g10, g11, g12⟩, ⟨g13, g14, g15⟩, g16, g17⟩ := cmp_fr h hB k0 k1 hr r0 r1 hbe hG
  have hc := h.cn
  have n7 := hc.1
  have n9 := hc.2.2.1
  have hl := h.1.len r0 r1
  have e7 : e'.1 7 2 = e.1 7 2 := g1 _ _ (by omega) (by omega) (by omega) (by omega) (by omega) (by omega) (by omega) (by omega)
  have e9 : e'.1 9 2 = e.1 9 2 := g1 _ _ (by omega) (by omega) (by omega) (by omega) (by omega) (by omega) (by omega) (by omega)
  have hq : ∀ q : Int, 0 ≤ q → q < e.1 7 2 → q ≠ r → AR (eH e q) (hN e q) (eH e' q) (hN e' q) := fun q q0 q1 qr => by
    obtain ⟨h1, h2⟩ := g3 q q0 q1 qr
    rw [h1, h2]
    exact AR.rf
  have hu : ∀ q u : Int, 0 ≤ q → q < e.1 7 2 → q ≠ r → e'.1 (7000 + q) u = e.1 (7000 + q) u := fun q u q0 q1 qr => g1 _ _ (by omega) (by omega) (by omega) (by omega) (by omega) (by omega) (by omega) (by omega)
  refine ⟨fun q q0 q1 qr qd => ?_, fun k' k'0 k'1 hd => ?_, fun k' k'0 k'1 => ?_, fun q q0 q1 qr qd j j0 j1 => ?_, fun hE hd j j0 j1 => ?_⟩
  · exact KpR.ar (hK q q0 q1 qd) (hq q q0 q1 qr) (h.1.len q0 q1).1 (fun u _ => hu q u q0 q1 qr) (fun v _ => g2 _) fun g => absurd (g13.symm.trans g).symm qr
  · rw [e9] at k'1
    have hk : ∀ u : Int, u = 1 ∨ u = 3 ∨ u = 4 → e'.1 (9000 + k') u = e.1 (9000 + k') u := fun u hu => g1 _ _ (by omega) (by omega) (by omega) (by omega) (by omega) (by omega) (by omega) (by omega)
    rw [hk 1 (by omega)] at hd
    obtain ⟨q0, q1⟩ := hR k' k'0 k'1
    have hd' : ¬ Dead e (e.1 (9000 + k') 1) := fun g => hd ((Dead.eq (g1 _ _ (by omega) (by omega) (by omega) (by omega) (by omega) (by omega) (by omega) (by omega))).mpr g)
    have h2 := hTk k' k'0 k'1 hd'
    by_cases c : e.1 (9000 + k') 1 = r
    · have hb : bs e' r = bs e r + 1 := by
        unfold bs
        rw [g17, g1 _ _ (by omega) (by omega) (by omega) (by omega) (by omega) (by omega) (by omega) (by omega)]
        omega
      rw [c] at h2
      rw [hk 1 (by omega), hk 4 (by omega), c, hb]
      exact ⟨by omega, fun g => by omega⟩
    · exact TkO.ar h2 hk rfl (hq _ q0 q1 c) (h.1.len q0 q1).1 (hu _ _ q0 q1 c)
  · rw [e9] at k'1
    rw [g1 _ _ (by omega) (by omega) (by omega) (by omega) (by omega) (by omega) (by omega) (by omega), e7]
    exact hR k' k'0 k'1
  · obtain ⟨h1, h2⟩ := g3 q q0 q1 qr
    rw [h1] at j1
    rw [h2]
    exact hne q q0 q1 qd j j0 j1
  · rw [g4] at j1
    by_cases c : j < hN e r
    · rw [g5 j j0 c]
      exact hne r r0 r1 hd j j0 c
    · by_cases c2 : j < hN e r + (sn (cTd k e)).length
      · have hl2 : (j - hN e r).toNat < (sn (cTd k e)).length := by omega
        have hz := List.getElem?_eq_getElem hl2
        have := (g6 _ _ hz).2.1
        rw [show hN e r + (((j - hN e r).toNat : Nat) : Int) = j by omega] at this
        rw [this]
        exact hE _ (List.mem_of_getElem? hz)
      · rw [show j = hN e r + (sn (cTd k e)).length by omega, g7]
        omega
end KPU
