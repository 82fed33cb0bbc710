/-! WHAT THE CALLS LEAVE: another takes over, a copy is set back; WHAT A COMPLETE COUNTS. -/
section WGE
variable {e e' e1 e2 e3 : ES} {S D T a b c d i j k q r v w N M p y t o p1 p2 lim : Int} {x : CX}
theorem wc_takeOver (h : HH S D T e) (hb : S + 2 * D + 2 * (T + 1) ≤ 540) (ht : 0 ≤ e.1 4 14 ∧ e.1 4 14 < 1000000) : ∃ e3, CT e e3 ∧ (WL e3 (pcTakeOver e).2 ∧ sm (qCs (pcTakeOver e).2) 30 ≤ sm (qCs e3) 30) ∧ sm (qU e3) 30 + LO e3 ≤ sm (qU e) 30 + LO e + S := by
  have hc := h.cn
  have n7 := hc.1
  have hbb := h.1.1.1.2.1
  have l0 : 0 ≤ LO e := LO_n
  by_cases c : e.1 4 17 = 0
  · have w : (pcTakeOver e).2 = pThr e := by
      unfold pcTakeOver
      rw [if_pos c]
      rfl
    rw [w]
    obtain ⟨mm, g⟩ := (q7_thr hc).2
    exact ⟨e, CT.rf, ⟨wg_thr hc, by have := g.2.2.1; omega⟩, by omega⟩
  · have h8 : ∀ j : Int, 0 ≤ j → j < e.1 7 2 → 0 ≤ e.1 (7000 + j) 8 ∧ e.1 (7000 + j) 8 ≤ hN e j := fun j j0 j1 => (h.2.1.1 j j0 j1).2.2.2.2.2.2.1
    have h5 : ∀ c : Int, 0 ≤ c → c < e.1 7 2 → 0 ≤ e.1 (7000 + c) 5 := fun c c0 c1 => (h.2.1.1 c c0 c1).2.2.2.2.1.1
    have hup := h.1.up (S' := S) (T' := T + 1) (Int.le_refl _) (Int.le_refl _) (by omega) hb
    have hh0 := h.es (v := 0) (h.1.es0 (a := 4) (j := 17) (by omega) (by omega)) (by omega)
    have h0 := hh0.1
    have h1 := hup.es0 (a := 4) (j := 17) (v := 0) (by omega) (by omega)
    have f : ∀ a u : Int, a ≠ 4 → (eS e 4 17 0).1 a u = e.1 a u := fun a u ha => eS_a ha
    have f7 : (eS e 4 17 0).1 7 2 = e.1 7 2 := f _ _ (by omega)
    have hI : TkI S D T 0 (eS e 4 17 0) := ⟨⟨h1.1, fun c c0 c1 => by rw [f _ _ (by omega)] at c1 ⊢; exact h5 c c0 c1, fun j j0 j1 js => h1.2 j j0 j1 (al_nd.mp (Or.inr js))⟩, fun j j0 j1 => ⟨(h0.1.2.1 j j0 j1).2, fun _ => by
      rw [f _ _ (by omega)] at j1
      unfold hN
      rw [f _ _ (by omega), f _ _ (by omega)]
      exact h8 j j0 j1⟩, fun j j0 j1 => by omega⟩
    have c0 : CT e (eS e 4 17 0) := ⟨f7, fun j j0 j1 => f _ _ (by omega), fun j j0 j1 => Or.inr (f _ _ (by omega)), fun j => rfl, fun u => f _ _ (by omega), f _ _ (by omega), fun j j0 j1 => by
      have : hN (eS e 4 17 0) j = hN e j := f _ _ (by omega)
      omega, fun u hu => eS_j hu⟩
    obtain ⟨k1, k2⟩ := tk1_I 31 0 0 _ hI (Int.le_refl _) (by rw [f7]; omega)
    obtain ⟨F1, F2⟩ := fk_tk1 31 0 0 _ hI hh0.fk (Int.le_refl _)
    have s1 := ct_tk1 31 0 0 _ hI (Int.le_refl _)
    rw [es_pt, if_neg (by omega)] at F2
    rw [f7] at k2
    have w : (pcTakeOver e).2 = pTk3 31 0 (pTk2 31 0 (pTk1 31 0 0 (eS e 4 17 0)).2) := by
      unfold pcTakeOver
      rw [if_neg c]
    rw [w]
    refine ⟨(pTk1 31 0 0 (eS e 4 17 0)).2, c0.tr s1, ?_, ?_⟩
    · generalize (pTk1 31 0 0 (eS e 4 17 0)).2 = e3 at k1 k2 F1 F2 s1 ⊢
      obtain ⟨⟨a1, a2, a3⟩, -, a4⟩ := k1
      have hJ : TkJ S D (T + 1) 0 e3 := ⟨a1, a2, fun j j0 j1 hd => by
        by_cases cs : e3.1 (7000 + j) 6 = 0
        · obtain ⟨⟨g1, g2⟩, -⟩ := a4 j j0 j1 j1 cs
          by_cases c8 : e3.1 (7000 + j) 8 = 0
          · exact Or.inr ⟨j0, cs, c8⟩
          · exact Or.inl (by omega)
        · exact Or.inl (a3 j j0 j1 ((al_nd.mpr hd).resolve_left cs)), fun j j0 j1 js => (a4 j j0 j1 j1 js).2.2, fun j j0 j1 js => (a4 j j0 j1 j1 js).2.1⟩
      obtain ⟨m1, m2⟩ := tk2_J 31 0 _ hJ (Int.le_refl _) (by omega)
      obtain ⟨G1, G2⟩ := fk_tk2 31 0 _ hJ F1 (Int.le_refl _)
      have s2 := wl_tk2 31 0 _ hJ (Int.le_refl _)
      obtain ⟨mm2, v2⟩ := qq_tk2 31 0 _ hJ (Int.le_refl _)
      generalize pTk2 31 0 e3 = e4 at m1 m2 G1 G2 s2 v2 ⊢
      obtain ⟨b1, b2, b3, b4, b5⟩ := m1
      have hh4 : HH S D (T + 1) e4 := ⟨⟨b1, fun j j0 j1 hd => by
        rcases b3 j j0 j1 hd with g | g
        · exact g
        · omega⟩, G1⟩
      obtain ⟨mm3, v3⟩ := qq_tk3 31 0 e4 hh4 (by rw [G2, F2]; exact ht) (fun j j0 j1 js => b5 j j0 j1 js) (Int.le_refl _) (by omega)
      exact ⟨s2.tr (wl_tk3 31 0 e4 hh4 (by rw [G2, F2]; exact ht) (fun j j0 j1 js => b5 j j0 j1 js) (Int.le_refl _)), by have := v2.2.2.1; have := v3.2.2.1; omega⟩
    · have g := ct_u (c0.tr s1) k1.1.1
      omega
/-- a copy is begun -/
def SBf (e e' : ES) : Prop := e.1 7 2 ≤ e'.1 7 2 ∧ (∀ j : Int, 0 ≤ j → j < e.1 7 2 → hN e' j = hN e j) ∧ (∀ u : Int, e'.1 68 u = e.1 68 u) ∧ e'.1 3 0 = e.1 3 0 ∧ ∀ u : Int, e'.1 4 u = e.1 4 u
theorem SBf.rf : SBf e e := ⟨Int.le_refl _, fun _ _ _ => rfl, fun _ => rfl, rfl, fun _ => rfl⟩
theorem wc_setBack (hH : HH S D T e) (ht : 0 ≤ e.1 4 14 ∧ e.1 4 14 < 1000000) : ((pcSetBack p1 p2 e).2 = pThr e ∨ e.1 7 2 + 1 ≤ (pcSetBack p1 p2 e).2.1 7 2) ∧ ∃ e5, SBf e e5 ∧ UG e e5 ∧ LO e5 = LO e ∧ WL e5 (pcSetBack p1 p2 e).2 := by
  have hc := hH.cn
  have n7 := hc.1
  have th : ∀ n : Nat, ((rT n e).2 = pThr e ∨ e.1 7 2 + 1 ≤ (rT n e).2.1 7 2) ∧ ∃ e5, SBf e e5 ∧ UG e e5 ∧ LO e5 = LO e ∧ WL e5 (rT n e).2 := fun n => ⟨Or.inl rfl, e, SBf.rf, UG.rf, rfl, wg_thr hc⟩
  unfold pcSetBack
  by_cases c1 : 0 ≤ p1 ∧ p1 < e.1 7 2
  · rw [if_pos c1]
    by_cases c2 : taskN (pX e p1) p2 < 0
    · rw [if_pos c2]; exact th _
    · rw [if_neg c2]
      by_cases c3 : e.1 (7000 + p1) 6 = 0 ∨ e.1 (7000 + p1) 6 = 6
      · rw [if_pos c3]
        by_cases c4 : e.1 7 2 < 30
        · rw [if_pos c4]
          obtain ⟨⟨g1, g2⟩, g3⟩ := xTsk_k (x := pX e p1) (v := p2) _ 0 0 (Int.le_refl _) (show 0 ≤ taskN (pX e p1) p2 by omega)
          have hk : ek (eH e p1 (taskN (pX e p1) p2)) = 17 := g3
          have hl : lcm (eH e p1) (taskN (pX e p1) p2 + 1) = 0 := by
            unfold lcm
            rw [show taskN (pX e p1) p2 + 1 - 1 = taskN (pX e p1) p2 by omega, hk, if_neg (by omega)]
          have hltn : taskN (pX e p1) p2 < hN e p1 := g2
          have hd := al_nd.mp c3
          have hN0 : 0 < taskN (pX e p1) p2 + 1 ∧ taskN (pX e p1) p2 + 1 ≤ hN e p1 := by omega
          dsimp only
          generalize taskN (pX e p1) p2 + 1 = N at *
          obtain ⟨a1, a2, a3⟩ := hH.1.1.sb5 (N := N) nWt_n hH.1.2 c1.1 c1.2 hd c4 (by omega) (by omega) hl
          have hF := fk_sb5 (N := N) hH.fk hH.hn hc c1.1 c1.2 hd c4 (by omega) (by omega)
          obtain ⟨pa, pk, -, ⟨-, -, -, e7⟩, ⟨hNk, hHk, hHo⟩, pl, -⟩ := sb5_pt (N := N) hc c1.1 c1.2 c4
          have g14 : (pSb5 p1 N e).1 4 14 = e.1 4 14 := pa _ _ (by omega) (by omega) (by omega) (by omega) (by omega) (by omega) (by omega)
          have hdk : ¬ Dead (pSb5 p1 N e) (e.1 7 2) := fun d => d.1 (pk 6 (by decide))
          have s2 := wl_rest a1 a2 hF.1 hF.2.1 (by rw [g14]; exact ht) n7.1 (show e.1 7 2 < (pSb5 p1 N e).1 7 2 by omega) hdk a3
          obtain ⟨u1, -, -⟩ := gc_rest a1 nWt_n a2 hF.1 hF.2.1 (by rw [g14]; exact ht) n7.1 (show e.1 7 2 < (pSb5 p1 N e).1 7 2 by omega) hdk a3
          have g := gc_snd (Z := nZ) (q := p1) (N := N) n7.1 u1.2 (u1.hk a1.hnn) (show e.1 7 2 < (pRest (e.1 7 2) (pSb5 p1 N e)).1 7 2 by have := u1.n7; omega)
          have hNo : ∀ j : Int, 0 ≤ j → j < e.1 7 2 → hN (pSb5 p1 N e) j = hN e j := fun j j0 j1 => pa _ _ (by omega) (by omega) (by omega) (by omega) (by omega) (by omega) (by omega)
          refine ⟨Or.inr (by have := u1.n7; have := g.n7; show e.1 7 2 + 1 ≤ (pSnd (e.1 7 2) p1 N (pRest (e.1 7 2) (pSb5 p1 N e))).1 7 2; omega), pSb5 p1 N e, ⟨by omega, hNo, fun u => pa _ _ (by omega) (by omega) (by omega) (by omega) (by omega) (by omega) (by omega), pa _ _ (by omega) (by omega) (by omega) (by omega) (by omega) (by omega) (by omega), fun u => pa _ _ (by omega) (by omega) (by omega) (by omega) (by omega) (by omega) (by omega)⟩, UG.of2 (by omega) fun i i0 i1 => ⟨hNo i i0 i1, hHo i (by omega)⟩, LO_of (by omega) (fun i i0 i1 => by rw [pl, if_neg (by omega)]) (fun i i0 i1 => by rw [pl, if_pos (by omega)]), ?_⟩
          exact s2.tr (WL.ex u1.2 (u1.hk a1.hnn) g.1.1 (by
            unfold pSetB pSnd
            exact snd_11 n7.1 _ _ _))
        · rw [if_neg c4]; exact th _
      · rw [if_neg c3]; exact th _
  · rw [if_neg c1]; exact th _
theorem told_le (hC : CXX x) (l0 : 0 ≤ lim) : sg (told x lim) 0 10 ≤ lim := by
  have hn := hC.2.2.2.2
  have : ∀ (n : Nat) (i : Int) (s : TS) (B : Int), BP x s B → sg s 0 10 = i → i ≤ lim → sg (sFollow x lim n i s) 0 10 ≤ lim := by
    intro n
    induction n with
    | zero => intro i s B _ h10 hi; show sg s 0 10 ≤ lim; omega
    | succ n ih =>
      intro i s B hP h10 hi
      unfold sFollow
      split
      · split
        · split
          · rename_i c1 _ c3
            obtain ⟨z1, z2⟩ := na_ok c3
            obtain ⟨g1, g2, -⟩ := BP.take hC hP z1 c3 z2
            exact ih (i + 1) _ _ g1 (by omega) (by omega)
          · rw [st_g, if_neg (by omega)]
            omega
        · omega
      · omega
  exact this _ 0 s00 1 (bp00 hn.1) rfl l0
theorem cu_key {E : Int → Ev} {m l : Int} (y1 : 0 ≤ q) (m0 : q ≤ m) (m1 : m ≤ N) (h3 : c ≤ cA E q.toNat) (h2 : cA E m.toNat ≤ l) (hl : c < l) : csg E q.toNat ≤ csg E m.toNat ∧ csg E m.toNat - csg E q.toNat + cu E l N.toNat ≤ cu E c N.toNat := by
  have z1 := csg_m (E := E) (m.toNat - q.toNat) q.toNat
  have hq : q.toNat ≤ m.toNat := by omega
  have hm : m.toNat ≤ N.toNat := by omega
  rw [show q.toNat + (m.toNat - q.toNat) = m.toNat by omega] at z1
  exact ⟨z1, cu_two hq hm h3 h2 (Int.le_of_lt hl)⟩
/-- WHAT A COMPLETE COUNTS: its news are few for each signal that it is the first to count -/
theorem vq_comp (h : HH S D T e) (hw : WX e) (ht : 0 ≤ e.1 4 14 ∧ e.1 4 14 < 1000000) (hb2 : S + 2 * (D + 1) + 2 * T ≤ 540) (c0 : 0 ≤ p1 ∧ p1 < e.1 9 2) (hr : e.1 (9000 + p1) 1 = r) (c1 : e.1 (9000 + p1) 5 = 0 ∧ e.1 (7000 + r) 6 = 0 ∧ pMark e r = e.1 (9000 + p1) 4) (hbe : sg (sBeh (pCmpX p1 e) (pCmpS p1 e)) 0 30 = 0) : LO (pcComplete p1 e).2 = LO e ∧ ∃ ν : Int, ((0 ≤ ν ∧ ν ≤ S ∧ ν + aQ p1 e ≤ S) ∧ ((sn (cTd p1 e)).length : Int) ≤ 60 * ν + 1073 ∧ 2 * opL (sn (cTd p1 e)) ≤ 60 * ν + 1073 ∧ ∀ L : Int, 1 ≤ L → (pCmpX p1 e).1 5 ≤ L → L * ntg (sn (cTd p1 e)) ≤ (59 * L - 60) * ν + 965 * L) ∧ (∀ i : Int, 0 ≤ i → i < 30 → qU (pcComplete p1 e).2 i - qCs (pcComplete p1 e).2 i + (if i = r then ν else 0) ≤ qU e i - qCs e i) ∧ sm (qU (pcComplete p1 e).2) 30 + ν ≤ sm (qU e) 30 + (sm (qCs (pcComplete p1 e).2) 30 - sm (qCs e) 30) := by
  obtain ⟨⟨r0, r1⟩, Q, QB, hB, k1, -⟩ := cmp_two h hw ht hb2 c0 hr c1
  have hsr := c1.2.1
  have hB' := hB
  have hc := h.cn
  have n7 := hc.1
  have n9 := hc.2.2.1
  obtain ⟨h1, h2, kO, -⟩ := h
  obtain ⟨q1, q2, q3, q4⟩ := k1 hbe
  obtain ⟨s1, s2, s3, s4, s5, s6⟩ := cmp_S hB' hbe
  have hgr := cmp_fr (e' := pPN r p1 (cG p1 e) (cE0 p1 e)) h1 hB' c0.1 c0.2 hr.symm r0 r1 hbe rfl
  obtain ⟨g1, g2, g3, ⟨g4, g5, g6, g7, g8⟩, -, -, ⟨g9, -⟩⟩ := hgr
  obtain ⟨⟨hCX, hx2, xn, x1, xh⟩, -, -, -, -, -, -, hlt, hle, hlim⟩ := hB'
  rw [hr] at xn x1 xh hlt hle
  rw [q1]
  have hlen := h1.1.len r0 r1
  have hI := (h1.1.2.1 r r0 r1).1.2
  have hIx : HInv (pCmpX p1 e).2.1 ((pCmpX p1 e).1 0) := by rw [xh, xn]; exact hI
  have hcc := hI.cc (hN e r).toNat (by omega)
  have hC0 : 0 ≤ hC e r := hcc.2.2.1
  generalize hG : pPN r p1 (cG p1 e) (cE0 p1 e) = e3 at *
  have e7 : e3.1 7 2 = e.1 7 2 := g1 _ _ (by omega) (by omega) (by omega) (by omega) (by omega) (by omega) (by omega) (by omega)
  have l3 : LO e3 = LO e := LO_of (by omega) (fun i _ _ => g2 _) fun i i0 i1 => by omega
  have hn7 := q2.1
  have l4 : LO (pCarL r (sn (cTd p1 e)).length (hN e r) e3) = LO e3 := LO_of q4.1.1 (fun i i0 i1 => q4.2.2.2.2.2.1 (75000 + i) (by omega) (Or.inr ⟨by omega, by omega⟩)) fun i i0 i1 => (q4.2.2.1 i i0 i1).1.2.2.2
  have u4 := ug_sm (UG.ex q3 q4)
  refine ⟨l4.trans l3, ?_⟩
  have kd : ∀ j : Int, hN e r ≤ j → j < hN e3 r → ek (eH e3 r j) ≠ 7 ∧ ek (eH e3 r j) ≠ 4 := fun j j0 j1 => by
    by_cases cj : j = hN e r + (sn (cTd p1 e)).length
    · rw [cj, g7]
      exact ⟨by decide, by decide⟩
    · have hlt' : (j - hN e r).toNat < (sn (cTd p1 e)).length := by omega
      obtain ⟨⟨⟨w0, -⟩, -⟩, w1, -, -⟩ := g6 _ _ (List.getElem?_eq_getElem hlt')
      rw [show hN e r + (((j - hN e r).toNat : Nat) : Int) = j by omega] at w1
      omega
  have hpre : ∀ i : Int, 0 ≤ i → i < (((hN e r).toNat : Nat) : Int) → eH e3 r i = eH e r i := fun i i0 i1 => g5 i i0 (by omega)
  have hsum : (hN e r).toNat + ((hN e3 r).toNat - (hN e r).toNat) = (hN e3 r).toNat := by omega
  have u1 := cs_gap (E := eH e3 r) (hN e r).toNat ((hN e3 r).toNat - (hN e r).toNat) fun j j0 j1 => kd j (by omega) (by omega)
  have u2 := cu_gr (E := eH e3 r) (c := e.1 (9000 + p1) 3) (hN e r).toNat ((hN e3 r).toNat - (hN e r).toNat)
  rw [hsum] at u1 u2
  have u3 := cts_to (E := eH e r) (E' := eH e3 r) (hN e r).toNat hpre
  have u5 := cu_to (E := eH e r) (E' := eH e3 r) (c := e.1 (9000 + p1) 3) (hN e r).toNat hpre
  have w1 : qU e3 r = cu (eH e3 r) (hC e3 r) (hN e3 r).toNat := if_pos (by omega)
  have w2 : qU e r = cu (eH e r) (hC e r) (hN e r).toNat := if_pos r1
  have w3 : qCs e3 r = csg (eH e3 r) (hN e3 r).toNat := if_pos (by omega)
  have w4 : qCs e r = csg (eH e r) (hN e r).toNat := if_pos r1
  rw [g9] at w1
  have oth : ∀ i : Int, 0 ≤ i → i < 30 → i ≠ r → qU e3 i = qU e i ∧ qCs e3 i = qCs e i := fun i i0 i1 hi => by
    unfold qU qCs csr hC
    rw [e7]
    by_cases ci : i < e.1 7 2
    · obtain ⟨v1, v2⟩ := g3 i i0 ci hi
      rw [v1, v2]
      exact ⟨rfl, rfl⟩
    · rw [if_neg ci, if_neg ci, if_neg ci, if_neg ci]
      exact ⟨rfl, rfl⟩
  have t1 := sm_one (r := r) (f := qU e) (g := qU e3) (n := 30) r0 (by omega) fun i i0 i1 hi => (oth i i0 (by omega) hi).1
  have t2 := sm_one (r := r) (f := qCs e) (g := qCs e3) (n := 30) r0 (by omega) fun i i0 i1 hi => (oth i i0 (by omega) hi).2
  have hLn : HLn (pCmpX p1 e) := hIx.hl rfl rfl
  obtain ⟨⟨a1, a2, a3⟩, aN, -⟩ := told_sig (lim := e.1 (9000 + p1) 3) hCX hLn hx2 s2
  have eTd : told (pCmpX p1 e) (e.1 (9000 + p1) 3) = cTd p1 e := rfl
  rw [eTd] at a1 a2 a3 aN
  rw [xh] at aN
  have haQ : aQ p1 e = Qn (cTd p1 e) + (csr e r - csg (eH e r) (sg (cTd p1 e) 0 11).toNat) := by unfold aQ; rw [hr]
  suffices hs : ∃ ν : Int, (0 ≤ ν ∧ ν + Qn (cTd p1 e) ≤ csg (eH e r) (sg (cTd p1 e) 0 11).toNat ∧ ((sn (cTd p1 e)).length : Int) ≤ 60 * ν + 1073 ∧ 2 * opL (sn (cTd p1 e)) ≤ 60 * ν + 1073 ∧ ∀ L : Int, 1 ≤ L → (pCmpX p1 e).1 5 ≤ L → L * ntg (sn (cTd p1 e)) ≤ (59 * L - 60) * ν + 965 * L) ∧ ν + cu (eH e r) (e.1 (9000 + p1) 3) (hN e r).toNat ≤ cu (eH e r) (hC e r) (hN e r).toNat by
    obtain ⟨ν, ⟨hν, hνq, hνr⟩, h5⟩ := hs
    have v1 := (cu_b (E := eH e r) (c := e.1 (9000 + p1) 3) (hN e r).toNat).1
    have v2 := (cu_b (E := eH e r) (c := hC e r) (hN e r).toNat).2
    have v3 := csr_tot r0 r1 n7.2 (fun d => d.1 hsr)
    have v4 : tot e ≤ S := h1.1.1.2.2
    have v5 : csr e r = csg (eH e r) (hN e r).toNat := rfl
    refine ⟨ν, ⟨⟨hν, by omega, by omega⟩, hνr⟩, fun i i0 i1 => ?_, by omega⟩
    have hu := UG.ex q3 q4 i i0 i1
    by_cases ci : i = r
    · rw [if_pos ci]
      rw [ci] at hu ⊢
      omega
    · rw [if_neg ci]
      have := oth i i0 i1 ci
      omega
  have a4 := told_le (lim := e.1 (9000 + p1) 3) hCX (by omega)
  rw [eTd] at a4
  have hcn := hIx.ccn1 (sg (cTd p1 e) 0 11).toNat (by omega)
  have hc1 : ccn (pCmpX p1 e).2.1 (sg (told (pCmpX p1 e) (e.1 (9000 + p1) 3)) 0 11).toNat ≤ 1 := by
    rw [eTd]
    rcases hcn with g | ⟨g, -⟩ <;> omega
  rcases told_new2 (lim := e.1 (9000 + p1) 3) hCX hLn hx2 s2 hc1 with g | ⟨q, Δ, ⟨y1, y2⟩, y3, ⟨y6, y7, y8⟩, y4, y5, y9⟩
  · refine ⟨0, ?_, ?_⟩
    · have e1 : sn (cTd p1 e) = [] := g
      rw [e1]
      exact ⟨by decide, by omega, by decide, by decide, fun L h1 _ => by show L * 0 ≤ (59 * L - 60) * 0 + 965 * L; omega⟩
    · have z1 := cu_m (E := eH e r) (c := hC e r) (l := e.1 (9000 + p1) 3) (by omega) 0 (hN e r).toNat
      rw [Nat.zero_add] at z1
      have z2 : cu (eH e r) (e.1 (9000 + p1) 3) 0 = 0 := rfl
      have z3 : cu (eH e r) (hC e r) 0 = 0 := rfl
      omega
  · rw [eTd] at y2 y4 y5 y7 y8 y9
    have e1 : nl (cTd p1 e) = ((sn (cTd p1 e)).length : Int) := rfl
    have e2 : iL g33 ((pCmpX p1 e).1 0) (sn (cTd p1 e)) = 2 * opL (sn (cTd p1 e)) := opL_33 _ _
    rw [e1] at y4
    rw [e2] at y5
    rw [xn] at a3
    rw [x1] at y3
    rw [xh] at y3 y7 y8 a1
    have ka : cA (eH e r) (sg (cTd p1 e) 0 11).toNat ≤ e.1 (9000 + p1) 3 := by
      rw [← a1]
      exact a4
    obtain ⟨z1, z2⟩ := cu_key y1 y2 a3 y3 ka hlt
    exact ⟨Δ, ⟨y6, y8, y4, y5, y9⟩, by omega⟩
end WGE
