/-! HOW MUCH IS PUT: what taking over loses and makes again. -/
section QQI
variable {e e' e1 e2 : ES} {S D T a b c d i j k q r v w N M p x y t o m s z p1 p2 : Int} {nn : Nat}
theorem lo_31 (i0 : 0 ≤ i) : ∀ (n : Nat) (j : Int) (e : ES), (pLoL i N n j e).1 3 1 - ((eL (pLoL i N n j e) (75000 + i)).length : Int) = e.1 3 1 - ((eL e (75000 + i)).length : Int) := by
  intro n
  induction n with
  | zero => intro j e; rfl
  | succ n ih =>
    intro j e
    unfold pLoL
    split
    · rw [ih (j + 1) (pLo1 i j e)]
      unfold pLo1
      split
      · rw [eS_e, show eL (eS (eLs e (75000 + i) (eL e (75000 + i) ++ [1000 * ex (eH e i j) + ey (eH e i j)])) 3 1 (e.1 3 1 + 1)) (75000 + i) = eL e (75000 + i) ++ [1000 * ex (eH e i j) + ey (eH e i j)] from eLs_e, List.length_append, List.length_singleton]
        omega
      · rfl
    · rfl
theorem ccn_n {E : Int → Ev} (n : Nat) : 0 ≤ ccn E n := by
  have := ccn_m (E := E) n 0
  rw [Nat.zero_add] at this
  exact this
theorem ccr_01 (hI : HInv (eH e i) (hN e i)) : 0 ≤ ccr e i ∧ ccr e i ≤ 1 := by
  refine ⟨ccn_n _, ?_⟩
  unfold ccr
  by_cases c : 0 ≤ hN e i
  · rcases hI.ccn1 (hN e i).toNat (by omega) with g | ⟨g, -⟩ <;> omega
  · rw [show (hN e i).toNat = 0 by omega]
    show (0 : Int) ≤ 1
    decide
theorem qq_lose (hc : CN e) (i0 : 0 ≤ i) (i1 : i < e.1 7 2) (h8 : 0 ≤ e.1 (7000 + i) 8 ∧ e.1 (7000 + i) 8 ≤ hN e i) (hI : HInv (eH e i) (hN e i)) : Q1 1 0 (LO (pLose i e) - LO e) e (pLose i e) := by
  have n7 := hc.1
  have n8 := hc.2.1
  obtain ⟨l1, l2, l3, l4, l5⟩ := lose_pt hc i0 i1 h8
  have pa : ∀ a u : Int, a ≠ 3 → a ≠ 71000 + i → (a ≠ 7000 + i ∨ u ≠ 9) → (a < 8000 ∨ 9000 ≤ a ∨ u ≠ 5) → (a < 7000 ∨ 8000 ≤ a ∨ u ≠ 4) → (pLose i e).1 a u = e.1 a u := fun a u h1 h2 h3 h4 h5 => by
    rw [l1 a u h1 h2 h3, if_neg (by omega), if_neg (by omega)]
  have e7 : (pLose i e).1 7 2 = e.1 7 2 := pa _ _ (by omega) (by omega) (by omega) (by omega) (by omega)
  have e8 : (pLose i e).1 8 2 = e.1 8 2 := pa _ _ (by omega) (by omega) (by omega) (by omega) (by omega)
  have fN : ∀ j : Int, 0 ≤ j → j < 30 → j ≠ i → hN (pLose i e) j = hN e j := fun j j0 j1 hj => pa _ _ (by omega) (by omega) (by omega) (by omega) (by omega)
  have fH : ∀ j : Int, eH (pLose i e) j = eH e j := fun j => congrFun l2 j
  have hcm : csg (eH e i) (e.1 (7000 + i) 8).toNat ≤ csg (eH e i) (hN e i).toNat := by
    have := csg_m (E := eH e i) ((hN e i).toNat - (e.1 (7000 + i) 8).toNat) (e.1 (7000 + i) 8).toNat
    rw [show (e.1 (7000 + i) 8).toNat + ((hN e i).toNat - (e.1 (7000 + i) 8).toNat) = (hN e i).toNat by omega] at this
    exact this
  have a1 : sm (qAl (pLose i e)) 30 = sm (qAl e) 30 := sm_to fun j j0 j1 => by
    unfold qAl
    rw [e7, pa (7000 + j) 6 (by omega) (by omega) (by omega) (by omega) (by omega)]
  have a2 : sm (qNc (pLose i e)) 30 ≤ sm (qNc e) 30 + 1 := by
    rw [sm_one (r := i) (f := qNc e) (g := qNc (pLose i e)) (n := 30) i0 (by omega) fun j j0 j1 hj => by
      unfold qNc ccr
      rw [e7, fN j j0 (by omega) hj, fH]]
    have h1 := ccr_01 hI
    have h2 : 0 ≤ ccr (pLose i e) i := ccn_n _
    have w1 : qNc (pLose i e) i = 1 - ccr (pLose i e) i := if_pos (by omega)
    have w2 : qNc e i = 1 - ccr e i := if_pos i1
    omega
  have a3 : sm (qTm (pLose i e)) 30 ≤ sm (qTm e) 30 := sm_le fun j j0 j1 => by
    have hl : (eL (pLose i e) (73000 + j)).length ≤ (eL e (73000 + j)).length := by
      rw [l4 (73000 + j) (by omega)]
      split
      · exact Nat.zero_le _
      · exact Nat.le_refl _
    unfold qTm
    rw [e7]
    by_cases c : j < e.1 7 2
    · rw [if_pos c, if_pos c]; omega
    · rw [if_neg c, if_neg c]; omega
  have a4 : sm (qAc (pLose i e)) 60 ≤ sm (qAc e) 60 := sm_le fun p p0 p1 => by
    unfold qAc
    rw [e8]
    by_cases c : p < e.1 8 2
    · have g := l1 (8000 + p) 5 (by omega) (by omega) (by omega)
      by_cases c2 : e.1 (8000 + p) 0 = i
      · rw [if_pos (show (8000 ≤ 8000 + p ∧ 8000 + p < 8000 + e.1 8 2) ∧ (5 : Int) = 5 ∧ e.1 (8000 + p) 0 = i from ⟨⟨by omega, by omega⟩, rfl, c2⟩)] at g
        rw [if_neg (fun h => h.2 g)]
        split <;> omega
      · rw [if_neg (fun h => c2 h.2.2), if_neg (by omega)] at g
        rw [g]; omega
    · rw [if_neg (fun g => c g.1), if_neg (fun g => c g.1)]; omega
  have a5 : sm (qCs (pLose i e)) 30 ≤ sm (qCs e) 30 := sm_le fun j j0 j1 => by
    unfold qCs csr
    rw [e7, fH]
    by_cases c : j = i
    · rw [c, l3, if_pos i1, if_pos i1]; exact hcm
    · rw [fN j j0 (by omega) c]; omega
  have g31 : (pLose i e).1 3 1 = (pLoA i e).1 3 1 := by
    have b8 : (pLoB i (pLoA i e)).1 3 1 = (pLoA i e).1 3 1 := loB_a (by omega) (by omega)
    unfold pLose
    rw [end_a (by omega), par_a (by omega)]
    exact b8
  have gl : eL (pLose i e) (75000 + i) = eL (pLoA i e) (75000 + i) := by
    have lb : ∀ c, eL (pLoB i (pLoA i e)) c = eL (pLoA i e) c := fun c => by
      unfold pLoB
      split <;> rfl
    have lp : ∀ c fr, eL (pPar i fr (pLoB i (pLoA i e))) c = eL (pLoB i (pLoA i e)) c := fun c fr => by
      unfold pPar eL
      rw [(parL_a (r := i) (fr := fr) 31 0 _ (by decide)).1]
    unfold pLose
    rw [end_l2 (by omega) (by omega), lp, lb]
  have h31 : (pLoA i e).1 3 1 - ((eL (pLoA i e) (75000 + i)).length : Int) = e.1 3 1 - ((eL e (75000 + i)).length : Int) := lo_31 i0 _ _ _
  have hlo : LO (pLose i e) = LO e + (((eL (pLose i e) (75000 + i)).length : Int) - ((eL e (75000 + i)).length : Int)) := by
    unfold LO
    rw [sm_one (r := i) (f := qLo e) (g := qLo (pLose i e)) (n := 30) i0 (by omega) fun j j0 j1 hj => by
      have hl : eL (pLose i e) (75000 + j) = eL e (75000 + j) := by
        rw [l4 (75000 + j) (by omega), if_neg (by omega)]
      unfold qLo
      rw [e7, hl]]
    have h1 : qLo (pLose i e) i = ((eL (pLose i e) (75000 + i)).length : Int) := if_pos (by omega)
    have h2 : qLo e i = ((eL e (75000 + i)).length : Int) := if_pos i1
    omega
  rw [gl] at hlo l5
  have a7 : (pLose i e).1 4 16 = e.1 4 16 := pa _ _ (by omega) (by omega) (by omega) (by omega) (by omega)
  refine ⟨(pLose i e).1 4 16 - hN0 (pLose i e) 0 + QV (pLose i e) - (e.1 4 16 - hN0 e 0 + QV e), ?_⟩
  unfold QQ QLk QV
  exact ⟨by omega, by omega, by omega, by omega, by omega⟩
theorem qq_tk1 : ∀ (n : Nat) (a i : Int) (e : ES), TkI S D T i e → 0 ≤ i → i ≤ e.1 7 2 → Q1 (e.1 7 2 - i) 0 (LO (pTk1 n a i e).2 - LO e) e (pTk1 n a i e).2 := by
  intro n
  induction n with
  | zero => intro a i e _ _ h; exact Q1.rf.mono (by omega) (by decide) (by show 0 ≤ LO e - LO e; omega)
  | succ n ih =>
    intro a i e hI i0 i1
    unfold pTk1
    by_cases c : i < e.1 7 2
    · rw [if_pos c]
      by_cases cs : e.1 (7000 + i) 6 = 0
      · rw [if_pos cs]
        obtain ⟨k1, k2⟩ := hI.lose i0 c cs
        have q8 := (hI.2.1 i (Int.le_refl _) c).2 cs
        have hr := (hI.1.1.2.1 i i0 c).1.2
        have h1 := qq_lose hI.1.1.cn i0 c q8 hr
        have h2 := ih (a + (hN e i - e.1 (7000 + i) 8)) (i + 1) _ k1 (by omega) (by omega)
        exact (h1.tr h2).mono (by omega) (by omega) (by omega)
      · rw [if_neg cs]
        exact (ih a (i + 1) e (hI.next cs) (by omega) (by omega)).mono (by omega) (by omega) (by omega)
    · rw [if_neg c]
      exact Q1.rf.mono (by omega) (by decide) (by show 0 ≤ LO e - LO e; omega)
theorem qq_tk2 : ∀ (n : Nat) (i : Int) (e : ES), TkJ S D T i e → 0 ≤ i → Q1 0 0 0 e (pTk2 n i e) := by
  intro n
  induction n with
  | zero => intro i e _ _; exact Q1.rf
  | succ n ih =>
    intro i e hJ i0
    unfold pTk2
    by_cases c : i < e.1 7 2
    · rw [if_pos c]
      by_cases cs : e.1 (7000 + i) 6 = 0 ∧ e.1 (7000 + i) 8 = 0
      · rw [if_pos cs]
        obtain ⟨k1, k2⟩ := hJ.close i0 c cs.1 cs.2
        exact ((qq_close (r := 0) (Int.le_refl _) 41 i 5 0 0 e i0 c hJ.1.cn hJ.1.hnn cs.1 (by decide) (by decide)).q1.tr (ih (i + 1) _ k1 (by omega))).mono (by decide) (by decide) (by decide)
      · rw [if_neg cs]
        exact ih (i + 1) e (hJ.next cs) (by omega)
    · rw [if_neg c]
      exact Q1.rf
theorem qq_tk3 : ∀ (n : Nat) (i : Int) (e : ES), HH S D T e → (0 ≤ e.1 4 14 ∧ e.1 4 14 < 1000000) → (∀ j : Int, i ≤ j → j < e.1 7 2 → e.1 (7000 + j) 6 = 0 → ∀ k v w : Int, Lk noX e k j v w → k = 10) → 0 ≤ i → i ≤ e.1 7 2 → Q1 (12 * (e.1 7 2 - i)) 0 (12 * (e.1 7 2 - i)) e (pTk3 n i e) := by
  intro n
  induction n with
  | zero => intro i e _ _ _ _ h; exact Q1.rf.mono (by omega) (by decide) (by omega)
  | succ n ih =>
    intro i e hH ht hl i0 i1
    have n7 := hH.cn.1
    unfold pTk3
    by_cases c : i < e.1 7 2
    · rw [if_pos c]
      by_cases cs : e.1 (7000 + i) 6 = 0
      · rw [if_pos cs]
        have hR : RLo i 0 e := fun k v w g => Or.inl (hl i (Int.le_refl _) c cs k v w g)
        obtain ⟨k1, k2, k3, k4⟩ := hH.1.1.rest nWt_n hH.1.2 i0 c hR
        obtain ⟨g1, g2, g3⟩ := gc_rest hH.1.1 nWt_n hH.1.2 hH.2.1 hH.2.2.1 ht i0 c (fun d => d.1 cs) hR
        have hh : HH S D T (pRest i e) := ⟨⟨k1, k2⟩, g2, hH.2.2.ex g1.1.1 hH.hn hH.cn hH.2.1.1 g3⟩
        have h7 := k3.1
        have u1 := (qq_rest (q := 0) hH.cn hH.hn (Int.le_refl _) i0 c (hH.hI i0 c)).q1
        have u2 := ih (i + 1) _ hh (by rw [g1.1.1.2.2.2.2.1 14 (by decide) (by decide)]; exact ht) (fun j j0 j1 js k v w g => by
          rw [k3.1] at j1
          rw [k3.2.2.2.2.1 _ _ (by omega) (by omega)] at js
          exact hl j (by omega) j1 js k v w (k4 k j v w (by omega) g)) (by omega) (by omega)
        exact (u1.tr u2).mono (by omega) (by omega) (by omega)
      · rw [if_neg cs]
        exact (ih (i + 1) e hH ht (fun j j0 j1 => hl j (by omega) j1) (by omega) (by omega)).mono (by omega) (by omega) (by omega)
    · rw [if_neg c]
      exact Q1.rf.mono (by omega) (by decide) (by omega)
theorem qc_takeOver (h : HH S D T e) (hb : S + 2 * D + 2 * (T + 1) ≤ 540) (ht : 0 ≤ e.1 4 14 ∧ e.1 4 14 < 1000000) : Q1 390 0 (S + 360) e (pcTakeOver e).2 := by
  have hc := h.cn
  have n7 := hc.1
  have hbb := h.1.1.1.2.1
  by_cases c : e.1 4 17 = 0
  · have w : (pcTakeOver e).2 = pThr e := by
      unfold pcTakeOver
      rw [if_pos c]
      rfl
    rw [w]
    exact (q7_thr hc).q1 (eS_a (by decide)) (by decide) (by decide) (by omega)
  · have h8 : ∀ j : Int, 0 ≤ j → j < e.1 7 2 → 0 ≤ e.1 (7000 + j) 8 ∧ e.1 (7000 + j) 8 ≤ hN e j := fun j j0 j1 => (h.2.1.1 j j0 j1).2.2.2.2.2.2.1
    have h5 : ∀ c : Int, 0 ≤ c → c < e.1 7 2 → 0 ≤ e.1 (7000 + c) 5 := fun c c0 c1 => (h.2.1.1 c c0 c1).2.2.2.2.1.1
    have hup := h.1.up (S' := S) (T' := T + 1) (Int.le_refl _) (Int.le_refl _) (by omega) hb
    have hh0 := h.es (v := 0) (h.1.es0 (a := 4) (j := 17) (by omega) (by omega)) (by omega)
    have h0 := hh0.1
    have h1 := hup.es0 (a := 4) (j := 17) (v := 0) (by omega) (by omega)
    have f : ∀ a u : Int, a ≠ 4 → (eS e 4 17 0).1 a u = e.1 a u := fun a u ha => eS_a ha
    have f7 : (eS e 4 17 0).1 7 2 = e.1 7 2 := f _ _ (by omega)
    have hI : TkI S D T 0 (eS e 4 17 0) := ⟨⟨h1.1, fun c c0 c1 => by rw [f _ _ (by omega)] at c1 ⊢; exact h5 c c0 c1, fun j j0 j1 js => h1.2 j j0 j1 (al_nd.mp (Or.inr js))⟩, fun j j0 j1 => ⟨(h0.1.2.1 j j0 j1).2, fun _ => by
      rw [f _ _ (by omega)] at j1
      unfold hN
      rw [f _ _ (by omega), f _ _ (by omega)]
      exact h8 j j0 j1⟩, fun j j0 j1 => by omega⟩
    obtain ⟨k1, k2⟩ := tk1_I 31 0 0 _ hI (Int.le_refl _) (by rw [f7]; omega)
    obtain ⟨F1, F2⟩ := fk_tk1 31 0 0 _ hI hh0.fk (Int.le_refl _)
    have s0 : Q1 0 0 0 e (eS e 4 17 0) := (q7_es hc (by omega)).q1 f7 (by decide) (by decide) (by decide)
    have s1 := qq_tk1 31 0 0 _ hI (Int.le_refl _) (by rw [f7]; omega)
    have l0 : 0 ≤ LO (eS e 4 17 0) := LO_n
    rw [es_pt, if_neg (by omega)] at F2
    rw [f7] at k2 s1
    have w : (pcTakeOver e).2 = pTk3 31 0 (pTk2 31 0 (pTk1 31 0 0 (eS e 4 17 0)).2) := by
      unfold pcTakeOver
      rw [if_neg c]
    rw [w]
    generalize (pTk1 31 0 0 (eS e 4 17 0)).2 = e3 at k1 k2 F1 F2 s1 ⊢
    obtain ⟨⟨a1, a2, a3⟩, -, a4⟩ := k1
    have hJ : TkJ S D (T + 1) 0 e3 := ⟨a1, a2, fun j j0 j1 hd => by
      by_cases cs : e3.1 (7000 + j) 6 = 0
      · obtain ⟨⟨g1, g2⟩, -⟩ := a4 j j0 j1 j1 cs
        by_cases c8 : e3.1 (7000 + j) 8 = 0
        · exact Or.inr ⟨j0, cs, c8⟩
        · exact Or.inl (by omega)
      · exact Or.inl (a3 j j0 j1 ((al_nd.mpr hd).resolve_left cs)), fun j j0 j1 js => (a4 j j0 j1 j1 js).2.2, fun j j0 j1 js => (a4 j j0 j1 j1 js).2.1⟩
    have lS : LO e3 ≤ S := LO_tot a1
    obtain ⟨m1, m2⟩ := tk2_J 31 0 _ hJ (Int.le_refl _) (by omega)
    obtain ⟨G1, G2⟩ := fk_tk2 31 0 _ hJ F1 (Int.le_refl _)
    have s2 := qq_tk2 31 0 _ hJ (Int.le_refl _)
    generalize pTk2 31 0 e3 = e4 at m1 m2 G1 G2 s2 ⊢
    obtain ⟨b1, b2, b3, b4, b5⟩ := m1
    have hh4 : HH S D (T + 1) e4 := ⟨⟨b1, fun j j0 j1 hd => by
      rcases b3 j j0 j1 hd with g | g
      · exact g
      · omega⟩, G1⟩
    have s3 := qq_tk3 31 0 e4 hh4 (by rw [G2, F2]; exact ht) (fun j j0 j1 js => b5 j j0 j1 js) (Int.le_refl _) (by omega)
    exact (s0.tr (s1.tr (s2.tr s3))).mono (by omega) (by omega) (by omega)
end QQI
