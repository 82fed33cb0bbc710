/-! TAKING OVER, SETTING BACK: what the calls are given. -/
section TSB
variable {m m' M : MM} {ow : Int → Int} {ad : Int → Int → Int} {e e' : ES} {S D T T' a b c d i j k q r v w N y o p1 p2 p3 : Int} {n : Nat} {W : Int → Int → Prop} {X : Int → Int → Int → Prop}
theorem HH.len (h : HH S D T e) (r0 : 0 ≤ r) (r1 : r < e.1 7 2) : 0 ≤ hN e r ∧ hN e r ≤ 390600 := h.1.1.len r0 r1
theorem HH.bef (h : HH S D T e) (r0 : 0 ≤ r) (r1 : r < e.1 7 2) : Bef e r := fun k k0 k1 hk => by
  have hl := (h.hI r0 r1).1 k k0 k1
  unfold KB at hk
  by_cases c : ek (eH e r k) = 11
  · exact ((hl.2.2.2.2.1 ⟨by omega, by omega⟩).1.2.2.2.2.1 c).1
  · exact (hl.2.2.2.1 (by unfold bkk; omega)).1.1
/-- how many timers there are -/
theorem tm_nw (h : HK S D T nWt X e) (hF : FBi nZ e) : (pT e (e.1 7 2).toNat).length ≤ 360 := by
  have n7 := h.cn.1
  have hl : ∀ q : Int, 0 ≤ q → q < (((e.1 7 2).toNat : Nat) : Int) → (eL e (73000 + q)).length ≤ 12 := fun q q0 q1 => by
    have q1' : q < e.1 7 2 := by omega
    refine tm12 (p := hN e q) h (hF.2.1 q q0 q1').2.1 q0 q1' (h.len q0 q1').1 (Int.le_refl _) (fun j j0 j1 hw => hw.elim) fun v hv => ?_
    exact (h.2.2.2.1 9 q v 0 (Or.inr (Or.inr (Or.inl ⟨rfl, rfl, ⟨q0, q1'⟩, hv⟩)))).2.1.2.1
  have := pT_l12 (e := e) (e.1 7 2).toNat hl
  omega
theorem HH.ntm (h : HH S D T e) : nTm e ≤ 360 := tm_nw h.1.1 h.2.1
/-- lost signals are no more than all there are -/
theorem lst_tot : ∀ n : Nat, (n : Int) ≤ e.1 7 2 → ((pLst e n).length : Int) ≤ sm (totF e) n := by
  intro n
  induction n with
  | zero => intro _; exact Int.le_refl _
  | succ n ih =>
    intro h
    have h1 := ih (by omega)
    unfold pLst
    rw [List.length_append, List.length_map]
    have h2 := csg_0 (E := eH e (n : Int)) (hN e (n : Int)).toNat
    have e1 : sm (totF e) (n + 1) = sm (totF e) n + totF e (n : Int) := rfl
    have e2 : ((eL e (75000 + (n : Int))).length : Int) ≤ totF e (n : Int) := by
      unfold totF csr
      rw [if_pos (by omega)]
      split <;> omega
    omega
theorem nls_tot (h : HK S D T W X e) : (nLs e : Int) ≤ S := by
  have n7 := h.cn.1
  have h1 := lst_tot (e := e) (e.1 7 2).toNat (by omega)
  have key : ∀ (d n : Nat), sm (totF e) n ≤ sm (totF e) (n + d) := by
    intro d
    induction d with
    | zero => intro n; exact Int.le_refl _
    | succ d ih =>
      intro n
      have h2 := ih n
      have h3 := totF_n (e := e) ((n + d : Nat) : Int)
      show sm (totF e) n ≤ sm (totF e) (n + d) + totF e ((n + d : Nat) : Int)
      omega
  have h2 := key (30 - (e.1 7 2).toNat) (e.1 7 2).toNat
  rw [show (e.1 7 2).toNat + (30 - (e.1 7 2).toNat) = 30 by omega] at h2
  have h3 : tot e ≤ S := h.1.2.2
  have e4 : tot e = sm (totF e) 30 := rfl
  have e5 : (nLs e : Int) = ((pLst e (e.1 7 2).toNat).length : Int) := rfl
  omega
/-- the second loop: who is closed has no child -/
theorem tkq : ∀ (n : Nat) (i : Int) (e : ES), TkJ S D T i e → (∀ j : Int, i ≤ j → j < e.1 7 2 → e.1 (7000 + j) 6 = 0 → e.1 (7000 + j) 8 = 0 → hN e j = 0) → 0 ≤ i → TkQ n i e := by
  intro n
  induction n with
  | zero => intro i e _ _ _; exact trivial
  | succ n ih =>
    intro i e hJ hz i0 c
    have hc := hJ.1.cn
    have n7 := hc.1
    have n8 := hc.2.1
    refine ⟨fun cs => ⟨fun g => hz i (Int.le_refl _) c cs g, fun g => ?_⟩, ?_⟩
    · rcases hJ.2.2.1 i i0 c (fun d => d.1 cs) with g2 | ⟨-, -, g2⟩
      · omega
      · exact g2
    · by_cases cs : e.1 (7000 + i) 6 = 0 ∧ e.1 (7000 + i) 8 = 0
      · rw [if_pos cs]
        obtain ⟨k1, k2⟩ := hJ.close i0 c cs.1 cs.2
        refine ih (i + 1) _ k1 (fun j j0 j1 js j8 => ?_) (by omega)
        obtain ⟨h1, h2, h3, h4, h5⟩ := hJ
        rw [k2] at j1
        have pa : ∀ a u : Int, a ≠ 7000 + i ∨ u ≠ 6 → (eS e (7000 + i) 6 5).1 a u = e.1 a u := fun a u hh => by rw [es_pt, if_neg (by omega)]
        have e8 : (eS e (7000 + i) 6 5).1 8 2 = e.1 8 2 := pa _ _ (by omega)
        have pe : ∀ a u : Int, a < 8000 ∨ 9000 ≤ a → a ≠ 7000 + i ∨ u ≠ 6 → (pEnd i (eS e (7000 + i) 6 5)).1 a u = e.1 a u := fun a u ha hu => (end_a (by rw [e8]; omega)).trans (pa a u hu)
        have hch : ∀ c : Int, 0 ≤ c → c < (pEnd i (eS e (7000 + i) 6 5)).1 7 2 → (pEnd i (eS e (7000 + i) 6 5)).1 (7000 + c) 4 ≠ i := fun c c0 c1 cp => by
          rw [pe _ _ (by omega) (by omega)] at c1
          rw [pe _ _ (by omega) (by omega)] at cp
          have := h4 i (Int.le_refl _) (by assumption) cs.1 c c0 c1 cp
          have := h2 c c0 c1
          omega
        have w1 : pClose 41 i 5 0 0 e = pUp i 5 0 (pEnd i (eS e (7000 + i) 6 5)) := by
          show pUp i 5 0 (pDealL (fun i d e => pClose 40 i 5 0 d e) i 0 31 0 (pEnd i (eS e (7000 + i) 6 5))) = _
          rw [deal_id 31 0 _ (Int.le_refl _) hch]
        rw [w1] at js j8 ⊢
        have pu : ∀ a u : Int, 7000 ≤ a → a < 8000 → (pUp i 5 0 (pEnd i (eS e (7000 + i) 6 5))).1 a u = (pEnd i (eS e (7000 + i) 6 5)).1 a u := fun a u a0 a1 => by
          unfold pUp
          split
          · rename_i c
            split
            · exact arr_a (by omega) (by omega) (by omega) (by omega) (by omega)
            · exact arr_a (by omega) (by omega) (by omega) (by omega) (by omega)
          · rfl
        rw [pu _ _ (by omega) (by omega), pe _ _ (by omega) (by omega)] at js j8
        have hold := hz j (by omega) j1 js j8
        have hp : e.1 (7000 + i) 4 ≠ j := fun g => by
          have := h4 j (by omega) j1 js i i0 c g
          have := h2 i i0 c
          omega
        have eN : hN (pEnd i (eS e (7000 + i) 6 5)) j = hN e j := pe _ _ (by omega) (by omega)
        have ep : (pEnd i (eS e (7000 + i) 6 5)).1 (7000 + i) 4 = e.1 (7000 + i) 4 := pe _ _ (by omega) (by omega)
        have : hN (pUp i 5 0 (pEnd i (eS e (7000 + i) 6 5))) j = hN (pEnd i (eS e (7000 + i) 6 5)) j := by
          unfold pUp
          split
          · rename_i c
            rw [ep] at c ⊢
            split
            · exact arr_a (by omega) (by omega) (by omega) (by omega) (by omega)
            · exact arr_a (by omega) (by omega) (by omega) (by omega) (by omega)
          · rfl
        omega
      · rw [if_neg cs]
        exact ih (i + 1) e (hJ.next cs) (fun j j0 j1 => hz j (by omega) j1) (by omega)
/-- the third loop -/
theorem tkr : ∀ (n : Nat) (i : Int) (e : ES), HH S D T e → (0 ≤ e.1 4 14 ∧ e.1 4 14 < 1000000) → (∀ j : Int, i ≤ j → j < e.1 7 2 → e.1 (7000 + j) 6 = 0 → ∀ k v w : Int, Lk noX e k j v w → k = 10) → 0 ≤ i → TkR n i e := by
  intro n
  induction n with
  | zero => intro i e _ _ _ _; exact trivial
  | succ n ih =>
    intro i e hH ht hl i0 c
    have n7 := hH.cn.1
    refine ⟨fun cs => ⟨hH.tmo i0 c, hH.bef i0 c, hH.wn i0 c, by have := hH.len i0 c; omega⟩, ?_⟩
    split
    · rename_i cs
      have hR : RLo i 0 e := fun k v w g => Or.inl (hl i (Int.le_refl _) c cs k v w g)
      obtain ⟨k1, k2, k3, k4⟩ := hH.1.1.rest nWt_n hH.1.2 i0 c hR
      obtain ⟨g1, g2, g3⟩ := gc_rest hH.1.1 nWt_n hH.1.2 hH.2.1 hH.2.2.1 ht i0 c (fun d => d.1 cs) hR
      have hh : HH S D T (pRest i e) := ⟨⟨k1, k2⟩, g2, hH.2.2.ex g1.1.1 hH.hn hH.cn hH.2.1.1 g3⟩
      refine ih _ _ hh (by rw [g1.1.1.2.2.2.2.1 14 (by decide) (by decide)]; exact ht) (fun j j0 j1 js k v w g => ?_) (by omega)
      rw [k3.1] at j1
      rw [k3.2.2.2.2.1 _ _ (by omega) (by omega)] at js
      exact hl j (by omega) j1 js k v w (k4 k j v w (by omega) g)
    · exact ih _ _ hH ht (fun j j0 j1 => hl j (by omega) j1) (by omega)
/-- all that taking over has to find -/
theorem HH.tka (h : HH S D T e) (sm : SmA T' e) (h17 : e.1 4 17 = 1) (hT' : T' ≤ 1000) (hb : S + 2 * D + 2 * (T + 1) ≤ 540) (ht : 0 ≤ e.1 4 14 ∧ e.1 4 14 < 1000000) : TkA e ∧ Lz 0 e ∧ ∀ j : Int, 0 ≤ j → j < e.1 7 2 → hN (pTk2 31 0 (pTk1 31 0 0 (eS e 4 17 0)).2) j ≤ 524288 := by
  have hh' := hh_takeOver h hb ht
  have h8 : ∀ j : Int, 0 ≤ j → j < e.1 7 2 → 0 ≤ e.1 (7000 + j) 8 ∧ e.1 (7000 + j) 8 ≤ hN e j := fun j j0 j1 => (h.2.1.1 j j0 j1).2.2.2.2.2.2.1
  have h5 : ∀ c : Int, 0 ≤ c → c < e.1 7 2 → 0 ≤ e.1 (7000 + c) 5 := fun c c0 c1 => (h.2.1.1 c c0 c1).2.2.2.2.1.1
  have hup := h.1.up (S' := S) (T' := T + 1) (Int.le_refl _) (Int.le_refl _) (by omega) hb
  have n7 := h.cn.1
  have h9 := sm.1.2
  have hbb := h.1.1.1.2.1
  have lzr : LzR 0 e := fun j j0 j1 => ⟨sm.2 h17 j j0 j1, fun _ => ⟨h8 j j0 j1, by have := h.len j0 j1; omega, by have := h9 j j0 j1; omega, h.tkm j0 j1⟩⟩
  have lz : Lz 0 e := fun j j0 j1 => ⟨h8 j j0 j1, by have := h9 j j0 j1; omega, by have := h.len j0 j1; omega⟩
  have hh0 := h.es (v := 0) (h.1.es0 (a := 4) (j := 17) (by omega) (by omega)) (by omega)
  have h0 := hh0.1
  have h1 := hup.es0 (a := 4) (j := 17) (v := 0) (by omega) (by omega)
  have f : ∀ a u : Int, a ≠ 4 → (eS e 4 17 0).1 a u = e.1 a u := fun a u ha => eS_a ha
  have hI : TkI S D T 0 (eS e 4 17 0) := ⟨⟨h1.1, fun c c0 c1 => by rw [f _ _ (by omega)] at c1 ⊢; exact h5 c c0 c1, fun j j0 j1 js => h1.2 j j0 j1 (al_nd.mp (Or.inr js))⟩, fun j j0 j1 => ⟨(h0.1.2.1 j j0 j1).2, fun _ => by
    rw [f _ _ (by omega)] at j1
    unfold hN
    rw [f _ _ (by omega), f _ _ (by omega)]
    exact h8 j j0 j1⟩, fun j j0 j1 => by omega⟩
  obtain ⟨k1, k2⟩ := tk1_I 31 0 0 _ hI (Int.le_refl _) (by rw [f _ _ (by omega)]; omega)
  obtain ⟨F1, F2⟩ := fk_tk1 31 0 0 _ hI hh0.fk (Int.le_refl _)
  rw [es_pt, if_neg (by omega)] at F2
  rw [f _ _ (by omega)] at k2
  have e17 : (pcTakeOver e).2 = pTk3 31 0 (pTk2 31 0 (pTk1 31 0 0 (eS e 4 17 0)).2) := by
    unfold pcTakeOver
    rw [if_neg (by omega)]
  rw [e17] at hh'
  have hnt := hh'.ntm
  rw [← e17] at hnt
  suffices hs : nLs (pTk1 31 0 0 (eS e 4 17 0)).2 ≤ 4096 ∧ TyO (pTk1 31 0 0 (eS e 4 17 0)).2 ∧ PaR (pTk1 31 0 0 (eS e 4 17 0)).2 ∧ TkQ 31 0 (pTk1 31 0 0 (eS e 4 17 0)).2 ∧ TkR 31 0 (pTk2 31 0 (pTk1 31 0 0 (eS e 4 17 0)).2) ∧ ∀ j : Int, 0 ≤ j → j < e.1 7 2 → hN (pTk2 31 0 (pTk1 31 0 0 (eS e 4 17 0)).2) j ≤ 524288 from ⟨⟨lzr, hs.1, hs.2.1, hs.2.2.1, hs.2.2.2.1, hs.2.2.2.2.1, by omega⟩, lz, hs.2.2.2.2.2⟩
  generalize (pTk1 31 0 0 (eS e 4 17 0)).2 = e3 at k1 k2 F1 F2
  obtain ⟨⟨a1, a2, a3⟩, -, a4⟩ := k1
  have hJ : TkJ S D (T + 1) 0 e3 := ⟨a1, a2, fun j j0 j1 hd => by
    by_cases cs : e3.1 (7000 + j) 6 = 0
    · obtain ⟨⟨g1, g2⟩, -⟩ := a4 j j0 j1 j1 cs
      by_cases c8 : e3.1 (7000 + j) 8 = 0
      · exact Or.inr ⟨j0, cs, c8⟩
      · exact Or.inl (by omega)
    · exact Or.inl (a3 j j0 j1 ((al_nd.mpr hd).resolve_left cs)), fun j j0 j1 js => (a4 j j0 j1 j1 js).2.2, fun j j0 j1 js => (a4 j j0 j1 j1 js).2.1⟩
  have nl := nls_tot a1
  have hQ := tkq 31 0 e3 hJ (fun j j0 j1 js j8 => by have := (a4 j j0 j1 j1 js).1.2; omega) (Int.le_refl _)
  obtain ⟨m1, m2⟩ := tk2_J 31 0 _ hJ (Int.le_refl _) (by omega)
  obtain ⟨G1, G2⟩ := fk_tk2 31 0 _ hJ F1 (Int.le_refl _)
  refine ⟨by omega, fun j j0 j1 => ?_, a1.pr, hQ, ?_⟩
  · obtain ⟨q1, -, -, -, q5, -⟩ := F1.1.1 j j0 j1
    exact ⟨q1, q5⟩
  · generalize pTk2 31 0 e3 = e4 at m1 m2 G1 G2
    obtain ⟨b1, b2, b3, b4, b5⟩ := m1
    refine ⟨tkr 31 0 e4 ⟨⟨b1, fun j j0 j1 hd => ?_⟩, G1⟩ (by rw [G2, F2]; exact ht) (fun j j0 j1 js => b5 j j0 j1 js) (Int.le_refl _), fun j j0 j1 => ?_⟩
    · rcases b3 j j0 j1 hd with g | g
      · exact g
      · omega
    · have := b1.len j0 (show j < e4.1 7 2 by omega)
      omega
end TSB
