/-! THE REFERENCE'S CALLS: pass. -/
section RXU4
variable {m m' M : MM} {e e' e2 : ES} {a b c i j k o r v w p t s x y n tn par pe inp p1 q A B N L : Int} {l : List Int}
theorem RXE.btk (h : RXE m e) (hc : CN e) : RXE (mset (mset (mset (mset m 68 0 (e.1 4 14 + 1)) 120 0 0) 120 1 0) 120 2 0) (pBT e) := by
  have n7 := hc.1
  have ha : ∀ a u : Int, (a ≠ 4 ∨ u ≠ 14) → a ≠ 13 → (pBT e).1 a u = e.1 a u := fun a u h1 h2 => bt_a h1 h2
  have hr : ∀ c, eL (pBT e) c = eL e c := fun c => rfl
  have hm : ∀ a j : Int, a ≠ 120 → (a ≠ 68 ∨ j ≠ 0) → mset (mset (mset (mset m 68 0 (e.1 4 14 + 1)) 120 0 0) 120 1 0) 120 2 0 a j = m a j := fun a j h1 h2 => by
    rw [ms_a h1, ms_a h1, ms_a h1]
    unfold mset
    rw [if_neg (by omega)]
  have h0 : mset (mset (mset (mset m 68 0 (e.1 4 14 + 1)) 120 0 0) 120 1 0) 120 2 0 68 0 = e.1 4 14 + 1 := by
    rw [ms_a (by decide), ms_a (by decide), ms_a (by decide)]
    exact ms_e
  have h120 : ∀ w : Int, 0 ≤ w → w < 3 → mset (mset (mset (mset m 68 0 (e.1 4 14 + 1)) 120 0 0) 120 1 0) 120 2 0 120 w = 0 ∧ (pBT e).1 13 w = 0 := fun w w0 w1 => by
    have : w = 0 ∨ w = 1 ∨ w = 2 := by omega
    unfold pBT
    rcases this with rfl | rfl | rfl
    · rw [ms_j (by decide), ms_j (by decide), eS_j (by decide), eS_j (by decide)]; exact ⟨ms_e, eS_e⟩
    · rw [ms_j (by decide), eS_j (by decide)]; exact ⟨ms_e, eS_e⟩
    · exact ⟨ms_e, eS_e⟩
  generalize mset (mset (mset (mset m 68 0 (e.1 4 14 + 1)) 120 0 0) 120 1 0) 120 2 0 = m1 at *
  refine h.chg hc (W := fun a => a = 120) (U := fun j => j = 0) (V := fun a => a = 4 ∨ a = 13) (fun a j g1 g2 g3 => hm a j g3 (Or.inl (by omega))) (fun j g1 g2 => hm 68 j (by decide) (Or.inr g2)) ⟨fun a j g => ha a j (by omega) (by omega), fun c _ => rfl, fun i _ => rfl⟩ (by rw [bt_t]; omega) (DdM.of fun q q0 q1 => ha _ _ (by omega) (by omega)) (by rw [ha _ _ (by decide) (by decide)]; omega) (Or.inr ?_) (Or.inl ⟨fun a g => by omega, fun a g => by omega, fun a g => by omega⟩) (Or.inl ⟨fun a g => by omega, fun a g => by omega, fun a g => by omega⟩) (Or.inl ⟨fun a g => by omega, fun a g => by omega, fun a g => by omega⟩) (Or.inl ⟨fun a g => by omega, fun a g => by omega, fun a g => by omega⟩) (Or.inl ⟨fun a g => by omega, fun a g => by omega, fun a g => by omega⟩) (Or.inr ?_) (Or.inl ⟨fun a g => by omega, fun a g => by omega, fun a g => by omega⟩) (Or.inl ⟨fun a g => by omega, fun a g => by omega, fun a g => by omega⟩) (Or.inl ⟨fun a g => by omega, fun a g => by omega, fun a g => by omega⟩) (Or.inl ⟨fun a g => by omega, fun a g => by omega, fun a g => by omega⟩) (Or.inl ⟨fun a g => by omega, fun a g => by omega, fun a g => by omega⟩) (Or.inr ?_)
  · obtain ⟨g0, g1, g2, g3, g4, g5, g6, g7, g8, g9, g10⟩ := h.ps
    unfold RXs
    rw [h0, bt_t, hm 68 12 (by decide) (by decide), hm 68 29 (by decide) (by decide), hm 68 30 (by decide) (by decide), hm 68 34 (by decide) (by decide), hm 68 50 (by decide) (by decide), hm 68 51 (by decide) (by decide), hm 68 68 (by decide) (by decide), hm 68 69 (by decide) (by decide), hm 68 79 (by decide) (by decide), hm 68 80 (by decide) (by decide), ha 7 2 (by decide) (by decide), ha 68 29 (by decide) (by decide), ha 68 30 (by decide) (by decide), ha 8 2 (by decide) (by decide), ha 4 13 (by decide) (by decide), ha 9 2 (by decide) (by decide), ha 4 15 (by decide) (by decide), ha 10 2 (by decide) (by decide), ha 4 12 (by decide) (by decide), ha 4 11 (by decide) (by decide)]
    exact ⟨rfl, g1, g2, g3, g4, g5, g6, g7, g8, g9, g10⟩
  · obtain ⟨j1, j2, j3⟩ := h.pj
    have n9 := hc.2.2.1
    unfold RXj
    rw [ha 9 2 (by decide) (by decide)]
    refine ⟨fun p p0 p1 => ?_, fun p p0 p1 => ?_, fun w w0 w1 => ?_⟩
    · have := j1 p p0 p1
      unfold RXj1 at this ⊢
      rw [hm 112 p (by decide) (by omega), hm 113 p (by decide) (by omega), hm 114 p (by decide) (by omega), hm 115 p (by decide) (by omega), hm 116 p (by decide) (by omega), hm 117 p (by decide) (by omega), hm 118 p (by decide) (by omega), hm 119 p (by decide) (by omega), ha _ _ (by omega) (by omega), ha _ _ (by omega) (by omega), ha _ _ (by omega) (by omega), ha _ _ (by omega) (by omega), ha _ _ (by omega) (by omega), ha _ _ (by omega) (by omega)]
      exact this
    · rw [hm 119 p (by decide) (by omega)]
      exact j2 p p0 p1
    · obtain ⟨u1, u2⟩ := h120 w w0 w1
      obtain ⟨v1, v2, v3⟩ := j3 w w0 w1
      rw [u1, u2, hm 122 w (by decide) (by omega), hm 121 w (by decide) (by omega), ha 11 w (by omega) (by decide), ha 12 w (by omega) (by decide)]
      exact ⟨v1, v2, rfl⟩
  · obtain ⟨k1, k2, k3⟩ := h.pl
    have hl : pLst (pBT e) ((pBT e).1 7 2).toNat = pLst e (e.1 7 2).toNat := by
      rw [ha _ _ (by decide) (by decide)]
      exact pLst_eq fun i i0 i1 => rfl
    unfold RXl
    rw [hl, hm 68 83 (by decide) (by decide), hm 68 84 (by decide) (by decide), ha 4 17 (by decide) (by decide)]
    exact ⟨k1, k2, fun i q hq => by rw [hm 139 _ (by decide) (by omega), hm 140 _ (by decide) (by omega), hm 141 _ (by decide) (by omega)]; exact k3 i q hq⟩
/-- what the steps of a tick leave of timers and schedules -/
def TL (e e' : ES) : Prop := (TmS e → TmS e') ∧ (LsB e → LsB e')
theorem TL.rf : TL e e := ⟨id, id⟩
theorem TL.tr (h : TL e e') (g : TL e' e2) : TL e e2 := ⟨fun z => g.1 (h.1 z), fun z => g.2 (h.2 z)⟩
theorem tl_arr (hc : CN e) (r0 : 0 ≤ r) (r1 : r < e.1 7 2) : TL e (pArr r k x y e) := by
  have n7 := hc.1
  have n10 := hc.2.2.2.1
  exact ⟨fun h => h.arr hc r0, fun h => h.mono (arr_a (by decide) (by decide) (by omega) (by omega) (by decide)) (by rw [arr_a (by decide) (by decide) (by omega) (by omega) (by decide)]; omega) fun p p0 p1 => Or.inl (arr_a (by omega) (by omega) (by omega) (by omega) (by omega))⟩
theorem tl_rem (hc : CN e) (r0 : 0 ≤ r) (r1 : r < e.1 7 2) : TL e (pRemT r k e) := ⟨fun h => h.rem hc r0 r1, fun h => h⟩
theorem tl_eS (hc : CN e) (h7 : a ≠ 7) (h8 : a < 7000 ∨ (8000 ≤ a ∧ a < 10000)) (h9 : a ≠ 10) : TL e (eS e a j v) := by
  have n10 := hc.2.2.2.1
  exact ⟨fun h => tms_eS h hc h7 (by omega), fun h => h.mono (eS_a (by omega)) (by rw [eS_a (by omega)]; omega) fun p p0 p1 => Or.inl (eS_a (by omega))⟩
theorem tl_fireL (r0 : 0 ≤ r) : ∀ (n : Nat) (k : Int) (e : ES), CN e → r < e.1 7 2 → TL e (pFireL r n k e) := by
  intro n
  induction n with
  | zero => intro k e hc _; exact TL.rf
  | succ n ih =>
    intro k e hc r1
    unfold pFireL
    split
    · exact ih (k + 1) e hc r1
    · have n7 := hc.1
      have e7 : (pRemT r k (pArr r 3 ((eL e (73000 + r)).getD k.toNat 0) 0 e)).1 7 2 = e.1 7 2 := show (pArr r 3 ((eL e (73000 + r)).getD k.toNat 0) 0 e).1 7 2 = e.1 7 2 from arr_a (by decide) (by decide) (by omega) (by omega) (by decide)
      have cA : CN (pArr r 3 ((eL e (73000 + r)).getD k.toNat 0) 0 e) := hc.arr r0
      exact ((tl_arr hc r0 r1).tr (tl_rem cA r0 (by rw [show (pArr r 3 ((eL e (73000 + r)).getD k.toNat 0) 0 e).1 7 2 = e.1 7 2 from e7]; exact r1))).tr (ih k _ cA (by rw [e7]; exact r1))
theorem tl_frL : ∀ (n : Nat) (i : Int) (e : ES), CN e → 0 ≤ i → TL e (pFrL n i e) := by
  intro n
  induction n with
  | zero => intro i e hc _; exact TL.rf
  | succ n ih =>
    intro i e hc i0
    unfold pFrL
    by_cases c : i < e.1 7 2
    · rw [if_pos c]
      obtain ⟨g1, g2, g3⟩ := mr_fireL i0 (eL e (73000 + i)).length 0 e hc c
      exact (tl_fireL i0 _ _ _ hc c).tr (ih (i + 1) (pFire i e) g2 (by omega))
    · rw [if_neg c]
      exact TL.rf
theorem tl_lookA (hc : CN e) (p0 : 0 ≤ p) (p1 : p < e.1 8 2) (hr : 0 ≤ e.1 (8000 + p) 0 ∧ e.1 (8000 + p) 0 < e.1 7 2) : TL e (pLookA p e) := by
  have n8 := hc.2.1
  have s5 : ∀ v j, TL e (eS e (8000 + p) j v) := fun v j => tl_eS hc (by omega) (by omega) (by omega)
  have c5 : ∀ v j, CN (eS e (8000 + p) j v) := fun v j => cn_eS hc (by omega)
  have r7 : ∀ v j, (eS e (8000 + p) j v).1 7 2 = e.1 7 2 := fun v j => eS_a (by omega)
  unfold pLookA
  split
  · split
    · exact (s5 2 5).tr (tl_arr (c5 2 5) hr.1 (by rw [r7]; exact hr.2))
    · exact TL.rf
  · split
    · unfold pMiss
      split
      · exact (s5 0 5).tr (tl_eS (c5 0 5) (by omega) (by omega) (by omega))
      · exact (s5 2 5).tr (tl_arr (c5 2 5) hr.1 (by rw [r7]; exact hr.2))
    · exact TL.rf
theorem tl_laL : ∀ (n : Nat) (i : Int) (e : ES), PW e → 0 ≤ i → 0 ≤ e.1 4 14 ∧ e.1 4 14 < 1000000 → TL e (pLaL n i e) := by
  intro n
  induction n with
  | zero => intro i e h _ _; exact TL.rf
  | succ n ih =>
    intro i e h i0 ht
    unfold pLaL
    by_cases cc : i < e.1 8 2
    · rw [if_pos cc]
      have st := lookA_st h i0 cc
      exact (tl_lookA h.1.2 i0 cc (h.2.2.1 i i0 cc).2.1).tr (ih (i + 1) _ (h.lookA i0 cc ht) (by omega) (by rw [st.2.1]; exact ht))
    · rw [if_neg cc]
      exact TL.rf
theorem kt_lsL : ∀ (n : Nat) (i : Int) (e : ES), CN e → 0 ≤ i → KT e (pLsL n i e) := by
  intro n
  induction n with
  | zero => intro i e hc _; exact KT.rf hc
  | succ n ih =>
    intro i e hc i0
    unfold pLsL
    by_cases cc : i < e.1 10 2
    · rw [if_pos cc]
      have k := kt_lookS hc i0 cc
      exact k.tr (ih (i + 1) _ k.2.1 (by omega))
    · rw [if_neg cc]
      exact KT.rf hc
theorem lsLr {Y Z : Int} {K : MM → Option (Int × MM)} : ∀ (n f : Nat) (i : Int) (m : MM) (e : ES), RXE m e → PW e → RLw e → LsB e → RFw (pLsL n i e) → 0 ≤ i → e.1 10 2 < i + n → 0 < n → n ≤ f → ∃ m', fl_X12_pass_71 Y Z K f i m = K m' ∧ RXE m' (pLsL n i e) ∧ SCR m m' := by
  intro n
  induction n with
  | zero => intro f i m e h hP hl hL hf i0 i1 hn; omega
  | succ n ih =>
    intro f i m e h hP hl hL hf i0 i1 hn h2
    obtain ⟨f, rfl⟩ : ∃ g, f = g + 1 := ⟨f - 1, by omega⟩
    have hu : pLsL (n + 1) i e = if i < e.1 10 2 then pLsL n (i + 1) (pLookS i e) else e := rfl
    have e69 : m 68 69 = e.1 10 2 := h.ps.2.2.2.2.2.2.2.2.1
    have n10 := hP.1.2.2.2.2.1
    rw [hu] at hf ⊢
    by_cases cc : i < e.1 10 2
    · rw [if_pos cc] at hf ⊢
      have k := kt_lookS hP.1.2 i0 cc
      have kl := kt_lsL n (i + 1) (pLookS i e) k.2.1 (by omega)
      obtain ⟨m1, v1, v2, v3⟩ := rLookS h hP hl hL (hf.bk kl.1) i0 cc (hP.2.2.2 i i0 cc).1.2.2
      obtain ⟨m', w1, w2, w3⟩ := ih f (i + 1) m1 _ v2 (hP.lookS i0 cc hl.1) (k.1.2.2 hl) (k.2.2.2.1 hL) hf (by omega) (by rw [k.2.2.2.2.1]; omega) (by omega) (by omega)
      refine ⟨m', ?_, w2, v3.tr w3⟩
      unfold fl_X12_pass_71
      rw [lx_p, e69, if_pos cc, bd_t v1, lx_p, w32_id (z := i + 1) (by omega) (by omega)]
      exact w1
    · rw [if_neg cc]
      unfold fl_X12_pass_71
      rw [lx_p, e69, if_neg cc]
      exact ⟨m, rfl, h, SCR.rf⟩
/-- a tick: what it keeps -/
theorem tick_g (h : PW e) (hl : RLw e) (ht : e.1 4 14 + 1 < 1000000) : PW (pTick e) ∧ (RLw (pBT e) ∧ MR (pBT e) (pFrL 31 0 (pBT e)) ∧ MR (pFrL 31 0 (pBT e)) (pLaL 61 0 (pFrL 31 0 (pBT e))) ∧ MR (pLaL 61 0 (pFrL 31 0 (pBT e))) (pTick e)) ∧ TL e (pTick e) ∧ (TL (pBT e) (pFrL 31 0 (pBT e)) ∧ TL (pFrL 31 0 (pBT e)) (pLaL 61 0 (pFrL 31 0 (pBT e))) ∧ TL e (pBT e)) ∧ (PW (pFrL 31 0 (pBT e)) ∧ PW (pLaL 61 0 (pFrL 31 0 (pBT e)))) ∧ (pTick e).1 4 14 = e.1 4 14 + 1 ∧ (RFw (pBT e) → RFw e) := by
  have hc := h.1.2
  have n7 := hc.1
  have n10 := hc.2.2.2.1
  obtain ⟨⟨l1, l2⟩, l3, l4, l5⟩ := hl
  have ha : ∀ a u : Int, (a ≠ 4 ∨ u ≠ 14) → a ≠ 13 → (pBT e).1 a u = e.1 a u := fun a u h1 h2 => bt_a h1 h2
  have t0 : (pBT e).1 4 14 = e.1 4 14 + 1 := bt_t
  have hNB : ∀ i : Int, 0 ≤ i → i < e.1 7 2 → hN (pBT e) i = hN e i := fun i i0 i1 => ha _ _ (by omega) (by omega)
  have lB : RLw (pBT e) := by
    unfold RLw
    rw [t0, ha 3 0 (by decide) (by decide), ha 68 29 (by decide) (by decide), ha 4 16 (by decide) (by decide), ha 7 2 (by decide) (by decide)]
    exact ⟨by omega, l3, l4, fun i i0 i1 => by rw [hNB i i0 i1]; exact l5 i i0 i1⟩
  have tB : TL e (pBT e) := by
    refine ⟨fun hT r r0 r1 => ?_, fun hL p p0 p1 => ?_⟩
    · rw [ha 7 2 (by decide) (by decide)] at r1
      obtain ⟨q1, q2, q3⟩ := hT r r0 r1
      refine ⟨q1, q2, fun g hd => q3 g ?_⟩
      unfold Dead at hd ⊢
      rw [ha _ _ (by omega) (by omega)] at hd
      exact hd
    · rw [ha 10 2 (by decide) (by decide)] at p1
      rw [ha _ _ (by omega) (by omega), ha 7 2 (by decide) (by decide)]
      exact hL p p0 p1
  have PB := h.bt
  obtain ⟨g1, g2⟩ := frL_f 31 0 (pBT e) PB (Int.le_refl _)
  obtain ⟨k1, k2⟩ := laL_f 61 0 (pFrL 31 0 (pBT e)) g2 (Int.le_refl _) (by rw [g1.2.1, t0]; omega)
  obtain ⟨q1, q2⟩ := lsL_f 5 0 (pLaL 61 0 (pFrL 31 0 (pBT e))) k2 (Int.le_refl _) (by rw [k1.2.1, g1.2.1, t0]; omega)
  have f1 := mr_frL 31 0 (pBT e) PB.1.2 (Int.le_refl _)
  have f2 := mr_laL 61 0 (pFrL 31 0 (pBT e)) g2 (Int.le_refl _) (by rw [g1.2.1, t0]; omega)
  have f3 := kt_lsL 5 0 (pLaL 61 0 (pFrL 31 0 (pBT e))) k2.1.2 (Int.le_refl _)
  have u1 := tl_frL 31 0 (pBT e) PB.1.2 (Int.le_refl _)
  have u2 := tl_laL 61 0 (pFrL 31 0 (pBT e)) g2 (Int.le_refl _) (by rw [g1.2.1, t0]; omega)
  refine ⟨q2, ⟨lB, f1.1, f2.1, f3.1⟩, ((tB.tr u1).tr u2).tr ⟨f3.2.2.1, f3.2.2.2.1⟩, ⟨u1, u2, tB⟩, ⟨g2, k2⟩, (((g1.tr k1).tr q1).2.1).trans t0, fun hf => ?_⟩
  obtain ⟨b1, b2, b3, b4⟩ := hf
  rw [ha 68 1000 (by decide) (by decide)] at b1
  rw [ha 68 29 (by decide) (by decide)] at b2
  rw [ha 7 2 (by decide) (by decide)] at b3 b4
  exact ⟨b1, b2, b3, fun i i0 i1 => by rw [← hNB i i0 i1]; exact b4 i i0 i1⟩
theorem pas_b : ∀ (n : Nat) (e : ES), PW e → RLw e → e.1 4 14 + n < 1000000 → RFw (pPasL n e) → RFw e := by
  intro n
  induction n with
  | zero => intro e _ _ _ hf; exact hf
  | succ n ih =>
    intro e h hl ht hf
    obtain ⟨f1, ⟨f2, f3, f4, f5⟩, f6, f7, f8, f9, f10⟩ := tick_g h hl (by omega)
    have l2 : RLw (pTick e) := ((f3.tr f4).tr f5).2.2 f2
    exact f10 ((ih (pTick e) f1 l2 (by omega) hf).bk ((f3.tr f4).tr f5))
theorem pasLr : ∀ (n f : Nat) (i : Int) (m : MM) (e : ES), RXE m e → PW e → RLw e → TmS e → LsB e → RFw (pPasL n e) → e.1 4 14 + n < 1000000 → 0 ≤ i → i + n = N → N < 1000000 → n < f → ∃ m', fl_X12_pass_26 N f i m = some ((pPasL n e).1 4 14, m') ∧ RXE m' (pPasL n e) ∧ SCR m m' := by
  intro n
  induction n with
  | zero =>
    intro f i m e h hP hl hT hL hf ht i0 iN hN h2
    obtain ⟨f, rfl⟩ : ∃ g, f = g + 1 := ⟨f - 1, by omega⟩
    have e0 : m 68 0 = e.1 4 14 := h.ps.1
    unfold fl_X12_pass_26
    rw [if_neg (by omega), lx_p, e0]
    exact ⟨m, rfl, h, SCR.rf⟩
  | succ n ih =>
    intro f i m e h hP hl hT hL hf ht i0 iN hN h2
    obtain ⟨f, rfl⟩ : ∃ g, f = g + 1 := ⟨f - 1, by omega⟩
    have hu : pPasL (n + 1) e = pPasL n (pTick e) := rfl
    rw [hu] at hf ⊢
    have hc := hP.1.2
    have e0 : m 68 0 = e.1 4 14 := h.ps.1
    have hl1 := hl.1
    obtain ⟨f1, ⟨f2, f3, f4, f5⟩, f6, ⟨f7, f7b, f7c⟩, ⟨f8, f8b⟩, f9, f10⟩ := tick_g hP hl (by omega)
    have l4 : RLw (pTick e) := ((f3.tr f4).tr f5).2.2 f2
    have b3 := pas_b n (pTick e) f1 l4 (by omega) hf
    have b2 := b3.bk f5
    have b1 := b2.bk f4
    have h1 := h.btk hc
    have sc : SCR m (mset (mset (mset (mset m 68 0 (e.1 4 14 + 1)) 120 0 0) 120 1 0) 120 2 0) := (((SCR.ms (by decide) (by decide) (by decide) (by omega)).tr (SCR.ms (by decide) (by decide) (by decide) (by omega))).tr (SCR.ms (by decide) (by decide) (by decide) (by omega))).tr (SCR.ms (by decide) (by decide) (by decide) (by omega))
    obtain ⟨m2, g1, g2, g3⟩ := h1.fires hP.bt.1.2 f2 (f7c.1 hT) b1
    obtain ⟨m3, q1, q2, q3⟩ := laLr 61 BIG 0 m2 _ g2 f8 (f3.2.2 f2) b2 (Int.le_refl _) (by have := f8.1.2.2.1; omega) (by omega) (by decide)
    obtain ⟨m4, s1, s2, s3⟩ := lsLr (Y := N) (Z := i) (K := fun m_184 =>
lx (w32 (i + 1)) fun x_194 =>
fl_X12_pass_26 N f x_194 m_184) 5 BIG 0 m3 _ q2 f8b (f4.2.2 (f3.2.2 f2)) (f7b.2 (f7.2 (f7c.2 hL))) b3 (Int.le_refl _) (by have := f8b.1.2.2.2.2.1; omega) (by omega) (by decide)
    obtain ⟨m5, u1, u2, u3⟩ := ih f (i + 1) m4 (pTick e) s2 f1 l4 (f6.1 hT) (f6.2 hL) hf (by omega) (by omega) (by omega) hN (by omega)
    refine ⟨m5, ?_, u2, (((sc.tr g3).tr q3).tr s3).tr u3⟩
    obtain ⟨B, hB⟩ : ∃ B, BIG = B + 4 := ⟨BIG - 4, by decide⟩
    have ql : fm_X12_looksAtActivities m2 = some (0, m3) := q1
    have lo : ∀ (K : MM → Option (Int × MM)) (m0 : MM), fl_X12_pass_43 N i K BIG 0 m0 = K (mset (mset (mset m0 120 0 0) 120 1 0) 120 2 0) := fun K m0 => by
      rw [hB]
      unfold fl_X12_pass_43
      rw [if_pos (by decide), gd_t (by decide), up_t, lx_p, w32_id (z := (0 : Int) + 1) (by decide) (by decide)]
      unfold fl_X12_pass_43
      rw [if_pos (by decide), gd_t (by decide), up_t, lx_p, w32_id (z := (0 : Int) + 1 + 1) (by decide) (by decide)]
      unfold fl_X12_pass_43
      rw [if_pos (by decide), gd_t (by decide), up_t, lx_p, w32_id (z := (0 : Int) + 1 + 1 + 1) (by decide) (by decide)]
      unfold fl_X12_pass_43
      rw [if_neg (by decide)]
      rfl
    unfold fl_X12_pass_26
    rw [if_pos (by omega), lx_p, e0, w32_id (z := e.1 4 14 + 1) (by omega) (by omega), up_t, lo, bd_t g1, bd_t ql, s1, lx_p, w32_id (z := i + 1) (by omega) (by omega)]
    exact u1
theorem x_pass (h : RXE m e) (hP : PW e) (hl : RLw e) (hT : TmS e) (hL : LsB e) (hf : 1 ≤ p1 → p1 ≤ 100 → RFw (pPasL p1.toNat e)) (ht : e.1 4 14 + 100 < 1000000) : OKr (fm_X12_pass p1 m) cd1 (pcPass p1 e) := by
  have hc := hP.1.2
  have h0 := h.th (q := 0) hc
  unfold fm_X12_pass pcPass
  rw [bp_t isIn_e]
  by_cases c : 1 ≤ p1 ∧ p1 ≤ 100
  · rw [if_pos c, if_neg (show ¬ (1 : Int) = 0 by decide), if_neg (by omega)]
    unfold fj_X12_pass_16
    rw [bd_t fails_e, if_neg (show ¬ (0 : Int) < 0 by decide), if_pos (show (0 : Int) = 0 from rfl)]
    obtain ⟨m1, g1, g2, g3⟩ := pasLr (N := p1) p1.toNat BIG 0 (mset m 68 129 0) e h0 hP hl hT hL (hf c.1 c.2) (by omega) (Int.le_refl _) (by omega) (by omega) (BIG_g (by omega))
    rw [g1]
    exact OKr.fin g2 (by rw [g3.2 129 (by decide)]; exact ms_e)
  · rw [if_neg c, if_pos (show (0 : Int) = 0 from rfl), if_pos (by omega)]
    unfold fj_X12_pass_16
    rw [bd_t fails_e, if_pos (show (0 : Int) < 1 by decide), if_neg (show ¬ (1 : Int) = 0 by decide)]
    exact OKr.no h hc rfl
end RXU4
