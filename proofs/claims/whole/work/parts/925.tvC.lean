/-! WHAT EVERY CALL LEAVES: time, versions, code: time passes. -/
section TVC
variable {e e' e1 e2 : ES} {S D T a b c d i j k q r v w N M p x y t o m s z p1 p2 : Int} {nn : Nat}
theorem tv_fireL (r0 : 0 ≤ r) : ∀ (n : Nat) (k : Int) (e : ES), CN e → HNN e → r < e.1 7 2 → 0 ≤ k → ((eL e (73000 + r)).length : Int) = k + n → TV e (pFireL r n k e) := by
  intro n
  induction n with
  | zero => intro k e _ _ _ _ _; exact TV.rf
  | succ n ih =>
    intro k e hc hK r1 k0 hl
    have n7 := hc.1
    unfold pFireL
    split
    · exact ih _ e hc hK r1 (by omega) (by omega)
    · have g := gc_arr (Z := nZ) (r := r) (k := 3) (x := (eL e (73000 + r)).getD k.toNat 0) (y := 0) hc hK r0 r1 (by decide) (by decide)
      have b1 := tv_arr (q := r) (k := 3) (x := (eL e (73000 + r)).getD k.toNat 0) (y := 0) hc hK r0 r1 (by decide) (by decide)
      have e7 : (pArr r 3 ((eL e (73000 + r)).getD k.toNat 0) 0 e).1 7 2 = e.1 7 2 := arr_a (by decide) (by decide) (by omega) (by omega) (by decide)
      have el : ∀ c, eL (pArr r 3 ((eL e (73000 + r)).getD k.toNat 0) 0 e) c = eL e c := fun c => arr_l
      generalize pArr r 3 ((eL e (73000 + r)).getD k.toNat 0) 0 e = e1 at g b1 e7 el ⊢
      have b2 : TV e1 (pRemT r k e1) := TV.fr g.2 (fun _ _ _ => rfl) (Int.le_refl _) fun c c0 c1 => remT_l (by have := g.2.1; omega) (by have := g.2.1; omega)
      have hc2 : CN (pRemT r k e1) := g.2.of fun _ _ => rfl
      have hK2 : HNN (pRemT r k e1) := g.hk hK
      have t1 : eL (pRemT r k e1) (73000 + r) = (eL e (73000 + r)).eraseIdx k.toNat := by
        have := (remT_3 (e := e1) (r := r) (k := k)).1
        rw [this, el]
      have u := ih k (pRemT r k e1) hc2 hK2 (by show r < e1.1 7 2; omega) k0 (by
        rw [t1, List.length_eraseIdx, if_pos (by omega)]
        omega)
      have h1 : TV e (pRemT r k e1) := b1.tr b2
      exact h1.tr u
theorem tv_fire (hH : HH S D T e) (r0 : 0 ≤ r) (r1 : r < e.1 7 2) : TV e (pFire r e) := tv_fireL r0 _ 0 e hH.cn hH.hn r1 (Int.le_refl _) (by omega)
theorem tv_frL : ∀ (n : Nat) (i : Int) (e : ES), HH S D T e → 0 ≤ i → TV e (pFrL n i e) := by
  intro n
  induction n with
  | zero => intro i e _ _; exact TV.rf
  | succ n ih =>
    intro i e h i0
    unfold pFrL
    split
    · rename_i c
      exact (tv_fire h i0 c).tr (ih (i + 1) _ (h.fire i0 c).1 (by omega))
    · exact TV.rf
theorem tv_lookA (h : HH S D T e) (p0 : 0 ≤ p) (p1 : p < e.1 8 2) : TV e (pLookA p e) := by
  have q := (h.2.1.2.2.1 p p0 p1).2.1
  unfold pLookA
  split
  · rename_i c
    split
    · exact tv_back h.cn h.hn p0 p1 (by omega) q.1 q.2 (Or.inr rfl)
    · exact TV.rf
  · split
    · rename_i c
      exact TV.miss h p0 p1 (by omega)
    · exact TV.rf
theorem tv_laL : ∀ (n : Nat) (i : Int) (e : ES), HH S D T e → PW e → (0 ≤ e.1 4 14 ∧ e.1 4 14 < 1000000) → 0 ≤ i → TV e (pLaL n i e) := by
  intro n
  induction n with
  | zero => intro i e _ _ _ _; exact TV.rf
  | succ n ih =>
    intro i e h hP ht i0
    unfold pLaL
    split
    · rename_i c
      have st := lookA_st hP i0 c
      exact (tv_lookA h i0 c).tr (ih (i + 1) _ (h.lookA hP.1.1 ht i0 c).1 (hP.lookA i0 c ht) (by rw [st.2.1]; exact ht) (by omega))
    · exact TV.rf
theorem tv_s10 (hc : CN e) (p0 : 0 ≤ p) (p1 : p < 1000) : TV e (eS e (10000 + p) j v) := tv_es hc (by omega)
theorem tv_stF (h : HH S D T e) (p0 : 0 ≤ p) (p1 : p < 1000) (v0 : 0 ≤ v) (v1 : v ≤ 999) (hs : ScB p e) : TV e (pStF p v e) := by
  unfold pStF
  split
  · rename_i c
    obtain ⟨g1, g2⟩ := h.start (inp := v) c v0 v1 hs.1 hs.2.1 hs.2.2
    exact (tv_start h.cn h.hn c).tr (tv_s10 g1.cn p0 p1)
  · exact TV.rf
theorem tv_meet (h : HH S D T e) (p0 : 0 ≤ p) (p1 : p < 1000) (v0 : 0 ≤ v) (v1 : v ≤ 999) (hs : ScB p e) : TV e (pMeet p v e) := by
  unfold pMeet
  by_cases c1 : ¬ lastO e p ∨ e.1 (10000 + p) 3 = 3
  · rw [if_pos c1]
    exact tv_stF h p0 p1 v0 v1 hs
  · rw [if_neg c1]
    have hl : lastO e p := by
      by_cases c : lastO e p
      · exact c
      · exact absurd (Or.inl c) c1
    split
    · split
      · obtain ⟨g1, -⟩ := h.s10 (j := 7) (v := 1) p0 p1 (Or.inr (Or.inl (by decide)))
        exact (tv_s10 h.cn p0 p1).tr (tv_s10 g1.cn p0 p1)
      · exact TV.rf
    · split
      · obtain ⟨g1, g2⟩ := h.can hl.1.1 hl.1.2 (al_nd.mp (Or.inl hl.2))
        exact (tv_can h.cn h.hn hl.1.1 hl.1.2).tr (tv_stF g1 p0 p1 v0 v1 (hs.sd g2 p0 p1))
      · exact TV.rf
theorem tv_schL (p0 : 0 ≤ p) (p1 : p < 1000) : ∀ (n : Nat) (t : Int) (e : ES), HH S D T e → ScB p e → TV e (pSchL p N n t e) := by
  intro n
  induction n with
  | zero => intro t e _ _; exact TV.rf
  | succ n ih =>
    intro t e h hs
    unfold pSchL
    split
    · exact TV.rf
    · have g : (HH S D T (pPt p t e) ∧ SD e (pPt p t e)) ∧ TV e (pPt p t e) := by
        unfold pPt
        split
        · exact ⟨h.meet p0 p1 (by omega) (by omega) hs, tv_meet h p0 p1 (by omega) (by omega) hs⟩
        · exact ⟨⟨h, SD.rf⟩, TV.rf⟩
      exact g.2.tr (ih (t + 1) _ g.1.1 (hs.sd g.1.2 p0 p1))
theorem tv_lookS (h : HH S D T e) (p0 : 0 ≤ p) (p1 : p < 1000) (hv : 0 ≤ e.1 (10000 + p) 8 ∧ e.1 (10000 + p) 8 ≤ 999) (hs : ScB p e) : TV e (pLookS p e) := by
  have h1 : (HH S D T (pLkS1 p e) ∧ SD e (pLkS1 p e)) ∧ TV e (pLkS1 p e) := by
    unfold pLkS1
    split
    · obtain ⟨g1, g2⟩ := h.s10 (j := 7) (v := 0) p0 p1 (Or.inr (Or.inl (by decide)))
      obtain ⟨k1, k2⟩ := g1.stF p0 p1 hv.1 hv.2 (hs.sd g2 p0 p1)
      exact ⟨⟨k1, g2.tr k2⟩, (tv_s10 h.cn p0 p1).tr (tv_stF g1 p0 p1 hv.1 hv.2 (hs.sd g2 p0 p1))⟩
    · exact ⟨⟨h, SD.rf⟩, TV.rf⟩
  unfold pLookS pLk29
  obtain ⟨g1, g2⟩ := HH.schL p0 p1 ((((pLkS1 p e).1 4 14 + (pLkS1 p e).1 4 15 - (pLkS1 p e).1 (10000 + p) 4).toNat + 1)) ((pLkS1 p e).1 (10000 + p) 4 + 1) _ h1.1.1 (hs.sd h1.1.2 p0 p1) (N := (pLkS1 p e).1 4 14 + (pLkS1 p e).1 4 15)
  have g3 := tv_schL p0 p1 ((((pLkS1 p e).1 4 14 + (pLkS1 p e).1 4 15 - (pLkS1 p e).1 (10000 + p) 4).toNat + 1)) ((pLkS1 p e).1 (10000 + p) 4 + 1) _ h1.1.1 (hs.sd h1.1.2 p0 p1) (N := (pLkS1 p e).1 4 14 + (pLkS1 p e).1 4 15)
  exact (h1.2.tr g3).tr (tv_s10 g1.cn p0 p1)
theorem tv_lsL : ∀ (n : Nat) (i : Int) (e : ES), HH S D T e → PW e → (0 ≤ e.1 4 14 ∧ e.1 4 14 < 1000000) → (∀ p : Int, 0 ≤ p → p < e.1 10 2 → ScB p e) → 0 ≤ i → TV e (pLsL n i e) := by
  intro n
  induction n with
  | zero => intro i e _ _ _ _ _; exact TV.rf
  | succ n ih =>
    intro i e h hP ht hs i0
    have n10 := h.cn.2.2.2.1
    unfold pLsL
    split
    · rename_i c
      have k := lookS_st hP i0 c
      obtain ⟨g1, g2⟩ := h.lookS i0 (by omega) (hP.2.2.2 i i0 c).1.2.2 (hs i i0 c)
      have g3 := tv_lookS h i0 (by omega) (hP.2.2.2 i i0 c).1.2.2 (hs i i0 c)
      exact g3.tr (ih (i + 1) _ g1 (hP.lookS i0 c ht) (by rw [k.2.1]; exact ht) (fun p p0 p1 => by
        rw [k.2.2.1 10 (by decide) (by decide)] at p1
        exact (hs p p0 p1).sd g2 p0 (by omega)) (by omega))
    · exact TV.rf
theorem vs_bt (hc : CN e) : VS e (pBT e) := VS.fr hc (fun a u h => bt_a (by omega) (by omega)) (by rw [bt_a (by decide) (by decide)]; exact Int.le_refl _) fun _ _ _ => rfl
theorem tv_tick (h : HH S D T e) (hP : PW e) (hb : BDl e) (hs : ∀ p : Int, 0 ≤ p → p < e.1 10 2 → ScB p e) (ht : e.1 4 14 + 1 < 1000000) : (pTick e).1 4 14 = e.1 4 14 + 1 ∧ VS e (pTick e) := by
  obtain ⟨f1, f2, f3, f4, ⟨f5, f6⟩, f7, f8, f9⟩ := tick_f hP hb ht
  have t0 := hb.1
  have n10 := h.cn.2.2.2.1
  have e14 : (pBT e).1 4 14 = e.1 4 14 + 1 := bt_t
  have n7 := h.cn.1
  have sb : SD e (pBT e) := ⟨⟨by rw [bt_a (by decide) (by decide)]; omega, by rw [e14]; omega⟩, fun a u ha => bt_a (by omega) (by omega), fun _ _ _ => rfl, fun r r0 r1 u _ => bt_a (by omega) (by omega), fun r r0 r1 r2 => by rw [bt_a (by decide) (by decide)] at r2; omega, fun w w0 w1 => Or.inr (bt_13 w0 w1), fun q q0 q1 => ⟨Or.inl (bt_a (by omega) (by omega)), Or.inl (bt_a (by omega) (by omega))⟩⟩
  obtain ⟨k1, k2⟩ := hh_frL 31 0 _ h.bt (Int.le_refl _)
  obtain ⟨k3, k4⟩ := hh_laL 61 0 _ k1 f6 (by rw [f5.2.1, e14]; omega) (Int.le_refl _)
  have k5 := (sb.tr k2).tr k4
  have a1 := vs_bt h.cn
  have a2 := tv_frL 31 0 _ h.bt (Int.le_refl _)
  have a3 := tv_laL 61 0 _ k1 f6 (by rw [f5.2.1, e14]; omega) (Int.le_refl _)
  have a4 := tv_lsL 5 0 _ k3 f8 (by rw [f4.2.1, e14]; omega) (fun p p0 p1 => by
    rw [f4.2.2.1 10 (by decide) (by decide), bt_a (by decide) (by decide)] at p1
    exact (hs p p0 p1).sd k5 p0 (by omega)) (Int.le_refl _)
  have a5 := (a2.tr a3).tr a4
  unfold pTick
  exact ⟨a5.1.trans e14, a1.tr a5.2⟩
theorem tv_pas : ∀ (n : Nat) (e : ES), HH S D T e → PW e → BDl e → (∀ p : Int, 0 ≤ p → p < e.1 10 2 → ScB p e) → e.1 4 14 + n < 1000000 → (pPasL n e).1 4 14 = e.1 4 14 + n ∧ VS e (pPasL n e) := by
  intro n
  induction n with
  | zero => intro e _ _ _ _ _; exact ⟨by show e.1 4 14 = e.1 4 14 + 0; omega, VS.rf⟩
  | succ n ih =>
    intro e h hP hb hs ht
    have n10 := h.cn.2.2.2.1
    obtain ⟨f1, f2, f3, f4, -, -, -, f9⟩ := tick_f hP hb (by omega)
    obtain ⟨k1, k2⟩ := h.tick hP hb hs (by omega)
    have hs' : ∀ p : Int, 0 ≤ p → p < (pTick e).1 10 2 → ScB p (pTick e) := fun p p0 p1 => by
      rw [f9.2.2.1 10 (by decide) (by decide), f4.2.2.1 10 (by decide) (by decide), bt_a (by decide) (by decide)] at p1
      exact (hs p p0 p1).sd k2 p0 (by omega)
    obtain ⟨t1, t2⟩ := tv_tick h hP hb hs (by omega)
    obtain ⟨t3, t4⟩ := ih _ k1 f1 f2 hs' (by omega)
    unfold pPasL
    exact ⟨by omega, t2.tr t4⟩
theorem tc_pass (gl : GLo k e) (h : HH S D T e) (hP : PW e) (hb : BDl e) (ht : e.1 4 14 + 100 < 1000000) : (e.1 4 14 ≤ (pcPass p1 e).2.1 4 14 ∧ (pcPass p1 e).2.1 4 14 ≤ e.1 4 14 + 100) ∧ VS e (pcPass p1 e).2 := by
  unfold pcPass
  split
  · have g := tv_thr h.cn
    exact ⟨by have := g.1; show e.1 4 14 ≤ (pThr e).1 4 14 ∧ (pThr e).1 4 14 ≤ _; omega, g.2⟩
  · rename_i c
    have hs := gl.2.2.2.2.2.2.2
    obtain ⟨t1, t2⟩ := tv_pas p1.toNat _ h hP hb (fun p p0 p1 => by
      have g := hs p p0 p1
      exact ⟨⟨g.1.1, g.1.2.1⟩, g.2.1, g.1.2.2⟩) (by omega)
    exact ⟨by show e.1 4 14 ≤ (pPasL p1.toNat e).1 4 14 ∧ (pPasL p1.toNat e).1 4 14 ≤ _; omega, t2⟩
end TVC
