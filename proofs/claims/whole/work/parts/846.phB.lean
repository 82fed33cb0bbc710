/-! LINKS AND HISTORIES, through the calls: given out, moved, brought in, ticks, joined, set back. -/
section PHB
variable {e e' e1 e2 : ES} {S D T S' D' T' : Int} {a b c i j k q r v w N M p x y t o ev tn ver inp par pe fin p1 p2 p3 p4 p5 p6 : Int} {n : Nat} {s : TS} {B : Int} {E : Int → Ev}
theorem ph_poll (h : PHs S D T e) (hc : CN (pcPoll p1 e).2) : PHs S D T (pcPoll p1 e).2 := by
  have n9 := h.cn.2.2.1
  unfold pcPoll at hc ⊢
  by_cases c1 : 0 ≤ p1 ∧ p1 < 3
  · rw [if_pos c1] at hc ⊢
    by_cases c2 : fPo e 4 (-1) 0 < 0
    · rw [if_pos c2]
      exact h
    · rw [if_neg c2] at hc ⊢
      have key : ∀ a u : Int, (a < 9 ∨ 64 < a) → (a < 9000 ∨ 10000 ≤ a) → u ≠ 10 → (pNew 9 (fTsk p1 (fPo e 4 (-1) 0) (e.1 4 14) (hA e (fPo e 4 (-1) 0)) (pMark e (fPo e 4 (-1) 0))) (eS (pGiv (e.1 (7000 + fPo e 4 (-1) 0) 2) e) (7000 + fPo e 4 (-1) 0) 10 (e.1 9 2))).1 a u = e.1 a u := fun a u h1 h2 h3 => by
        have e9 : (eS (pGiv (e.1 (7000 + fPo e 4 (-1) 0) 2) e) (7000 + fPo e 4 (-1) 0) 10 (e.1 9 2)).1 9 2 = e.1 9 2 := by
          rw [es_pt, if_neg (by omega)]
          unfold pGiv
          rw [es_pt, if_neg (by omega), es_pt, if_neg (by omega)]
        rw [pNew_a (by omega) (by rw [e9]; omega), es_pt, if_neg (by omega)]
        unfold pGiv
        rw [es_pt, if_neg (by omega), es_pt, if_neg (by omega)]
      exact h.fr hc (by rw [key _ _ (by omega) (by omega) (by omega)]; exact h.1.1.1.2.1) (fun a u ha => key a u (by omega) (by omega) (by omega)) (fun _ _ _ => ⟨rfl, rfl⟩) fun _ _ _ => rfl
  · rw [if_neg c1]
    exact h.thr
theorem ph_dieL : ∀ (n : Nat) (c i : Int) (e : ES), PHs S D T e → 0 ≤ i → PHs S D T (pDieL w n c i e).2 := by
  intro n
  induction n with
  | zero => intro c i e h _; exact h
  | succ n ih =>
    intro c i e h i0
    have n9 := h.cn.2.2.1
    unfold pDieL
    split
    · split
      · exact ih _ _ _ (h.es0 (by omega) (by omega)) (by omega)
      · exact ih _ _ _ h (by omega)
    · exact h
theorem ph_die2 : ∀ (n : Nat) (i : Int) (e : ES), PHs S D T e → 0 ≤ i → PHs S D T (pDie2 w n i e) := by
  intro n
  induction n with
  | zero => intro i e h _; exact h
  | succ n ih =>
    intro i e h i0
    have n7 := h.cn.1
    unfold pDie2
    split
    · exact ih _ _ (h.es0 (by omega) (by omega)) (by omega)
    · exact h
theorem ph_die (h : PHs S D T e) : PHs S D T (pcDie p1 e).2 := by
  unfold pcDie
  split
  · exact ph_die2 _ _ _ (ph_dieL _ _ _ _ h (Int.le_refl _)) (Int.le_refl _)
  · exact h.thr
/-- who is alive runs on -/
theorem PHs.st0 (h : PHs S D T e) (r0 : 0 ≤ r) (r1 : r < e.1 7 2) (hd : ¬ Dead e r) (hv : v = 0 ∨ v = 6) : PHs S D T (eS e (7000 + r) 6 v) := by
  have hc := h.cn
  have n8 := hc.2.1
  have n7 := hc.1
  have pa : ∀ a u : Int, a ≠ 7000 + r ∨ u ≠ 6 → (eS e (7000 + r) 6 v).1 a u = e.1 a u := fun a u hh => by rw [es_pt, if_neg (by omega)]
  have hD : ∀ p : Int, Dead (eS e (7000 + r) 6 v) p ↔ Dead e p := fun p => by
    by_cases c : p = r
    · subst c
      refine ⟨fun d => ?_, fun d => absurd d hd⟩
      unfold Dead at d
      rw [eS_e] at d
      omega
    · exact Dead.eq (pa _ _ (by omega))
  refine ⟨h.1.sub (hc.of fun a _ => pa _ _ (by omega)) (pa _ _ (by omega)) (by rw [pa _ _ (by omega)]; exact h.1.1.1.2.1) (h.1.pr.of (pa _ _ (by omega)) fun j j0 j1 => pa _ _ (by omega)) (fun r r0 r1 => ⟨pa _ _ (by omega), rfl⟩) (fun _ _ _ => rfl) (fun p _ _ d => (hD p).mpr d) fun k q v w g => g.mono (fun _ _ _ g => g) (pa _ _ (by omega)) (pa _ _ (by omega)) (fun p p0 p1' g => ⟨fun hh => g (by rw [pa _ _ (by omega)]; exact hh), pa _ _ (by omega), pa _ _ (by omega)⟩) (fun q v q0 q1 hv => hv) (fun p p0 p1' g => ⟨pa _ _ (by omega), pa _ _ (by omega)⟩) fun p _ _ d => (hD p).mpr d, h.2.of (pa _ _ (by omega)) (fun p _ _ d => (hD p).mpr d) fun q q0 q1 => by unfold hN; rw [pa _ _ (by omega)]; omega⟩
theorem ph_move (h : PHs S D T e) : PHs S D T (pcMove p1 p2 e).2 := by
  have n7 := h.cn.1
  unfold pcMove
  split
  · rename_i c
    split
    · split
      · rename_i c2
        have h1 : PHs S D T (eS e (7000 + p1) 3 p2) := h.es0 (by omega) (by omega)
        have e7 : (eS e (7000 + p1) 3 p2).1 7 2 = e.1 7 2 := by rw [es_pt, if_neg (by omega)]
        have e6 : (eS e (7000 + p1) 3 p2).1 (7000 + p1) 6 = e.1 (7000 + p1) 6 := by rw [es_pt, if_neg (by omega)]
        have h2 : PHs S D T (pMv2 p1 p2 e) := h1.st0 c.1 (by omega) (al_nd.mp (by rw [e6]; exact c2)) (Or.inl rfl)
        exact h2.eqm eM_eq
      · exact h.thr
    · exact h.thr
  · exact h.thr
theorem ph_brL : ∀ (n : Nat) (i : Int) (e : ES), PHs S D T e → PHs S D T (pBrL N n i e).2 := by
  intro n
  induction n with
  | zero => intro i e h; exact h
  | succ n ih =>
    intro i e h
    have n7 := h.cn.1
    unfold pBrL
    split
    · split
      · refine ih _ _ ?_
        unfold pBr1
        by_cases c : (eL e 14).getD (e.1 4 12).toNat 0 / 1000 < e.1 7 2
        · rw [if_pos c]
          by_cases c0 : 0 ≤ (eL e 14).getD (e.1 4 12).toNat 0 / 1000
          · exact (h.es0 (by omega) (by omega)).es0 (by omega) (by omega)
          · refine (h.es (a := 7000 + (eL e 14).getD (e.1 4 12).toNat 0 / 1000) (j := 11) (h.cn.of fun a ha => ?_) (by omega) (by omega)).es0 (by omega) (by omega)
            rw [es_pt, if_neg (by omega)]
        · rw [if_neg c]
          exact h.es0 (by omega) (by omega)
      · exact h
    · exact h
theorem ph_bringIn (h : PHs S D T e) : PHs S D T (pcBringIn p1 e).2 := by
  unfold pcBringIn
  split
  · exact h.thr
  · exact ph_brL _ _ _ h
theorem ph_bfL (p0 : 0 ≤ p) : ∀ (n : Nat) (a t : Int) (e : ES), PHs S D T e → PHs S D T (pBfL p N n a t e).2 := by
  intro n
  induction n with
  | zero => intro a t e h; exact h
  | succ n ih =>
    intro a t e h
    unfold pBfL
    split
    · exact h
    · split
      · rename_i c
        exact ih _ _ _ (h.start c (by omega) (by omega))
      · exact h
theorem ph_backfill (h : PHs S D T e) : PHs S D T (pcBackfill p1 p2 e).2 := by
  unfold pcBackfill
  split
  · rename_i c
    split
    · exact h.thr
    · exact ph_bfL c.1 _ _ _ _ h
  · exact h.thr
theorem ph_unL : ∀ (n : Nat) (a i : Int) (e : ES), PHs S D T e → PHs S D T (pUnL t v n a i e).2 := by
  intro n
  induction n with
  | zero => intro a i e h; exact h
  | succ n ih =>
    intro a i e h
    unfold pUnL
    split
    · split
      · exact ih _ _ _ (h.eqm eM_eq)
      · exact ih _ _ _ h
    · exact h
theorem ph_27 (h : PHs S D T e) : PHs S D T (pcUnsafe p1 p2 e).2 := by
  unfold pcUnsafe
  split
  · split
    · exact ph_unL _ _ _ _ h
    · exact h.thr
  · exact h.thr
/-- a tick -/
theorem PHs.fire (h : PHs S D T e) (hT : TmS e) (r0 : 0 ≤ r) (r1 : r < e.1 7 2) : PHs S D T (pFire r e) ∧ (pFire r e).1 7 2 = e.1 7 2 := by
  obtain ⟨⟨t1, t2⟩, t3, t4⟩ := hT r r0 r1
  obtain ⟨k1, k2, k3⟩ := HK.fireL r0 (eL e (73000 + r)).length 0 e h.1 h.2 r1 (Int.le_refl _) (by omega) t1 t3
  exact ⟨⟨k1, k2⟩, k3⟩
theorem ph_frL : ∀ (n : Nat) (i : Int) (e : ES), PHs S D T e → TmS e → 0 ≤ i → PHs S D T (pFrL n i e) ∧ TmS (pFrL n i e) := by
  intro n
  induction n with
  | zero => intro i e h hT _; exact ⟨h, hT⟩
  | succ n ih =>
    intro i e h hT i0
    unfold pFrL
    split
    · rename_i c
      obtain ⟨k1, k2⟩ := h.fire hT i0 c
      exact ih _ _ k1 ((tl_fireL i0 _ 0 e h.cn c).1 hT) (by omega)
    · exact ⟨h, hT⟩
theorem PHs.lookA (h : PHs S D T e) (p0 : 0 ≤ p) (p1 : p < e.1 8 2) : PHs S D T (pLookA p e) := by
  unfold pLookA
  split
  · rename_i c
    split
    · exact h.1.back8 h.2 p0 p1 (by omega) (Or.inr rfl) (Int.le_refl _) (by decide)
    · exact h
  · split
    · rename_i c
      exact h.1.miss h.2 p0 p1 (by omega)
    · exact h
theorem ph_laL : ∀ (n : Nat) (i : Int) (e : ES), PHs S D T e → 0 ≤ i → PHs S D T (pLaL n i e) := by
  intro n
  induction n with
  | zero => intro i e h _; exact h
  | succ n ih =>
    intro i e h i0
    unfold pLaL
    split
    · rename_i c
      exact ih _ _ (h.lookA i0 c) (by omega)
    · exact h
theorem PHs.s10 (h : PHs S D T e) (p0 : 0 ≤ p) (p1 : p < 1000) (hj : j ≠ 2 ∨ p ≠ 0) : PHs S D T (eS e (10000 + p) j v) := h.es0 (by omega) (by omega)
theorem PHs.stF (h : PHs S D T e) (p0 : 0 ≤ p) (p1 : p < 1000) (v0 : 0 ≤ v) (v1 : v ≤ 999) : PHs S D T (pStF p v e) := by
  unfold pStF
  split
  · rename_i c
    exact (h.start c v0 v1).es0 (by omega) (by omega)
  · exact h
theorem PHs.meet (h : PHs S D T e) (p0 : 0 ≤ p) (p1 : p < 1000) (v0 : 0 ≤ v) (v1 : v ≤ 999) : PHs S D T (pMeet p v e) := by
  unfold pMeet
  by_cases c1 : ¬ lastO e p ∨ e.1 (10000 + p) 3 = 3
  · rw [if_pos c1]
    exact h.stF p0 p1 v0 v1
  · rw [if_neg c1]
    have hl : lastO e p := by
      by_cases c : lastO e p
      · exact c
      · exact absurd (Or.inl c) c1
    split
    · split
      · exact (h.es0 (by omega) (by omega)).es0 (by omega) (by omega)
      · exact h
    · split
      · exact (h.can hl.1.1 hl.1.2 (al_nd.mp (Or.inl hl.2))).stF p0 p1 v0 v1
      · exact h
theorem PHs.schL (p0 : 0 ≤ p) (p1 : p < 1000) : ∀ (n : Nat) (t : Int) (e : ES), PHs S D T e → PHs S D T (pSchL p N n t e) := by
  intro n
  induction n with
  | zero => intro t e h; exact h
  | succ n ih =>
    intro t e h
    unfold pSchL
    split
    · exact h
    · refine ih _ _ ?_
      unfold pPt
      split
      · exact h.meet p0 p1 (by omega) (by omega)
      · exact h
theorem PHs.lookS (h : PHs S D T e) (p0 : 0 ≤ p) (p1 : p < 1000) (hv : 0 ≤ e.1 (10000 + p) 8 ∧ e.1 (10000 + p) 8 ≤ 999) : PHs S D T (pLookS p e) := by
  have h1 : PHs S D T (pLkS1 p e) := by
    unfold pLkS1
    split
    · exact (h.es0 (by omega) (by omega)).stF p0 p1 hv.1 hv.2
    · exact h
  unfold pLookS pLk29
  exact (PHs.schL p0 p1 _ _ _ h1).es0 (by omega) (by omega)
theorem ph_lsL : ∀ (n : Nat) (i : Int) (e : ES), PHs S D T e → PW e → 0 ≤ e.1 4 14 ∧ e.1 4 14 < 1000000 → 0 ≤ i → PHs S D T (pLsL n i e) := by
  intro n
  induction n with
  | zero => intro i e h _ _ _; exact h
  | succ n ih =>
    intro i e h hP ht i0
    have n10 := h.cn.2.2.2.1
    unfold pLsL
    split
    · rename_i c
      have k := lookS_st hP i0 c
      have h1 := h.lookS i0 (by omega) (hP.2.2.2 i i0 c).1.2.2
      exact ih _ _ h1 (hP.lookS i0 c ht) (by rw [k.2.1]; exact ht) (by omega)
    · exact h
theorem PHs.bt (h : PHs S D T e) : PHs S D T (pBT e) := by
  unfold pBT
  exact (((h.es0 (by omega) (by omega)).es0 (by omega) (by omega)).es0 (by omega) (by omega)).es0 (by omega) (by omega)
theorem PHs.tick (h : PHs S D T e) (hP : PW e) (hl : RLw e) (hb : BDl e) (hT : TmS e) (ht : e.1 4 14 + 1 < 1000000) : PHs S D T (pTick e) := by
  obtain ⟨f1, f2, f3, f4, ⟨f5, f6⟩, f7, f8, f9⟩ := tick_f hP hb ht
  obtain ⟨g1, g2, g3, ⟨g4, g5, g6⟩, g7⟩ := tick_g hP hl ht
  have t0 := hb.1
  have e14 : (pBT e).1 4 14 = e.1 4 14 + 1 := by
    have := f9.2.1
    have h4 := f4.2.1
    omega
  obtain ⟨k1, k2⟩ := ph_frL 31 0 _ h.bt (g6.1 hT) (Int.le_refl _)
  have k3 := ph_laL 61 0 _ k1 (Int.le_refl _)
  unfold pTick
  exact ph_lsL 5 0 _ k3 f8 (by rw [f4.2.1, e14]; omega) (Int.le_refl _)
theorem ph_pas : ∀ (n : Nat) (e : ES), PHs S D T e → PW e → RLw e → BDl e → TmS e → e.1 4 14 + n < 1000000 → PHs S D T (pPasL n e) := by
  intro n
  induction n with
  | zero => intro e h _ _ _ _ _; exact h
  | succ n ih =>
    intro e h hP hl hb hT ht
    obtain ⟨f1, f2, f3, -⟩ := tick_f hP hb (by omega)
    obtain ⟨g1, ⟨r1, r2, r3, r4⟩, g3, -⟩ := tick_g hP hl (by omega)
    unfold pPasL
    exact ih _ (h.tick hP hl hb hT (by omega)) f1 (((r2.tr r3).tr r4).2.2 r1) f2 (g3.1 hT) (by omega)
theorem ph_pass (h : PHs S D T e) (hP : PW e) (hl : RLw e) (hb : BDl e) (hT : TmS e) (ht : e.1 4 14 + 100 < 1000000) : PHs S D T (pcPass p1 e).2 := by
  unfold pcPass
  split
  · exact h.thr
  · exact ph_pas _ _ h hP hl hb hT (by omega)
/-- what was lost comes back -/
theorem ph_jnR : ∀ (n : Nat) (a i : Int) (e : ES), PHs S D T e → (∀ j : Int, 0 ≤ j → j < e.1 7 2 → ∀ v ∈ eL e (75000 + j), 0 ≤ v ∧ v < 4000) → 0 ≤ i → PHs S D T (pJnR n a i e).2 := by
  intro n
  induction n with
  | zero => intro a i e h _ _; exact h
  | succ n ih =>
    intro a i e h hv i0
    have n7 := h.cn.1
    unfold pJnR
    split
    · rename_i c
      obtain ⟨k1, k2, k3, k4⟩ := h.1.jn1 h.2 i0 c (hv i i0 c)
      refine ih _ _ _ ⟨k1, k2⟩ (fun j j0 j1 v hm => ?_) (by omega)
      by_cases cj : j = i
      · rw [cj] at hm
        unfold pJn1 at hm
        rw [eLs_e] at hm
        exact absurd hm List.not_mem_nil
      · rw [k4 _ (by omega)] at hm
        exact hv j j0 (by omega) v hm
    · exact h
theorem ph_join (h : PHs S D T e) (hv : ∀ j : Int, 0 ≤ j → j < e.1 7 2 → ∀ v ∈ eL e (75000 + j), 0 ≤ v ∧ v < 4000) : PHs S D T (pcJoin e).2 := by
  unfold pcJoin
  split
  · exact ph_jnR _ _ _ _ (h.es0 (a := 4) (j := 17) (by omega) (by omega)) hv (Int.le_refl _)
  · exact h.thr
theorem xTsk_k {x : CX} : ∀ (n : Nat) (c i : Int), 0 ≤ i → 0 ≤ xTsk x v n c i → (i ≤ xTsk x v n c i ∧ xTsk x v n c i < x.1 0) ∧ ek (x.2.1 (xTsk x v n c i)) = 17 := by
  intro n
  induction n with
  | zero => intro c i _ h; exact absurd h (by unfold xTsk; decide)
  | succ n ih =>
    intro c i i0 h
    unfold xTsk at h ⊢
    by_cases c1 : i < x.1 0
    · rw [if_pos c1] at h ⊢
      by_cases c2 : ek (x.2.1 i) = 17
      · rw [if_pos c2] at h ⊢
        by_cases c3 : c = v
        · rw [if_pos c3]
          exact ⟨⟨Int.le_refl _, c1⟩, c2⟩
        · rw [if_neg c3] at h ⊢
          obtain ⟨g1, g2⟩ := ih _ _ (by omega) h
          exact ⟨⟨by omega, g1.2⟩, g2⟩
      · rw [if_neg c2] at h ⊢
        obtain ⟨g1, g2⟩ := ih _ _ (by omega) h
        exact ⟨⟨by omega, g1.2⟩, g2⟩
    · rw [if_neg c1] at h
      exact absurd h (by decide)
theorem ph_setBack (h : PHs S D T e) : PHs S D T (pcSetBack p1 p2 e).2 := by
  unfold pcSetBack
  by_cases c1 : 0 ≤ p1 ∧ p1 < e.1 7 2
  · rw [if_pos c1]
    by_cases c2 : taskN (pX e p1) p2 < 0
    · rw [if_pos c2]
      exact h.thr
    · rw [if_neg c2]
      by_cases c3 : e.1 (7000 + p1) 6 = 0 ∨ e.1 (7000 + p1) 6 = 6
      · rw [if_pos c3]
        by_cases c4 : e.1 7 2 < 30
        · rw [if_pos c4]
          obtain ⟨⟨g1, g2⟩, g3⟩ := xTsk_k (x := pX e p1) (v := p2) _ 0 0 (Int.le_refl _) (show 0 ≤ taskN (pX e p1) p2 by omega)
          have hk : ek (eH e p1 (taskN (pX e p1) p2)) = 17 := g3
          have hl : lcm (eH e p1) (taskN (pX e p1) p2 + 1) = 0 := by
            unfold lcm
            rw [show taskN (pX e p1) p2 + 1 - 1 = taskN (pX e p1) p2 by omega, hk, if_neg (by omega)]
          have hlt : taskN (pX e p1) p2 < hN e p1 := g2
          exact h.1.setB nWt_n h.2 c1.1 c1.2 (al_nd.mp c3) c4 (by omega) (by omega) hl
        · rw [if_neg c4]
          exact h.thr
      · rw [if_neg c3]
        exact h.thr
  · rw [if_neg c1]
    exact h.thr
end PHB
