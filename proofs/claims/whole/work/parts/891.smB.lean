/-! WHO HOLDS A RUN, through the calls that put events. -/
section SMB
variable {e e' e1 e2 : ES} {S D T T' a b c d i j k q r v w N M p x y t o p1 p2 p3 p4 p5 p6 : Int} {n : Nat}
theorem ml_signal (h : SmA T e) (hH : HH S D T e) : SmA T (pcSignal p1 p2 p3 e).2 := by
  have hc := hH.cn
  unfold pcSignal
  split
  · rename_i c
    split
    · split
      · split
        · exact h.ex hc hH.tsr (gc_arr (Z := nZ) hc hH.hn c.1 c.2 (by decide) (by decide)).1.1 hH.t0
        · exact h.thr hc
      · exact h.thr hc
    · exact h.thr hc
  · exact h.thr hc
theorem ml_cancel (h : SmA T e) (hH : HH S D T e) : SmA T (pcCancel p1 e).2 := by
  have hc := hH.cn
  unfold pcCancel
  split
  · rename_i c
    split
    · exact h.ex hc hH.tsr (gc_can (Z := nZ) hc hH.hn c.1 c.2).1.1 hH.t0
    · exact h.thr hc
  · exact h.thr hc
theorem ml_begin (h : SmA T e) (hH : HH S D T e) : SmA T (pcBegin p1 p2 p3 e).2 := by
  have hc := hH.cn
  have n7 := hc.1
  unfold pcBegin
  split
  · rename_i c1
    split
    · rename_i c2
      split
      · split
        · rename_i c4
          exact h.ex hc hH.tsr (gc_start (Z := nZ) hc hH.hn c4.2 c1 c2 c4.1 (by omega) (by omega)).1.1 hH.t0
        · exact h.thr hc
      · exact h.thr hc
    · exact h.thr hc
  · exact h.thr hc
theorem SmA.arr (h : SmA T e) (hc : CN e) (r0 : 0 ≤ r) (r1 : r < 1000) : SmA T (pArr r a b c e) := h.fr hc (fun x u hx => arr_a (by omega) (by omega) (by omega) (by omega) (by omega)) fun c _ _ => arr_l
theorem SmA.back (h : SmA T e) (hH : HH S D T e) (p0 : 0 ≤ p) (p1' : p < e.1 8 2) : SmA T (pArr (e.1 (8000 + p) 0) a b c (eS e (8000 + p) 5 2)) := by
  have n8 := hH.cn.2.1
  have n7 := hH.cn.1
  have q := (hH.2.1.2.2.1 p p0 p1').2.1
  exact (h.es (a := 8000 + p) (j := 5) (v := 2) hH.cn (by omega)).arr (hH.cn.of fun a ha => by rw [es_pt, if_neg (by omega)]) q.1 (by omega)
theorem ml_answer (h : SmA T e) (hH : HH S D T e) : SmA T (pcAnswer p1 p2 e).2 := by
  unfold pcAnswer
  split
  · rename_i c
    split
    · split
      · exact h.back hH c.1 c.2
      · exact h
    · exact h.thr hH.cn
  · exact h.thr hH.cn
theorem SmA.miss (h : SmA T e) (hH : HH S D T e) (p0 : 0 ≤ p) (p1' : p < e.1 8 2) : SmA T (pMiss p c e) := by
  have n8 := hH.cn.2.1
  unfold pMiss
  split
  · have h1 := h.es (a := 8000 + p) (j := 5) (v := 0) hH.cn (by omega)
    exact h1.es (hH.cn.of fun a ha => by rw [es_pt, if_neg (by omega)]) (by omega)
  · exact h.back hH p0 p1'
theorem ml_fail (h : SmA T e) (hH : HH S D T e) : SmA T (pcFail p1 p2 e).2 := by
  unfold pcFail
  split
  · rename_i c
    split
    · exact h.miss hH c.1 c.2
    · exact h
  · exact h.thr hH.cn
theorem ml_update (h : SmA T e) (hc : CN e) : SmA T (pcUpdate p1 p2 p3 e).2 := by
  have n7 := hc.1
  have g := h.eqm hc (eM_eq : EQM e (qM e p1 (e.1 (7000 + p1) 3) 0))
  have hc2 : CN (qM e p1 (e.1 (7000 + p1) 3) 0) := hc.of fun a ha => eM_eq.1 _ _ (by omega)
  unfold pcUpdate
  split
  · rename_i c
    split
    · split
      · split
        · split
          · exact g.arr hc2 c.1 (by omega)
          · exact g
        · exact h.thr hc
      · exact h.thr hc
    · exact h.thr hc
  · exact h.thr hc
theorem ml_pass (h : SmA T e) (gl : GLo k e) (hH : HH S D T e) (hP : PW e) (hb : BDl e) (ht : e.1 4 14 + 100 < 1000000) : SmA T (pcPass p1 e).2 := by
  unfold pcPass
  split
  · exact h.thr hH.cn
  · have hs := gl.2.2.2.2.2.2.2
    obtain ⟨-, k2, -⟩ := hh_pas p1.toNat e hH hP hb (fun p p0 p1 => by
      have g := hs p p0 p1
      exact ⟨⟨g.1.1, g.1.2.1⟩, g.2.1, g.1.2.2⟩) (by omega)
    exact h.sd hH.cn hH.tsr k2 hH.t0
theorem ml_bfL (p0 : 0 ≤ p) (p1' : p < 1000) : ∀ (n : Nat) (a t : Int) (e : ES), SmA T e → HH S D T e → ScB p e → SmA T (pBfL p N n a t e).2 := by
  intro n
  induction n with
  | zero => intro a t e h _ _; exact h
  | succ n ih =>
    intro a t e h hH hs
    unfold pBfL
    split
    · exact h
    · split
      · rename_i c
        obtain ⟨g1, g2⟩ := hH.start (inp := t * e.1 (10000 + p) 2 % 1000) c (by omega) (by omega) hs.1 hs.2.1 hs.2.2
        exact ih _ _ _ (h.ex hH.cn hH.tsr g2 hH.t0) g1 (hs.sd g2.sd p0 p1')
      · exact h
theorem ml_backfill (h : SmA T e) (gl : GLo k e) (hH : HH S D T e) : SmA T (pcBackfill p1 p2 e).2 := by
  have n10 := hH.cn.2.2.2.1
  unfold pcBackfill
  split
  · rename_i c
    have g := gl.2.2.2.2.2.2.2 p1 c.1 c.2
    split
    · exact h.thr hH.cn
    · exact ml_bfL c.1 (by omega) _ _ _ _ h hH ⟨⟨g.1.1, g.1.2.1⟩, g.2.1, g.1.2.2⟩
  · exact h.thr hH.cn
theorem ml_brL : ∀ (n : Nat) (i : Int) (e : ES), SmA T e → HH S D T e → SmA T (pBrL N n i e).2 := by
  intro n
  induction n with
  | zero => intro i e h _; exact h
  | succ n ih =>
    intro i e h hH
    unfold pBrL
    split
    · split
      · rename_i c
        have pa : ∀ b u : Int, (b ≠ 4 ∨ u ≠ 12) → (b < 7000 ∨ 7030 ≤ b ∨ u ≠ 11) → (pBr1 e).1 b u = e.1 b u := fun b u h1 h2 => br1_b h1 h2 hH.tags.2 hH.cn.1.2
        exact ih _ _ (h.fr hH.cn (fun b u hb => pa _ _ (by omega) (by omega)) fun c _ _ => br1_l) (hh_br1 hH c (ph_br1 hH.1))
      · exact h
    · exact h
theorem ml_bringIn (h : SmA T e) (hH : HH S D T e) : SmA T (pcBringIn p1 e).2 := by
  unfold pcBringIn
  split
  · exact h.thr hH.cn
  · exact ml_brL _ _ _ h hH
/-- a task is done with -/
theorem SmA.s9 (h : SmA T e) (hc : CN e) (i0 : 0 ≤ k) (i1 : k < e.1 9 2) : SmA T (eS e (9000 + k) 5 1) := by
  have n7 := hc.1
  have n9 := hc.2.2.1
  obtain ⟨⟨⟨h1, h2⟩, h4⟩, h3⟩ := h
  have pa : ∀ b u : Int, b ≠ 9000 + k ∨ u ≠ 5 → (eS e (9000 + k) 5 1).1 b u = e.1 b u := fun b u hb => by rw [es_pt, if_neg (by omega)]
  refine ⟨⟨⟨fun i q i0 i1 q0 q1 g1 g5 gt => ?_, fun i i0 i1 q0 q1 => ?_⟩, fun r r0 r1 => ?_⟩, fun h17 j j0 j1 => ?_⟩
  · by_cases c : q = k
    · rw [c, eS_e] at g5
      omega
    · rw [pa _ _ (by omega)] at i1 q1 g1 g5 ⊢
      rw [pa _ _ (by omega), pa _ _ (by omega)] at gt
      exact h1 i q i0 i1 q0 q1 g1 g5 gt
  · rw [pa _ _ (by omega)] at i1
    rw [pa (7000 + i) 10 (by omega)] at q0 q1 ⊢
    rw [pa _ _ (by omega)] at q1
    rw [pa _ _ (by omega)]
    exact h2 i i0 i1 q0 q1
  · rw [pa _ _ (by omega)] at r1
    rw [pa _ _ (by omega)]
    exact h4 r r0 r1
  · rw [pa _ _ (by omega)] at j1 h17
    exact h3 h17 j j0 j1
theorem ml_dieL : ∀ (n : Nat) (c i : Int) (e : ES), SmA T e → CN e → 0 ≤ i → SmA T (pDieL w n c i e).2 ∧ CN (pDieL w n c i e).2 := by
  intro n
  induction n with
  | zero => intro c i e h hc _; exact ⟨h, hc⟩
  | succ n ih =>
    intro c i e h hc i0
    have n9 := hc.2.2.1
    unfold pDieL
    split
    · rename_i ci
      split
      · exact ih _ _ _ (h.s9 hc i0 ci) (hc.of fun a ha => eS_a (by omega)) (by omega)
      · exact ih _ _ _ h hc (by omega)
    · exact ⟨h, hc⟩
theorem ml_die2 : ∀ (n : Nat) (i : Int) (e : ES), SmA T e → CN e → 0 ≤ i → SmA T (pDie2 w n i e) := by
  intro n
  induction n with
  | zero => intro i e h _ _; exact h
  | succ n ih =>
    intro i e h hc i0
    have n7 := hc.1
    unfold pDie2
    split
    · exact ih _ _ (h.es hc (by omega)) (hc.of fun a ha => eS_a (by omega)) (by omega)
    · exact h
theorem ml_die (h : SmA T e) (hc : CN e) : SmA T (pcDie p1 e).2 := by
  unfold pcDie
  split
  · obtain ⟨g1, g2⟩ := ml_dieL (w := p1) 513 0 0 e h hc (Int.le_refl _)
    exact ml_die2 _ _ _ g1 g2 (Int.le_refl _)
  · exact h.thr hc
theorem ml_complete (h : SmA T e) (hH : HH S D T e) (hw : WX e) (ht : 0 ≤ e.1 4 14 ∧ e.1 4 14 < 1000000) (hb2 : S + 2 * (D + 1) + 2 * T ≤ 540) : SmA T (pcComplete p1 e).2 := by
  have hc := hH.cn
  have n7 := hc.1
  have n9 := hc.2.2.1
  by_cases c0 : 0 ≤ p1 ∧ p1 < e.1 9 2
  · have h1 := h.s9 hc c0.1 c0.2
    have hc1 : CN (eS e (9000 + p1) 5 1) := hc.of fun a ha => eS_a (by omega)
    by_cases c1 : e.1 (9000 + p1) 5 = 0 ∧ e.1 (7000 + e.1 (9000 + p1) 1) 6 = 0 ∧ pMark e (e.1 (9000 + p1) 1) = e.1 (9000 + p1) 4
    · generalize hr : e.1 (9000 + p1) 1 = r at c1
      obtain ⟨⟨r0, r1⟩, Q, QB, hB, k1, k2⟩ := cmp_two hH hw ht hb2 c0 hr c1
      have key : SmA T (pCmp2 p1 e) ∧ CN (pCmp2 p1 e) ∧ TsR (pCmp2 p1 e) := by
        have t1 : TsR (eS e (9000 + p1) 5 1) := fun k k0 k1 => by
          rw [es_pt, if_neg (by omega)] at k1
          rw [es_pt, if_neg (by omega), es_pt, if_neg (by omega)]
          exact hH.tsr k k0 k1
        unfold pCmp2
        split
        · unfold pRep
          split
          · refine ⟨h1.es hc1 (by omega), hc1.of fun a ha => eS_a (by omega), fun k k0 k1 => ?_⟩
            have t2 : ∀ a u : Int, a ≠ 11 → (eS (eS e (9000 + p1) 5 1) 11 (e.1 (9000 + p1) 0) (w32 ((eS e (9000 + p1) 5 1).1 11 (e.1 (9000 + p1) 0) + 1))).1 a u = (eS e (9000 + p1) 5 1).1 a u := fun a u ha => eS_a ha
            have k1' : k < (eS e (9000 + p1) 5 1).1 9 2 := by
              rw [← t2 9 2 (by decide)]
              exact k1
            have g := t1 k k0 k1'
            rw [← t2 (9000 + k) 1 (by omega), ← t2 7 2 (by decide)] at g
            exact g
          · exact ⟨h1, hc1, t1⟩
        · exact ⟨h1, hc1, t1⟩
      have hE : EQM (pCmp2 p1 e) (cE0 p1 e) := eM_eq.tr eM_eq
      have g0 := key.1.eqm key.2.1 hE
      have gc := key.2.1.of (e' := cE0 p1 e) fun a ha => hE.1 _ _ (by omega)
      by_cases hbe : sg (sBeh (pCmpX p1 e) (pCmpS p1 e)) 0 30 = 0
      · obtain ⟨q1, q2, q3, q4⟩ := k1 hbe
        obtain ⟨s1, s2, s3, s4, s5, s6⟩ := cmp_S hB hbe
        obtain ⟨f1, f2, f3, f4, f5⟩ := e0_f (k := p1) (e := e) s1
        have hP := pn_f (r := r) (k := p1) (g := cG p1 e) (e := cE0 p1 e) (L := sn (cTd p1 e)) gc r0 (by rw [f1 _ _ (by omega) (by omega) (by omega)]; exact r1) c0.1 (by omega) (by rw [f4, s4])
        obtain ⟨b1, b2, -⟩ := hP
        rw [q1]
        refine SmA.ex ?_ q2 (fun k k0 k1 => ?_) q4 hH.t0
        · exact g0.fr gc (fun a u hu => b1 _ _ (by omega) (by omega) (by omega) (by omega) (by omega) (by omega)) fun c _ _ => b2 c
        · rw [b1 _ _ (by omega) (by omega) (by omega) (by omega) (by omega) (by omega), f1 _ _ (by omega) (by omega) (by omega)] at k1
          rw [b1 (9000 + k) 1 (by omega) (by omega) (by omega) (by omega) (by omega) (by omega), f1 (9000 + k) 1 (by omega) (by omega) (by omega), b1 7 2 (by omega) (by omega) (by omega) (by omega) (by omega) (by omega), f1 7 2 (by omega) (by omega) (by omega)]
          exact hH.tsr k k0 k1
      · rw [k2 hbe]
        have g1 := g0.es (a := 7000 + r) (j := 6) (v := 6) gc (by omega)
        exact g1.es (gc.of fun a ha => eS_a (by omega)) (by omega)
    · unfold pcComplete
      rw [if_pos c0, if_neg c1]
      exact h1
  · unfold pcComplete
    rw [if_neg c0]
    exact h.thr hc
end SMB
