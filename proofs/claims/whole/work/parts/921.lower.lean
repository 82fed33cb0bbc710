/-! WHAT ONLY GROWS; BDl and RLw at every call. -/
section LWR
variable {e e' e3 : ES} {S D T a30 a31 a b c i j r n s z p1 p2 p3 : Int} {f : Int → Int}
def LWB (a30 a31 : Int) (e : ES) : Prop := (a30 ≤ e.1 3 0 ∧ a31 ≤ e.1 3 1) ∧ 0 ≤ e.1 68 29 ∧ e.1 68 29 ≤ e.1 4 16
theorem LWB.cut (h : LWB a30 a31 e) (h30 : e3.1 3 0 = e.1 3 0) (h16 : e3.1 4 16 = e.1 4 16) (h29 : e3.1 68 29 = e.1 68 29) (g : Q1 n s z e e') (w : GR e3 e') : LWB a30 a31 e' := by
  obtain ⟨⟨h1, h2⟩, h3, h4⟩ := h
  obtain ⟨m, -, -, -, q4, -⟩ := g
  have u2 := w.1
  exact ⟨⟨by omega, by omega⟩, by omega, by omega⟩
theorem LWB.q (h : LWB a30 a31 e) (g : Q1 n s z e e') (w : GR e e') : LWB a30 a31 e' := h.cut rfl rfl rfl g w
theorem LWB.plain (h : LWB a30 a31 e) (g : Q7 e e') (w : WL e e') : LWB a30 a31 e' := h.q g.2 w.1.2.1
theorem lb_signal (h : LWB a30 a31 e) (hH : HH S D T e) : LWB a30 a31 (pcSignal p1 p2 p3 e).2 := h.q (qc_signal hH) (wc_signal hH).1.2.1
theorem lb_update (h : LWB a30 a31 e) (hH : HH S D T e) : LWB a30 a31 (pcUpdate p1 p2 p3 e).2 := h.q (qc_update hH) (wc_update hH).1.2.1
theorem lb_join (h : LWB a30 a31 e) (hH : HH S D T e) : LWB a30 a31 (pcJoin e).2 := h.q (qc_join hH) (wc_join hH).2.1
theorem lb_takeOver (h : LWB a30 a31 e) (hH : HH S D T e) (hb : S + 2 * D + 2 * (T + 1) ≤ 540) (ht : 0 ≤ e.1 4 14 ∧ e.1 4 14 < 1000000) : LWB a30 a31 (pcTakeOver e).2 := by
  obtain ⟨e3, c1, ⟨w, -⟩, -⟩ := wc_takeOver hH hb ht
  obtain ⟨-, -, -, -, c68, c30, -, c4⟩ := c1
  exact h.cut c30 (c4 16 (by decide)) (c68 29) (qc_takeOver hH hb ht) w.1.2.1
theorem lb_setBack (h : LWB a30 a31 e) (hH : HH S D T e) (ht : 0 ≤ e.1 4 14 ∧ e.1 4 14 < 1000000) : LWB a30 a31 (pcSetBack p1 p2 e).2 := by
  obtain ⟨-, e5, ⟨-, -, c68, c30, c4⟩, -, -, w⟩ := wc_setBack (p1 := p1) (p2 := p2) hH ht
  exact h.cut c30 (c4 16) (c68 29) (qc_setBack hH ht) w.1.2.1
theorem lb_complete (h : LWB a30 a31 e) (hH : HH S D T e) (hw : WX e) (ht : 0 ≤ e.1 4 14 ∧ e.1 4 14 < 1000000) (hb2 : S + 2 * (D + 1) + 2 * T ≤ 540) : LWB a30 a31 (pcComplete p1 e).2 := by
  have hc := hH.cn
  have n7 := hc.1
  have n9 := hc.2.2.1
  by_cases c0 : 0 ≤ p1 ∧ p1 < e.1 9 2
  · by_cases c1 : e.1 (9000 + p1) 5 = 0 ∧ e.1 (7000 + e.1 (9000 + p1) 1) 6 = 0 ∧ pMark e (e.1 (9000 + p1) 1) = e.1 (9000 + p1) 4
    · generalize hr : e.1 (9000 + p1) 1 = r at c1
      obtain ⟨⟨r0, r1⟩, Q, QB, hB, k1, k2⟩ := qc_comp hH hw ht hb2 c0 hr c1
      obtain ⟨⟨h1, h2⟩, h3, h4⟩ := h
      by_cases hbe : sg (sBeh (pCmpX p1 e) (pCmpS p1 e)) 0 30 = 0
      · obtain ⟨g7, g30, gO, gM, -, c, gc, -, -, -, q4, -⟩ := k1 hbe
        exact ⟨⟨by omega, by omega⟩, by omega, by omega⟩
      · obtain ⟨pa, pe, pl, pq⟩ := k2 hbe
        have b1 := pa 3 0 (by omega) (by omega) (by omega) (by omega)
        have b2 := pa 3 1 (by omega) (by omega) (by omega) (by omega)
        have b3 := pa 68 29 (by omega) (by omega) (by omega) (by omega)
        have b4 := pa 4 16 (by omega) (by omega) (by omega) (by omega)
        exact ⟨⟨by omega, by omega⟩, by omega, by omega⟩
    · have w : (pcComplete p1 e).2 = eS e (9000 + p1) 5 1 := by
        unfold pcComplete
        rw [if_pos c0, if_neg c1]
      rw [w]
      exact h.plain (q7_es hc (by omega)) (wg_es hc (by omega))
  · have w : (pcComplete p1 e).2 = pThr e := by
      unfold pcComplete
      rw [if_neg c0]
      rfl
    rw [w]
    exact h.plain (q7_thr hc) (wg_thr hc)
theorem sm_ge (h : ∀ j : Int, 0 ≤ j → 0 ≤ f j) (i0 : 0 ≤ i) : ∀ n : Nat, i < (n : Int) → f i ≤ sm f n := by
  intro n
  induction n with
  | zero => intro hi; omega
  | succ n ih =>
    intro hi
    have h1 := sm_nn h n
    have h2 := h (n : Int) (by omega)
    show f i ≤ sm f n + f (n : Int)
    by_cases ci : i = (n : Int)
    · rw [ci]; omega
    · have := ih (by omega)
      omega
theorem bdl_of (h : LWB 400000 1000 e) (hH : HH S D T e) (hs : S + 2 * D + 2 * T ≤ 540) (ht : 0 ≤ e.1 4 14 ∧ e.1 4 14 < 1000000) : BDl e := by
  obtain ⟨⟨h1, h2⟩, h3, h4⟩ := h
  have n7 := hH.cn.1
  have hbb := hH.1.1.1.2.1
  have tm : ∀ q : Int, 0 ≤ q → q < e.1 7 2 → (eL e (73000 + q)).length ≤ 12 := fun q q0 q1 => by
    refine tm12 (p := hN e q) hH.1.1 (hH.2.1.2.1 q q0 q1).2.1 q0 q1 (hH.len q0 q1).1 (Int.le_refl _) (fun j j0 j1 hw => hw.elim) fun v hv => ?_
    exact (hH.1.1.2.2.2.1 9 q v 0 (Or.inr (Or.inr (Or.inl ⟨rfl, rfl, ⟨q0, q1⟩, hv⟩)))).2.1.2.1
  refine ⟨ht, by omega, by omega, ⟨by omega, by omega⟩, fun i i0 i1 => ?_, by omega, fun c i hc i0 i1 => ?_⟩
  · have := hH.len i0 i1
    omega
  · have g := tm i i0 i1
    rcases hc with rfl | rfl | rfl
    · rw [show (1000 : Int) * 73 = 73000 by decide]
      omega
    · rw [show (1000 : Int) * 74 = 74000 by decide]
      have := (hH.tmo i0 i1).1
      omega
    · rw [show (1000 : Int) * 75 = 75000 by decide]
      have w1 : qLo e i = ((eL e (75000 + i)).length : Int) := if_pos i1
      have w2 : qLo e i ≤ LO e := sm_ge (fun j _ => qLo_n j) i0 30 (by omega)
      have w3 := LO_tot hH.1.1
      omega
theorem rlw_of (h : LWB 400000 1000 e) (hH : HH S D T e) (ht : 0 ≤ e.1 4 14 ∧ e.1 4 14 < 1000000) : RLw e := ⟨ht, by have := h.1.1; omega, ⟨h.2.1, h.2.2⟩, fun i i0 i1 => hH.hn i i0 i1⟩
end LWR
