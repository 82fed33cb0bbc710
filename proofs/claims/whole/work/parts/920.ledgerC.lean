/-! THE LEDGER through the calls that are not plain. -/
section LGC
variable {e e' : ES} {S D T A B P W V a b c i j p r k30 k31 ℓ p1 p2 p3 : Int}
theorem lg_signal (h : LG k30 k31 ℓ S D T A B P W V e) (hH : HH S D T e) : LG k30 k31 ℓ (S + 1) D T A B P W V (pcSignal p1 p2 p3 e).2 := h.sig (wc_signal hH).2.2 (qc_signal hH) (wc_signal hH)
theorem lg_update (h : LG k30 k31 ℓ S D T A B P W V e) (hH : HH S D T e) : LG k30 k31 ℓ (S + 1) D T A B P W V (pcUpdate p1 p2 p3 e).2 := h.sig (wc_update hH).2.2 (qc_update hH) (wc_update hH)
theorem n7_jnR : ∀ (n : Nat) (a i : Int) (e : ES), HH S D T e → 0 ≤ i → (pJnR n a i e).2.1 7 2 = e.1 7 2 := by
  intro n
  induction n with
  | zero => intro a i e _ _; rfl
  | succ n ih =>
    intro a i e hH i0
    unfold pJnR
    split
    · rename_i c
      obtain ⟨g1, g2⟩ := hh_jn1 hH i0 c
      rw [ih _ _ _ g1 (by omega)]
      exact g2
    · rfl
theorem lg_join (h : LG k30 k31 ℓ S D T A B P W V e) (hH : HH S D T e) : LG k30 k31 ℓ S D T A B P W V (pcJoin e).2 := by
  refine h.join ?_ (qc_join hH) (wc_join hH)
  unfold pcJoin
  split
  · have h2 := n7_jnR 31 0 0 _ (hH.es (v := 1) (hH.1.es0 (a := 4) (j := 17) (by omega) (by omega)) (by omega)) (Int.le_refl _)
    have e7 : (eS e 4 17 1).1 7 2 = e.1 7 2 := eS_a (by decide)
    show e.1 7 2 ≤ (pJnR 31 0 0 (eS e 4 17 1)).2.1 7 2
    omega
  · have e7 : (pThr e).1 7 2 = e.1 7 2 := eS_a (by decide)
    show e.1 7 2 ≤ (pThr e).1 7 2
    omega
theorem lg_takeOver (h : LG k30 k31 ℓ S D T A B P W V e) (hH : HH S D T e) (hb : S + 2 * D + 2 * (T + 1) ≤ 540) (ht : 0 ≤ e.1 4 14 ∧ e.1 4 14 < 1000000) : LG k30 k31 ℓ S D (T + 1) A B P (W + S) V (pcTakeOver e).2 := by
  have w := wc_takeOver hH hb ht
  have hh := hh_takeOver hH hb ht
  refine h.take ?_ (qc_takeOver hH hb ht) (LO_tot hh.1.1) w
  obtain ⟨e3, c1, ⟨⟨-, -, u⟩, -⟩, -⟩ := w
  have := c1.1
  omega
theorem lg_setBack (h : LG k30 k31 ℓ S D T A B P W V e) (hH : HH S D T e) (ht : 0 ≤ e.1 4 14 ∧ e.1 4 14 < 1000000) : ∃ B' W', (B ≤ B' ∧ B' ≤ B + 1) ∧ LG k30 k31 ℓ S D T A B' P W' V (pcSetBack p1 p2 e).2 := by
  obtain ⟨hd, w⟩ := wc_setBack (p1 := p1) (p2 := p2) hH ht
  rcases hd with g | g
  · rw [g]
    exact ⟨B, W, ⟨Int.le_refl _, by omega⟩, h.plain (q7_thr hH.cn) (wg_thr hH.cn)⟩
  · exact ⟨B + 1, W + S, ⟨by omega, Int.le_refl _⟩, h.copy g (qc_setBack hH ht) w⟩
theorem lg_complete (h : LG k30 k31 ℓ S D T A B P W V e) (hH : HH S D T e) (hw : WX e) (ht : 0 ≤ e.1 4 14 ∧ e.1 4 14 < 1000000) (hb2 : S + 2 * (D + 1) + 2 * T ≤ 540) (hH' : HH S (D + 1) T (pcComplete p1 e).2) (hℓ : ∀ c : Int, 48000 ≤ c → c < 62000 → ((eL e c).length : Int) ≤ ℓ) : ∃ A' P' W' V', LG k30 k31 ℓ S (D + 1) T A' B P' W' V' (pcComplete p1 e).2 := by
  have hc := hH.cn
  have n7 := hc.1
  have n9 := hc.2.2.1
  by_cases c0 : 0 ≤ p1 ∧ p1 < e.1 9 2
  · by_cases c1 : e.1 (9000 + p1) 5 = 0 ∧ e.1 (7000 + e.1 (9000 + p1) 1) 6 = 0 ∧ pMark e (e.1 (9000 + p1) 1) = e.1 (9000 + p1) 4
    · generalize hr : e.1 (9000 + p1) 1 = r at c1
      obtain ⟨⟨r0, r1⟩, Q, QB, hB, k1, k2⟩ := qc_comp hH hw ht hb2 c0 hr c1
      by_cases hbe : sg (sBeh (pCmpX p1 e) (pCmpS p1 e)) 0 30 = 0
      · obtain ⟨g7, g30, gO, -, ⟨gq0, g11⟩, c, gc, gq⟩ := k1 hbe
        obtain ⟨l, ν, ⟨n1, n2, n3, n4⟩, -, hu⟩ := vq_comp hH hw ht hb2 c0 hr c1 hbe
        have hcl : (pCmpX p1 e).1 5 ≤ ℓ := by
          obtain ⟨q1, q2, q3, -⟩ := hw.run r0 r1
          have n48 := hc.2.2.2.2 _ (isT_4 q1.1 q1.2)
          rw [cmpx_eq (by rw [hr]; exact r0) (by rw [hr]; omega) c0.1, hr]
          exact hℓ _ (by omega) (by omega)
        exact h.comp gO ⟨⟨QLk_n, QLk_le hH'.1.1 hH'.2.1⟩, QV_n hH'.1.1, QV_le⟩ g7 l g30 g11 gq0 gc gq ⟨n1, n2, n3, fun L l1 l2 => n4 L l1 (by omega)⟩ hu
      · obtain ⟨pa, pe, pl, pq⟩ := k2 hbe
        exact ⟨A, P, W, V, (h.stuck (pa _ _ (by omega) (by omega) (by omega) (by omega)) pq (fun i i0 i1 => ⟨pa _ _ (by omega) (by omega) (by omega) (by omega), pe i⟩) pl (pa _ _ (by omega) (by omega) (by omega) (by omega)) (pa _ _ (by omega) (by omega) (by omega) (by omega)) (pa _ _ (by omega) (by omega) (by omega) (by omega)) (pa _ _ (by omega) (by omega) (by omega) (by omega))).upD⟩
    · have w : (pcComplete p1 e).2 = eS e (9000 + p1) 5 1 := by
        unfold pcComplete
        rw [if_pos c0, if_neg c1]
      rw [w]
      exact ⟨A, P, W, V, (h.plain (q7_es hc (by omega)) (wg_es hc (by omega))).upD⟩
  · have w : (pcComplete p1 e).2 = pThr e := by
      unfold pcComplete
      rw [if_neg c0]
      rfl
    rw [w]
    exact ⟨A, P, W, V, (h.plain (q7_thr hc) (wg_thr hc)).upD⟩
end LGC
