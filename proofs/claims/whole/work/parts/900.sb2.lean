/-! SETTING BACK: what the reference's call is given. -/
section SB2
variable {m m' M : MM} {e e' : ES} {S D T T' a b c d i j k q r v w N y o p1 p2 : Int} {n : Nat}
theorem HH.sba (h : HH S D T e) (ht : 0 ≤ e.1 4 14 ∧ e.1 4 14 < 1000000) (c1 : 0 ≤ p1 ∧ p1 < e.1 7 2) (c2 : 0 ≤ taskN (pX e p1) p2) (c3 : e.1 (7000 + p1) 6 = 0 ∨ e.1 (7000 + p1) 6 = 6) (c4 : e.1 7 2 < 30) : nTm (pRest (e.1 7 2) (pSb5 p1 (taskN (pX e p1) p2 + 1) e)) ≤ 512 := by
  have hc := h.cn
  have n7 := hc.1
  obtain ⟨⟨g1, g2⟩, g3⟩ := xTsk_k (x := pX e p1) (v := p2) _ 0 0 (Int.le_refl _) c2
  have hk : ek (eH e p1 (taskN (pX e p1) p2)) = 17 := g3
  have hl : lcm (eH e p1) (taskN (pX e p1) p2 + 1) = 0 := by
    unfold lcm
    rw [show taskN (pX e p1) p2 + 1 - 1 = taskN (pX e p1) p2 by omega, hk, if_neg (by omega)]
  have hltn : taskN (pX e p1) p2 < hN e p1 := g2
  have hd := al_nd.mp c3
  have hN0 : 0 < taskN (pX e p1) p2 + 1 ∧ taskN (pX e p1) p2 + 1 ≤ hN e p1 := by omega
  generalize taskN (pX e p1) p2 + 1 = N at *
  obtain ⟨a1, a2, a3⟩ := h.1.1.sb5 (N := N) nWt_n h.1.2 c1.1 c1.2 hd c4 (by omega) (by omega) hl
  have hF := fk_sb5 (N := N) h.fk h.hn hc c1.1 c1.2 hd c4 (by omega) (by omega)
  obtain ⟨pa, pk, -, ⟨-, -, -, e7⟩, -⟩ := sb5_pt (N := N) hc c1.1 c1.2 c4
  have g14 : (pSb5 p1 N e).1 4 14 = e.1 4 14 := pa _ _ (by omega) (by omega) (by omega) (by omega) (by omega) (by omega) (by omega)
  have hdk : ¬ Dead (pSb5 p1 N e) (e.1 7 2) := fun d => d.1 (pk 6 (by decide))
  obtain ⟨u1, u2, -⟩ := gc_rest a1 nWt_n a2 hF.1 hF.2.1 (by rw [g14]; exact ht) n7.1 (by omega) hdk a3
  have k1 := (a1.rest nWt_n a2 n7.1 (by omega) a3).1
  have := tm_nw k1 u2
  show (pT (pRest (e.1 7 2) (pSb5 p1 N e)) ((pRest (e.1 7 2) (pSb5 p1 N e)).1 7 2).toNat).length ≤ 512
  omega
theorem x_setBack2 (h : RXE m e) (hc : CN e) (hl : RLw e) (hf : RFw (pcSetBack p1 p2 e).2) (hp : p2 < 2147483648) (S1 : ∀ i : Int, 0 ≤ i → i < e.1 7 2 → hN e i < 524288 ∧ e.1 (7000 + i) 4 ≠ i ∧ TkM (eH e i) (hN e i) ∧ Bef e i ∧ WnI e i) (S2 : PEv e) (S3 : 0 ≤ p1 ∧ p1 < e.1 7 2 → 0 ≤ taskN (pX e p1) p2 → e.1 (7000 + p1) 6 = 0 ∨ e.1 (7000 + p1) 6 = 6 → e.1 7 2 < 30 → nTm (pRest (e.1 7 2) (pSb5 p1 (taskN (pX e p1) p2 + 1) e)) ≤ 512) : OKr (fm_X12_setBack p1 p2 m) cdS (pcSetBack p1 p2 e) := by
  by_cases c : (0 ≤ p1 ∧ p1 < e.1 7 2) ∧ 0 ≤ taskN (pX e p1) p2 ∧ (e.1 (7000 + p1) 6 = 0 ∨ e.1 (7000 + p1) 6 = 6) ∧ e.1 7 2 < 30
  · exact x_setBack h hc hl hf hp ⟨S1, S2, S3 c.1 c.2.1 c.2.2.1 c.2.2.2⟩
  · have no : ∀ (q : Int) (n : Nat), 0 < q → cdS n = q → OKr (fj_X12_setBack_55 p1 p2 q m) cdS (rT n e) := fun q n hq hn => by
      unfold fj_X12_setBack_55
      rw [bd_t fails_e, if_pos hq, if_neg (show ¬ (1 : Int) = 0 by decide)]
      exact OKr.no h hc hn
    unfold fm_X12_setBack
    unfold pcSetBack
    rw [bp_t (rIsR h hc)]
    by_cases c1 : 0 ≤ p1 ∧ p1 < e.1 7 2
    · rw [if_pos c1, if_neg (show ¬ (1 : Int) = 0 by decide), if_pos c1]
      obtain ⟨q1, q2, q3, q4, q5⟩ := S1 p1 c1.1 c1.2
      have hn0 : 0 ≤ hN e p1 := hl.2.2.2 p1 c1.1 c1.2
      have hb : -1 ≤ taskN (pX e p1) p2 ∧ (0 ≤ taskN (pX e p1) p2 → taskN (pX e p1) p2 < hN e p1) := xTsk_b _ _ _ (Int.le_refl _)
      rw [bp_t (rTask h hc c1.1 c1.2 ⟨hn0, q1⟩ hp)]
      by_cases c2 : taskN (pX e p1) p2 < 0
      · rw [if_pos (show taskN (pX e p1) p2 = -1 by omega), if_pos c2]
        unfold fj_X12_setBack_23
        rw [if_pos (show (0 : Int) = 0 from rfl)]
        exact no 1 0 (by decide) rfl
      · rw [if_neg (show ¬ taskN (pX e p1) p2 = -1 by omega), if_neg c2]
        unfold fj_X12_setBack_23
        rw [if_neg (show ¬ (1 : Int) = 0 by decide), bp_t (rAlive h hc c1.1 c1.2)]
        by_cases c3 : e.1 (7000 + p1) 6 = 0 ∨ e.1 (7000 + p1) 6 = 6
        · have c4 : ¬ e.1 7 2 < 30 := fun g => c ⟨c1, by omega, c3, g⟩
          rw [if_pos c3, if_neg (show ¬ (1 : Int) = 0 by decide), if_pos c3, lx_p, show m 68 12 = e.1 7 2 from h.ps.2.1, if_neg c4, if_neg c4]
          exact no 2 2 (by decide) rfl
        · rw [if_neg c3, if_pos (show (0 : Int) = 0 from rfl), if_neg c3]
          exact no 2 2 (by decide) rfl
    · rw [if_neg c1, if_pos (show (0 : Int) = 0 from rfl), if_neg c1]
      unfold fj_X12_setBack_23
      rw [if_pos (show (0 : Int) = 0 from rfl)]
      exact no 1 0 (by decide) rfl
/-- what setting back asks of all runs -/
theorem HH.sbr (h : HH S D T e) : ∀ i : Int, 0 ≤ i → i < e.1 7 2 → hN e i < 524288 ∧ e.1 (7000 + i) 4 ≠ i ∧ TkM (eH e i) (hN e i) ∧ Bef e i ∧ WnI e i := fun i i0 i1 => ⟨by have := h.len i0 i1; omega, (h.2.1.1 i i0 i1).2.2.2.1.2.2, h.tkm i0 i1, h.bef i0 i1, h.wn i0 i1⟩
end SB2
