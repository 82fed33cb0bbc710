/-! THE GLOBAL NUMBERS through the calls: set back. -/
section GLH
variable {e e' e1 e2 : ES} {S D T a b c d i j k k' q r v w N M p y t o p1 p2 : Int} {n : Nat}
theorem gl_setBack (h : GLo k e) (hH : HH S D T e) (ht : 0 ≤ e.1 4 14 ∧ e.1 4 14 < 1000000) : GLo k (pcSetBack p1 p2 e).2 := by
  have hc := hH.cn
  have n7 := hc.1
  unfold pcSetBack
  by_cases c1 : 0 ≤ p1 ∧ p1 < e.1 7 2
  · rw [if_pos c1]
    by_cases c2 : taskN (pX e p1) p2 < 0
    · rw [if_pos c2]; exact h.thr hc
    · rw [if_neg c2]
      by_cases c3 : e.1 (7000 + p1) 6 = 0 ∨ e.1 (7000 + p1) 6 = 6
      · rw [if_pos c3]
        by_cases c4 : e.1 7 2 < 30
        · rw [if_pos c4]
          obtain ⟨⟨g1, g2⟩, g3⟩ := xTsk_k (x := pX e p1) (v := p2) _ 0 0 (Int.le_refl _) (show 0 ≤ taskN (pX e p1) p2 by omega)
          have hk : ek (eH e p1 (taskN (pX e p1) p2)) = 17 := g3
          have hl : lcm (eH e p1) (taskN (pX e p1) p2 + 1) = 0 := by
            unfold lcm
            rw [show taskN (pX e p1) p2 + 1 - 1 = taskN (pX e p1) p2 by omega, hk, if_neg (by omega)]
          have hltn : taskN (pX e p1) p2 < hN e p1 := g2
          have hd := al_nd.mp c3
          have hN0 : 0 < taskN (pX e p1) p2 + 1 ∧ taskN (pX e p1) p2 + 1 ≤ hN e p1 := by omega
          dsimp only
          generalize taskN (pX e p1) p2 + 1 = N at *
          obtain ⟨a1, a2, a3⟩ := hH.1.1.sb5 (N := N) nWt_n hH.1.2 c1.1 c1.2 hd c4 (by omega) (by omega) hl
          have hF := fk_sb5 (N := N) hH.fk hH.hn hc c1.1 c1.2 hd c4 (by omega) (by omega)
          obtain ⟨pa, pk, -, ⟨-, -, -, e7⟩, -, pl, -⟩ := sb5_pt (N := N) hc c1.1 c1.2 c4
          have h5 : GLo k (pSb5 p1 N e) := h.fr hc (fun u hu => pa _ _ (by omega) (by omega) (by omega) (by omega) (by omega) (by omega) (by omega)) (fun b u b0 b1 => pa _ _ (by omega) (by omega) (by omega) (by omega) (by omega) (by omega) (by omega)) (fun b u b0 b1 => pa _ _ (by omega) (by omega) (by omega) (by omega) (by omega) (by omega) (by omega)) (by omega) fun c b0 b1 => by rw [pl, if_neg (by omega)]
          have g14 : (pSb5 p1 N e).1 4 14 = e.1 4 14 := pa _ _ (by omega) (by omega) (by omega) (by omega) (by omega) (by omega) (by omega)
          have hdk : ¬ Dead (pSb5 p1 N e) (e.1 7 2) := fun d => d.1 (pk 6 (by decide))
          obtain ⟨u1, -, -⟩ := gc_rest a1 nWt_n a2 hF.1 hF.2.1 (by rw [g14]; exact ht) n7.1 (by omega) hdk a3
          have g := gc_snd (Z := nZ) (q := p1) (N := N) n7.1 u1.2 (u1.hk a1.hnn) (show e.1 7 2 < (pRest (e.1 7 2) (pSb5 p1 N e)).1 7 2 by have := u1.n7; omega)
          exact (h5.ex a1.cn u1.1.1).ex u1.2 g.1.1
        · rw [if_neg c4]; exact h.thr hc
      · rw [if_neg c3]; exact h.thr hc
  · rw [if_neg c1]; exact h.thr hc
end GLH
