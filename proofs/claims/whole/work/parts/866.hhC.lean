/-! ALL THAT STANDS BETWEEN THE CALLS: given out, died, moved, brought in. -/
section HHP
variable {e e' e1 e2 : ES} {Z : Int → Prop} {S D T S' D' T' a b c d i j k q r v w N M p y t o p1 p2 p3 p4 p5 p6 : Int} {n : Nat} {s : TS} {l : List Int}
theorem fPo_w : ∀ (n : Nat) (b t : Int), (0 ≤ e.1 7 2 ∧ e.1 7 2 ≤ 30) → (b < 0 ∨ (b < e.1 7 2 ∧ pWork e b)) → (fPo e n b t < 0 ∨ (fPo e n b t < e.1 7 2 ∧ pWork e (fPo e n b t))) := by
  intro n
  induction n with
  | zero => intro b t _ h; exact h
  | succ n ih =>
    intro b t n7 h
    unfold fPo
    by_cases c : t < 3
    · rw [if_pos c]
      refine ih _ _ n7 ?_
      by_cases c2 : 0 ≤ fFw e t 31 (-1) 0 ∧ e.1 13 t < e.1 4 13 ∧ (b < 0 ∨ e.1 12 t < e.1 12 (e.1 (7000 + b) 2))
      · rw [if_pos c2]
        rcases (fFw_s (e := e) (t := t) 31 (-1) 0 (Int.le_refl _) (by omega) (Or.inl rfl)).1 with g | g
        · omega
        · exact Or.inr ⟨g.2.1, g.2.2.2.1⟩
      · rw [if_neg c2]
        exact h
    · rw [if_neg c]
      exact h
theorem hh_poll (h : HH S D T e) (hc' : CN (pcPoll p1 e).2) : HH S D T (pcPoll p1 e).2 := by
  have hp := ph_poll (p1 := p1) h.1 hc'
  have hc := h.cn
  have n7 := hc.1
  have n8 := hc.2.1
  have n9 := hc.2.2.1
  have hn := h.hn
  unfold pcPoll at hc' hp ⊢
  by_cases c1 : 0 ≤ p1 ∧ p1 < 3
  · rw [if_pos c1] at hc' hp ⊢
    by_cases c2 : fPo e 4 (-1) 0 < 0
    · rw [if_pos c2]; exact h
    rw [if_neg c2] at hc' hp ⊢
    dsimp only at hc' hp ⊢
    have hw := (fPo_w (e := e) 4 (-1) 0 n7 (Or.inl (by decide))).resolve_left c2
    generalize hb : fPo e 4 (-1) 0 = b at hw c2 hc' hp ⊢
    obtain ⟨b1, b2, b3⟩ := hw
    have b0 : 0 ≤ b := by omega
    have e9 : (eS (pGiv (e.1 (7000 + b) 2) e) (7000 + b) 10 (e.1 9 2)).1 9 2 = e.1 9 2 := by
      rw [es_pt, if_neg (by omega)]
      unfold pGiv
      rw [es_pt, if_neg (by omega), es_pt, if_neg (by omega)]
    generalize hE : pNew 9 (fTsk p1 b (e.1 4 14) (hA e b) (pMark e b)) (eS (pGiv (e.1 (7000 + b) 2) e) (7000 + b) 10 (e.1 9 2)) = e' at hc' hp ⊢
    have pa : ∀ a u : Int, a ≠ 9 → a ≠ 9000 + e.1 9 2 → a ≠ 12 → a ≠ 13 → (a ≠ 7000 + b ∨ u ≠ 10) → e'.1 a u = e.1 a u := fun a u h1 h2 h3 h4 h5 => by
      rw [← hE, pNew_a (by omega) (by rw [e9]; omega), es_pt, if_neg (by omega)]
      unfold pGiv
      rw [es_pt, if_neg (by omega), es_pt, if_neg (by omega)]
    have q9 : e'.1 9 2 = e.1 9 2 + 1 := by rw [← hE, pNew_n, e9]
    have qf : ∀ u : Int, e'.1 (9000 + e.1 9 2) u = fTsk p1 b (e.1 4 14) (hA e b) (pMark e b) u := fun u => by
      have := pNew_f9 (f := fTsk p1 b (e.1 4 14) (hA e b) (pMark e b)) (e := eS (pGiv (e.1 (7000 + b) 2) e) (7000 + b) 10 (e.1 9 2)) (j := u) (by rw [e9]; omega)
      rw [e9] at this
      rw [← hE]
      exact this
    have q10 : e'.1 (7000 + b) 10 = e.1 9 2 := by
      rw [← hE, pNew_a (by omega) (by rw [e9]; omega), eS_e]
    have e7 : e'.1 7 2 = e.1 7 2 := pa _ _ (by omega) (by omega) (by omega) (by omega) (by omega)
    have e8 : e'.1 8 2 = e.1 8 2 := pa _ _ (by omega) (by omega) (by omega) (by omega) (by omega)
    have eLL : ∀ c, eL e' c = eL e c := fun c => by rw [← hE]; rfl
    have eHH : ∀ r, eH e' r = eH e r := fun r => by rw [← hE]; rfl
    have eTT : eT e' = eT e := by rw [← hE]; rfl
    have eBB : eB e' = eB e := by rw [← hE]; rfl
    have eN : ∀ r : Int, 0 ≤ r → r < e.1 7 2 → hN e' r = hN e r := fun r r0 r1 => pa _ _ (by omega) (by omega) (by omega) (by omega) (by omega)
    have hD : ∀ r : Int, 0 ≤ r → r < e.1 7 2 → (Dead e' r ↔ Dead e r) := fun r r0 r1 => Dead.eq (pa _ _ (by omega) (by omega) (by omega) (by omega) (by omega))
    have hAR : ∀ r : Int, 0 ≤ r → r < e.1 7 2 → AR (eH e r) (hN e r) (eH e' r) (hN e' r) := fun r r0 r1 => by
      rw [eN r r0 r1, eHH]
      exact AR.rf
    obtain ⟨-, ⟨f1, f2, f3, f4, f5⟩, k1, k2, k3, ⟨k4, k5⟩, k6⟩ := h
    refine ⟨hp, ⟨fun j j0 j1 => ?_, fun j j0 j1 => ?_, fun p p0 p1' => ?_, fun j j0 j1 => ?_, ?_⟩, k1.fr e7 (pa _ _ (by omega) (by omega) (by omega) (by omega) (by omega)) (pa _ _ (by omega) (by omega) (by omega) (by omega) (by omega)) (pa _ _ (by omega) (by omega) (by omega) (by omega) (by omega)) (fun r r0 r1 => (hD r r0 r1).mpr) fun r r0 r1 => ⟨by rw [eN r r0 r1]; omega, fun p p0 p1 => ⟨by rw [eHH], pa _ _ (by omega) (by omega) (by omega) (by omega) (by omega)⟩⟩, fun r r0 r1 hDr => ?_, fun r r0 r1 h12 => ?_, ⟨fun k k0 k1' hDk => ?_, fun k k0 k1' => ?_⟩, fun r r0 r1 hDr j j0 j1 => ?_⟩
    · rw [e7] at j1
      obtain ⟨g1, g2, g3, g4, g5, g6, g7, g8⟩ := f1 j j0 j1
      have pj : ∀ u : Int, u ≠ 10 → e'.1 (7000 + j) u = e.1 (7000 + j) u := fun u hu => pa _ _ (by omega) (by omega) (by omega) (by omega) (by omega)
      have pv : e'.1 (48 + 4 * e.1 (7000 + j) 1 + 1) 2 = e.1 (48 + 4 * e.1 (7000 + j) 1 + 1) 2 := pa _ _ (by omega) (by omega) (by omega) (by omega) (by omega)
      unfold RunF
      rw [pj 1 (by decide), pj 2 (by decide), pj 3 (by decide), pj 4 (by decide), pj 5 (by decide), pj 6 (by decide), pj 8 (by decide), pv, e7, q9, eN j j0 j1]
      refine ⟨g1, g2, g3, g4, g5, g6, g7, ?_⟩
      by_cases cj : j = b
      · rw [cj, q10]; omega
      · rw [pa (7000 + j) 10 (by omega) (by omega) (by omega) (by omega) (by omega)]; omega
    · rw [e7] at j1
      unfold TmF
      rw [eLL, eLL, hD j j0 j1]
      exact f2 j j0 j1
    · rw [e8] at p1'
      obtain ⟨g1, g2, g3⟩ := f3 p p0 p1'
      unfold AcF WAs WAct
      simp only [fun u => pa (8000 + p) u (by omega) (by omega) (by omega) (by omega) (by omega)]
      rw [e7, hD _ g2.1 g2.2]
      exact ⟨g1, g2, g3⟩
    · rw [e7] at j1
      rw [eLL]
      exact f4 j j0 j1
    · unfold TgF
      rw [eLL, e7, pa _ _ (by omega) (by omega) (by omega) (by omega) (by omega), pa _ _ (by omega) (by omega) (by omega) (by omega) (by omega)]
      exact f5
    · rw [e7] at r1
      exact KpR.ar (e := e) (k2 r r0 r1 fun g => hDr ((hD r r0 r1).mpr g)) (hAR r r0 r1) (hn r r0 r1) (fun u hu => pa _ _ (by omega) (by omega) (by omega) (by omega) (by omega)) (fun v _ => eLL _) fun g => ⟨by rw [← pa 16 7 (by omega) (by omega) (by omega) (by omega) (by omega)]; exact g, eTT, eBB⟩
    · rw [e7] at r1
      have ht := (f1 r r0 r1).1
      have pr : ∀ u : Int, u ≠ 10 → e'.1 (7000 + r) u = e.1 (7000 + r) u := fun u hu => pa _ _ (by omega) (by omega) (by omega) (by omega) (by omega)
      rw [pr 12 (by decide)] at h12
      rw [pr 13 (by decide), pr 1 (by decide), pa _ _ (by omega) (by omega) (by omega) (by omega) (by omega)]
      exact k3 r r0 r1 h12
    · rw [q9] at k1'
      by_cases ck : k = e.1 9 2
      · subst ck
        have r1 : e'.1 (9000 + e.1 9 2) 1 = b := qf 1
        have r3 : e'.1 (9000 + e.1 9 2) 3 = hA e b := qf 3
        have r4 : e'.1 (9000 + e.1 9 2) 4 = pMark e b := qf 4
        have hbs : bs e' b = bs e b := by
          unfold bs hT
          rw [eN b b0 b1, eHH, pa (7000 + b) 9 (by omega) (by omega) (by omega) (by omega) (by omega)]
        have hC' : hC e' b = hC e b := (hAR b b0 b1).cnt (hn b b0 b1) |>.1
        have hA' : hA e' b = hA e b := by unfold hA; rw [eN b b0 b1, eHH]
        have g3 := (f1 b b0 b1).2.2.1
        have g1 := (f1 b b0 b1).1
        have nv := hc.2.2.2.2 _ (isT_4 g1.1 g1.2)
        rw [r1, r3, r4, hbs, hC', hA']
        have : pMark e b / 4 = bs e b := by
          unfold pMark bs
          omega
        exact ⟨by omega, fun _ => ⟨b3, Int.le_refl _⟩⟩
      · obtain ⟨r0, r1⟩ := k5 k k0 (by omega)
        have hk : ∀ u : Int, e'.1 (9000 + k) u = e.1 (9000 + k) u := fun u => pa _ _ (by omega) (by omega) (by omega) (by omega) (by omega)
        rw [hk 1] at hDk
        exact TkO.ar (k4 k k0 (by omega) fun g => hDk ((hD _ r0 r1).mpr g)) (fun u _ => hk u) rfl (hAR _ r0 r1) (hn _ r0 r1) (pa _ _ (by omega) (by omega) (by omega) (by omega) (by omega))
    · rw [q9] at k1'
      rw [e7]
      by_cases ck : k = e.1 9 2
      · subst ck
        have r1 : e'.1 (9000 + e.1 9 2) 1 = b := qf 1
        rw [r1]
        exact ⟨b0, b1⟩
      · rw [pa (9000 + k) 1 (by omega) (by omega) (by omega) (by omega) (by omega)]
        exact k5 k k0 (by omega)
    · rw [e7] at r1
      rw [eN r r0 r1] at j1
      rw [eHH]
      exact k6 r r0 r1 (fun g => hDr ((hD r r0 r1).mpr g)) j j0 j1
  · rw [if_neg c1]; exact h.thr
end HHP
