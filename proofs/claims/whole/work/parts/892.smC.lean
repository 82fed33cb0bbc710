/-! WHO HOLDS A RUN: given out, joined, set back, taken over. -/
section SMC
variable {e e' e1 e2 : ES} {S D T T' a b c d i j k q r v w N M p x y t o p1 p2 p3 p4 p5 p6 : Int} {n : Nat}
theorem fPo_h : ∀ (n : Nat) (b t : Int), (0 ≤ e.1 7 2 ∧ e.1 7 2 ≤ 30) → (b < 0 ∨ Rdy e b) → (fPo e n b t < 0 ∨ Rdy e (fPo e n b t)) := by
  intro n
  induction n with
  | zero => intro b t _ h; exact h
  | succ n ih =>
    intro b t n7 h
    unfold fPo
    by_cases c : t < 3
    · rw [if_pos c]
      refine ih _ _ n7 ?_
      by_cases c2 : 0 ≤ fFw e t 31 (-1) 0 ∧ e.1 13 t < e.1 4 13 ∧ (b < 0 ∨ e.1 12 t < e.1 12 (e.1 (7000 + b) 2))
      · rw [if_pos c2]
        rcases (fFw_s (e := e) (t := t) 31 (-1) 0 (Int.le_refl _) (by omega) (Or.inl rfl)).1 with g | g
        · omega
        · exact Or.inr g.2.2.2
      · rw [if_neg c2]
        exact h
    · rw [if_neg c]
      exact h
theorem ml_poll (h : SmA T e) (hH : HH S D T' e) (h9 : e.1 9 2 < 512) : SmA T (pcPoll p1 e).2 := by
  have hc := hH.cn
  have n7 := hc.1
  have n9 := hc.2.2.1
  unfold pcPoll
  by_cases c1 : 0 ≤ p1 ∧ p1 < 3
  · rw [if_pos c1]
    by_cases c2 : fPo e 4 (-1) 0 < 0
    · rw [if_pos c2]; exact h
    rw [if_neg c2]
    dsimp only
    have hw := (fPo_w (e := e) 4 (-1) 0 n7 (Or.inl (by decide))).resolve_left c2
    have hr := (fPo_h (e := e) 4 (-1) 0 n7 (Or.inl (by decide))).resolve_left c2
    generalize fPo e 4 (-1) 0 = b at hw hr c2 ⊢
    obtain ⟨b1, b2, b3⟩ := hw
    have hnh := hr.2
    have b0 : 0 ≤ b := by omega
    have e9 : (eS (pGiv (e.1 (7000 + b) 2) e) (7000 + b) 10 (e.1 9 2)).1 9 2 = e.1 9 2 := by
      rw [es_pt, if_neg (by omega)]
      unfold pGiv
      rw [es_pt, if_neg (by omega), es_pt, if_neg (by omega)]
    generalize hE : pNew 9 (fTsk p1 b (e.1 4 14) (hA e b) (pMark e b)) (eS (pGiv (e.1 (7000 + b) 2) e) (7000 + b) 10 (e.1 9 2)) = e'
    have pa : ∀ a u : Int, a ≠ 9 → a ≠ 9000 + e.1 9 2 → a ≠ 12 → a ≠ 13 → (a ≠ 7000 + b ∨ u ≠ 10) → e'.1 a u = e.1 a u := fun a u h1 h2 h3 h4 h5 => by
      rw [← hE, pNew_a (by omega) (by rw [e9]; omega), es_pt, if_neg (by omega)]
      unfold pGiv
      rw [es_pt, if_neg (by omega), es_pt, if_neg (by omega)]
    have q9 : e'.1 9 2 = e.1 9 2 + 1 := by rw [← hE, pNew_n, e9]
    have q1 : e'.1 (9000 + e.1 9 2) 1 = b := by
      have := pNew_f9 (f := fTsk p1 b (e.1 4 14) (hA e b) (pMark e b)) (e := eS (pGiv (e.1 (7000 + b) 2) e) (7000 + b) 10 (e.1 9 2)) (j := 1) (by rw [e9]; omega)
      rw [e9] at this
      rw [← hE]
      exact this
    have q10 : e'.1 (7000 + b) 10 = e.1 9 2 := by
      rw [← hE, pNew_a (by omega) (by rw [e9]; omega), eS_e]
    have e7 : e'.1 7 2 = e.1 7 2 := pa _ _ (by omega) (by omega) (by omega) (by omega) (by omega)
    have eLL : ∀ c, eL e' c = eL e c := fun c => by rw [← hE]; rfl
    obtain ⟨⟨⟨h1, h2⟩, h4⟩, h3⟩ := h
    refine ⟨⟨⟨fun i k i0 i1 k0 k1 g1 g5 gt => ?_, fun i i0 i1 z0 z1 => ?_⟩, fun r r0 r1 => ?_⟩, fun h17 j j0 j1 => ?_⟩
    · rw [e7] at i1
      rw [q9] at k1
      by_cases ck : k = e.1 9 2
      · rw [ck, q1] at g1
        rw [← g1, q10, ck]
      · have hk : ∀ u, e'.1 (9000 + k) u = e.1 (9000 + k) u := fun u => pa _ _ (by omega) (by omega) (by omega) (by omega) (by omega)
        rw [hk] at g1 g5
        rw [hk, pa 4 14 (by omega) (by omega) (by omega) (by omega) (by omega)] at gt
        have g := h1 i k i0 i1 k0 (by omega) g1 g5 gt
        by_cases ci : i = b
        · have gb : e.1 (7000 + b) 10 = k := by rw [← ci]; exact g
          refine absurd ?_ hnh
          unfold pHeld
          rw [gb]
          exact ⟨⟨k0, by omega⟩, g5, gt⟩
        · rw [pa (7000 + i) 10 (by omega) (by omega) (by omega) (by omega) (by omega)]
          exact g
    · rw [e7] at i1
      by_cases ci : i = b
      · rw [ci, q10, q1]
      · rw [pa (7000 + i) 10 (by omega) (by omega) (by omega) (by omega) (by omega)] at z0 z1 ⊢
        rw [q9] at z1
        have hb := (hH.2.1.1 i i0 i1).2.2.2.2.2.2.2
        rw [pa (9000 + e.1 (7000 + i) 10) 1 (by omega) (by omega) (by omega) (by omega) (by omega)]
        exact h2 i i0 i1 z0 (by omega)
    · rw [e7] at r1
      rw [pa (7000 + r) 9 (by omega) (by omega) (by omega) (by omega) (by omega)]
      exact h4 r r0 r1
    · rw [e7] at j1
      rw [pa 4 17 (by omega) (by omega) (by omega) (by omega) (by omega)] at h17
      rw [eLL]
      exact h3 h17 j j0 j1
  · rw [if_neg c1]; exact h.thr hc
theorem ml_jnR : ∀ (n : Nat) (a i : Int) (e : ES), Sm0 T e → HH S D T e → (∀ j : Int, 0 ≤ j → j < i → j < e.1 7 2 → eL e (75000 + j) = []) → 0 ≤ i → e.1 7 2 ≤ i + n → SmA T (pJnR n a i e).2 := by
  intro n
  induction n with
  | zero =>
    intro a i e h hH hr i0 hi
    show SmA T e
    exact ⟨h, fun _ j j0 j1 => hr j j0 (by omega) j1⟩
  | succ n ih =>
    intro a i e h hH hr i0 hi
    have n7 := hH.cn.1
    unfold pJnR
    split
    · rename_i c
      obtain ⟨j1, j2⟩ := hh_jn1 hH i0 c
      have key : Sm0 T (pJn1 i e) ∧ ∀ j : Int, 0 ≤ j → j < i + 1 → j < e.1 7 2 → eL (pJn1 i e) (75000 + j) = [] := by
        unfold pJn1
        by_cases cs : e.1 (7000 + i) 6 = 0
        · rw [if_pos cs]
          have g := gc_jnL (Z := nZ) i0 (eL e (75000 + i)) e hH.cn hH.hn c
          have k := h.sd hH.cn hH.tsr g.1.1.sd hH.t0
          refine ⟨k, fun j j0 j1 j2 => ?_⟩
          by_cases cj : j = i
          · rw [cj]; exact eLs_e
          · rw [eLs_a (by omega), g.1.1.sd.2.2.1 (75000 + j) (by omega) (Or.inr ⟨by omega, by omega⟩)]
            exact hr j j0 (by omega) j2
        · rw [if_neg cs]
          refine ⟨h, fun j j0 j1 j2 => ?_⟩
          by_cases cj : j = i
          · rw [cj]; exact eLs_e
          · rw [eLs_a (by omega)]
            exact hr j j0 (by omega) j2
      exact ih _ _ _ key.1 j1 (fun j q0 q1 q2 => key.2 j q0 q1 (by omega)) (by omega) (by omega)
    · show SmA T e
      exact ⟨h, fun _ j j0 j1 => hr j j0 (by omega) j1⟩
theorem Sm0.s17 (h : Sm0 T e) (hc : CN e) : Sm0 T (eS e 4 17 v) := ⟨h.1.fr hc fun a u ha => by rw [es_pt, if_neg (by omega)], fun r r0 r1 => by
  rw [es_pt, if_neg (by omega)] at r1
  rw [es_pt, if_neg (by omega)]
  exact h.2 r r0 r1⟩
theorem ml_join (h : SmA T e) (hH : HH S D T e) : SmA T (pcJoin e).2 := by
  have n7 := hH.cn.1
  unfold pcJoin
  split
  · exact ml_jnR 31 0 0 _ (h.1.s17 hH.cn) (hH.es (hH.1.es0 (a := 4) (j := 17) (by omega) (by omega)) (by omega)) (fun j j0 j1 => by omega) (Int.le_refl _) (by rw [es_pt, if_neg (by omega)]; omega)
  · exact h.thr hH.cn
theorem sb5_sd (hc : CN e) (r0 : 0 ≤ r) (r1 : r < e.1 7 2) (hn : e.1 7 2 < 30) : SD e (pSb5 r N e) := by
  have n7 := hc.1
  obtain ⟨pa, pk, -, ⟨-, -, -, e7⟩, -, pl, -⟩ := sb5_pt (N := N) hc r0 r1 hn
  have pb : ∀ a u : Int, a ≠ 7 → (a < 7000 ∨ (9000 ≤ a ∧ a < 71000)) → (pSb5 r N e).1 a u = e.1 a u := fun a u h1 h2 => pa _ _ (by omega) (by omega) (by omega) (by omega) (by omega) (by omega) (by omega)
  refine ⟨⟨by omega, by rw [pb _ _ (by omega) (by omega)]; omega⟩, fun a u ha => pb _ _ (by omega) (by omega), fun c c0 c1 => by rw [pl, if_neg (by omega)], fun q q0 q1 u hu => pa _ _ (by omega) (by omega) (by omega) (by omega) (by omega) (by omega) (by omega), fun q q0 q1 q2 => ?_, fun w w0 w1 => Or.inl (pb _ _ (by omega) (by omega)), fun p p0 p1 => ⟨Or.inl (pb _ _ (by omega) (by omega)), Or.inl (pb _ _ (by omega) (by omega))⟩⟩
  rw [show q = e.1 7 2 by omega, pk 9 (by decide), pk 10 (by decide), pl, if_pos (by omega)]
  exact ⟨rfl, rfl, rfl⟩
theorem ml_setBack (h : SmA T e) (hH : HH S D T e) (ht : 0 ≤ e.1 4 14 ∧ e.1 4 14 < 1000000) : SmA T (pcSetBack p1 p2 e).2 := by
  have hc := hH.cn
  have n7 := hc.1
  unfold pcSetBack
  by_cases c1 : 0 ≤ p1 ∧ p1 < e.1 7 2
  · rw [if_pos c1]
    by_cases c2 : taskN (pX e p1) p2 < 0
    · rw [if_pos c2]; exact h.thr hc
    · rw [if_neg c2]
      by_cases c3 : e.1 (7000 + p1) 6 = 0 ∨ e.1 (7000 + p1) 6 = 6
      · rw [if_pos c3]
        by_cases c4 : e.1 7 2 < 30
        · rw [if_pos c4]
          obtain ⟨⟨g1, g2⟩, g3⟩ := xTsk_k (x := pX e p1) (v := p2) _ 0 0 (Int.le_refl _) (show 0 ≤ taskN (pX e p1) p2 by omega)
          have hk : ek (eH e p1 (taskN (pX e p1) p2)) = 17 := g3
          have hl : lcm (eH e p1) (taskN (pX e p1) p2 + 1) = 0 := by
            unfold lcm
            rw [show taskN (pX e p1) p2 + 1 - 1 = taskN (pX e p1) p2 by omega, hk, if_neg (by omega)]
          have hltn : taskN (pX e p1) p2 < hN e p1 := g2
          have hd := al_nd.mp c3
          have hN0 : 0 < taskN (pX e p1) p2 + 1 ∧ taskN (pX e p1) p2 + 1 ≤ hN e p1 := by omega
          dsimp only
          generalize taskN (pX e p1) p2 + 1 = N at *
          obtain ⟨a1, a2, a3⟩ := hH.1.1.sb5 (N := N) nWt_n hH.1.2 c1.1 c1.2 hd c4 (by omega) (by omega) hl
          have hF := fk_sb5 (N := N) hH.fk hH.hn hc c1.1 c1.2 hd c4 (by omega) (by omega)
          obtain ⟨pa, pk, -, ⟨-, -, -, e7⟩, -⟩ := sb5_pt (N := N) hc c1.1 c1.2 c4
          have g14 : (pSb5 p1 N e).1 4 14 = e.1 4 14 := pa _ _ (by omega) (by omega) (by omega) (by omega) (by omega) (by omega) (by omega)
          have hdk : ¬ Dead (pSb5 p1 N e) (e.1 7 2) := fun d => d.1 (pk 6 (by decide))
          obtain ⟨u1, -, -⟩ := gc_rest a1 nWt_n a2 hF.1 hF.2.1 (by rw [g14]; exact ht) n7.1 (by omega) hdk a3
          have g := gc_snd (Z := nZ) (q := p1) (N := N) n7.1 u1.2 (u1.hk a1.hnn) (show e.1 7 2 < (pRest (e.1 7 2) (pSb5 p1 N e)).1 7 2 by have := u1.n7; omega)
          exact h.sd hc hH.tsr (((sb5_sd hc c1.1 c1.2 c4).tr u1.1.1.sd).tr g.1.1.sd) hH.t0
        · rw [if_neg c4]; exact h.thr hc
      · rw [if_neg c3]; exact h.thr hc
  · rw [if_neg c1]; exact h.thr hc
theorem lose_s9 (hc : CN e) (r0 : 0 ≤ r) (r1 : r < e.1 7 2) : (pLose r e).1 (7000 + r) 9 = e.1 (7000 + r) 9 ∨ (pLose r e).1 (7000 + r) 9 = e.1 (7000 + r) 9 + 1 := by
  have n7 := hc.1
  obtain ⟨-, g2, -, -⟩ := loL_f (N := hN e r) r0 (show r < 1000 by omega) ((hN e r - e.1 (7000 + r) 8).toNat + 1) (e.1 (7000 + r) 8) e
  have ga : ∀ a u : Int, a ≠ 3 → (pLoA r e).1 a u = e.1 a u := g2
  unfold pLose
  rw [end_a (by omega), par_a (by omega)]
  unfold pLoB
  split
  · exact Or.inr (by rw [eS_e, ga _ _ (by omega)])
  · exact Or.inl (ga _ _ (by omega))
theorem ml_tk1 : ∀ (n : Nat) (a i : Int) (e : ES), HeldI e → e.1 4 17 = 0 → (∀ r : Int, 0 ≤ r → r < e.1 7 2 → (0 ≤ e.1 (7000 + r) 9 ∧ e.1 (7000 + r) 9 ≤ T + 1) ∧ (i ≤ r → e.1 (7000 + r) 9 ≤ T)) → TsR e → CN e → 0 ≤ i → Sm0 (T + 1) (pTk1 n a i e).2 ∧ (pTk1 n a i e).2.1 4 17 = 0 ∧ TsR (pTk1 n a i e).2 := by
  intro n
  induction n with
  | zero => intro a i e h h17 h9 hT _ _; exact ⟨⟨h, fun r r0 r1 => (h9 r r0 r1).1⟩, h17, hT⟩
  | succ n ih =>
    intro a i e h h17 h9 hT hc i0
    have n7 := hc.1
    have n9 := hc.2.2.1
    unfold pTk1
    split
    · rename_i c
      split
      · obtain ⟨f1, -⟩ := lose_f (e := e) i0 c hc.1.2 hc.2.1.2
        have l9 := lose_s9 hc i0 c
        refine ih _ _ _ (h.fr hc fun a u ha => f1 a u (by omega) (by omega) (by omega) (by omega) (by omega)) (by rw [f1 4 17 (by omega) (by omega) (by omega) (by omega) (by omega)]; exact h17) (fun r r0 r1 => ?_) (fun k k0 k1 => ?_) (lose_cn hc i0 c) (by omega)
        · rw [f1 7 2 (by omega) (by omega) (by omega) (by omega) (by omega)] at r1
          have hr := h9 r r0 r1
          by_cases cr : r = i
          · rw [cr] at hr ⊢
            have := hr.2 (Int.le_refl _)
            exact ⟨by omega, fun g => by omega⟩
          · rw [f1 (7000 + r) 9 (by omega) (by omega) (by omega) (by omega) (by omega)]
            exact ⟨hr.1, fun g => hr.2 (by omega)⟩
        · rw [f1 9 2 (by omega) (by omega) (by omega) (by omega) (by omega)] at k1
          rw [f1 (9000 + k) 1 (by omega) (by omega) (by omega) (by omega) (by omega), f1 7 2 (by omega) (by omega) (by omega) (by omega) (by omega)]
          exact hT k k0 k1
      · exact ih _ _ _ h h17 (fun r r0 r1 => ⟨(h9 r r0 r1).1, fun g => (h9 r r0 r1).2 (by omega)⟩) hT hc (by omega)
    · exact ⟨⟨h, fun r r0 r1 => (h9 r r0 r1).1⟩, h17, hT⟩
theorem ml_tk2 (t0 : 0 ≤ M) : ∀ (n : Nat) (i : Int) (e : ES), Sm0 M e → e.1 4 17 = 0 → TsR e → TkJ S D T i e → 0 ≤ i → Sm0 M (pTk2 n i e) ∧ (pTk2 n i e).1 4 17 = 0 := by
  intro n
  induction n with
  | zero => intro i e h h17 _ _ _; exact ⟨h, h17⟩
  | succ n ih =>
    intro i e h h17 hT hJ i0
    unfold pTk2
    by_cases c : i < e.1 7 2
    · rw [if_pos c]
      by_cases cs : e.1 (7000 + i) 6 = 0 ∧ e.1 (7000 + i) 8 = 0
      · rw [if_pos cs]
        have k1 := (hJ.close i0 c cs.1 cs.2).1
        have g := (gc_close 41 nZ i 5 0 0 e i0 c hJ.1.cn hJ.1.hnn cs.1 (by decide) (by decide)).1.1.sd
        exact ih (i + 1) _ (h.sd hJ.1.cn hT g t0) (by rw [g.2.1 4 17 (by omega)]; exact h17) (hT.sd hJ.1.cn g) k1 (by omega)
      · rw [if_neg cs]
        exact ih (i + 1) e h h17 hT (hJ.next cs) (by omega)
    · rw [if_neg c]
      exact ⟨h, h17⟩
theorem ml_tk3 (t0 : 0 ≤ M) : ∀ (n : Nat) (i : Int) (e : ES), Sm0 M e → e.1 4 17 = 0 → HH S D T e → (0 ≤ e.1 4 14 ∧ e.1 4 14 < 1000000) → (∀ j : Int, i ≤ j → j < e.1 7 2 → e.1 (7000 + j) 6 = 0 → ∀ k v w : Int, Lk noX e k j v w → k = 10) → 0 ≤ i → SmA M (pTk3 n i e) := by
  intro n
  induction n with
  | zero =>
    intro i e h h17 _ _ _ _
    show SmA M e
    exact ⟨h, fun g => by omega⟩
  | succ n ih =>
    intro i e h h17 hH ht hl i0
    have n7 := hH.cn.1
    unfold pTk3
    split
    · rename_i c
      split
      · rename_i cs
        have hR : RLo i 0 e := fun k v w g => Or.inl (hl i (Int.le_refl _) c cs k v w g)
        obtain ⟨k1, k2, k3, k4⟩ := hH.1.1.rest nWt_n hH.1.2 i0 c hR
        obtain ⟨g1, g2, g3⟩ := gc_rest hH.1.1 nWt_n hH.1.2 hH.2.1 hH.2.2.1 ht i0 c (fun d => d.1 cs) hR
        have hh : HH S D T (pRest i e) := ⟨⟨k1, k2⟩, g2, hH.2.2.ex g1.1.1 hH.hn hH.cn hH.2.1.1 g3⟩
        have gs := g1.1.1.sd
        refine ih _ _ (h.sd hH.cn hH.tsr gs t0) (by rw [gs.2.1 4 17 (by omega)]; exact h17) hh (by rw [g1.1.1.2.2.2.2.1 14 (by decide) (by decide)]; exact ht) (fun j j0 j1 js k v w g => ?_) (by omega)
        rw [k3.1] at j1
        rw [k3.2.2.2.2.1 _ _ (by omega) (by omega)] at js
        exact hl j (by omega) j1 js k v w (k4 k j v w (by omega) g)
      · exact ih _ _ h h17 hH ht (fun j j0 j1 => hl j (by omega) j1) (by omega)
    · exact ⟨h, fun g => by omega⟩
theorem ml_takeOver (sm : SmA T e) (h : HH S D T e) (hb : S + 2 * D + 2 * (T + 1) ≤ 540) (ht : 0 ≤ e.1 4 14 ∧ e.1 4 14 < 1000000) : SmA (T + 1) (pcTakeOver e).2 := by
  have h8 : ∀ j : Int, 0 ≤ j → j < e.1 7 2 → 0 ≤ e.1 (7000 + j) 8 ∧ e.1 (7000 + j) 8 ≤ hN e j := fun j j0 j1 => (h.2.1.1 j j0 j1).2.2.2.2.2.2.1
  have h5 : ∀ c : Int, 0 ≤ c → c < e.1 7 2 → 0 ≤ e.1 (7000 + c) 5 := fun c c0 c1 => (h.2.1.1 c c0 c1).2.2.2.2.1.1
  have hup := h.1.up (S' := S) (T' := T + 1) (Int.le_refl _) (Int.le_refl _) (by omega) hb
  have n7 := h.cn.1
  have t0 := h.t0
  unfold pcTakeOver
  split
  · exact (sm.mono (by omega)).thr h.cn
  · have hh0 := h.es (v := 0) (h.1.es0 (a := 4) (j := 17) (by omega) (by omega)) (by omega)
    have h0 := hh0.1
    have h1 := hup.es0 (a := 4) (j := 17) (v := 0) (by omega) (by omega)
    have f : ∀ a u : Int, a ≠ 4 → (eS e 4 17 0).1 a u = e.1 a u := fun a u ha => eS_a ha
    have hI : TkI S D T 0 (eS e 4 17 0) := ⟨⟨h1.1, fun c c0 c1 => by rw [f _ _ (by omega)] at c1 ⊢; exact h5 c c0 c1, fun j j0 j1 js => h1.2 j j0 j1 (al_nd.mp (Or.inr js))⟩, fun j j0 j1 => ⟨(h0.1.2.1 j j0 j1).2, fun _ => by
      rw [f _ _ (by omega)] at j1
      unfold hN
      rw [f _ _ (by omega), f _ _ (by omega)]
      exact h8 j j0 j1⟩, fun j j0 j1 => by omega⟩
    have s0 := sm.1.s17 (v := 0) h.cn
    obtain ⟨w1, w2, w3⟩ := ml_tk1 (T := T) 31 0 0 (eS e 4 17 0) s0.1 eS_e (fun r r0 r1 => by
      have := s0.2 r r0 r1
      exact ⟨by omega, fun _ => by omega⟩) hh0.tsr hh0.cn (Int.le_refl _)
    obtain ⟨k1, k2⟩ := tk1_I 31 0 0 _ hI (Int.le_refl _) (by rw [f _ _ (by omega)]; omega)
    obtain ⟨F1, F2⟩ := fk_tk1 31 0 0 _ hI hh0.fk (Int.le_refl _)
    rw [es_pt, if_neg (by omega)] at F2
    rw [f _ _ (by omega)] at k2
    generalize (pTk1 31 0 0 (eS e 4 17 0)).2 = e3 at k1 k2 F1 F2 w1 w2 w3
    obtain ⟨⟨a1, a2, a3⟩, -, a4⟩ := k1
    have hJ : TkJ S D (T + 1) 0 e3 := ⟨a1, a2, fun j j0 j1 hd => by
      by_cases cs : e3.1 (7000 + j) 6 = 0
      · obtain ⟨⟨g1, g2⟩, -⟩ := a4 j j0 j1 j1 cs
        by_cases c8 : e3.1 (7000 + j) 8 = 0
        · exact Or.inr ⟨j0, cs, c8⟩
        · exact Or.inl (by omega)
      · exact Or.inl (a3 j j0 j1 ((al_nd.mpr hd).resolve_left cs)), fun j j0 j1 js => (a4 j j0 j1 j1 js).2.2, fun j j0 j1 js => (a4 j j0 j1 j1 js).2.1⟩
    obtain ⟨m1, m2⟩ := tk2_J 31 0 _ hJ (Int.le_refl _) (by omega)
    obtain ⟨x1, x2⟩ := ml_tk2 (M := T + 1) (by omega) 31 0 _ w1 w2 w3 hJ (Int.le_refl _)
    obtain ⟨G1, G2⟩ := fk_tk2 31 0 _ hJ F1 (Int.le_refl _)
    generalize pTk2 31 0 e3 = e4 at m1 m2 G1 G2 x1 x2
    obtain ⟨b1, b2, b3, b4, b5⟩ := m1
    refine ml_tk3 (by omega) 31 0 e4 x1 x2 ⟨⟨b1, fun j j0 j1 hd => ?_⟩, G1⟩ (by rw [G2, F2]; exact ht) (fun j j0 j1 js => b5 j j0 j1 js) (Int.le_refl _)
    rcases b3 j j0 j1 hd with g | g
    · exact g
    · omega
theorem ml00 : SmA 0 e00 := by
  have z7 : e00.1 7 2 = 0 := by decide
  have z9 : e00.1 9 2 = 0 := by decide
  exact ⟨⟨⟨fun i k i0 i1 => by omega, fun i i0 i1 => by omega⟩, fun r r0 r1 => by omega⟩, fun _ j j0 j1 => by omega⟩
/-- the calls that only look -/
theorem rd_standing {P : ES → Prop} (h : P e) (ht : P (pThr e)) : P (pcStanding p1 e).2 := by
  unfold pcStanding
  split
  · exact h
  · exact ht
theorem rd_event {P : ES → Prop} (h : P e) (ht : P (pThr e)) : P (pcEvent p1 p2 e).2 := by
  unfold pcEvent
  split
  · split
    · exact h
    · exact ht
  · exact ht
theorem rd_difference {P : ES → Prop} (h : P e) (ht : P (pThr e)) : P (pcDifference p1 e).2 := by
  unfold pcDifference
  split
  · split
    · exact h
    · exact ht
  · exact ht
theorem rd_activity {P : ES → Prop} (h : P e) (ht : P (pThr e)) : P (pcActivity p1 e).2 := by
  unfold pcActivity
  split
  · exact h
  · exact ht
theorem rd_replays {P : ES → Prop} (h : P e) (ht : P (pThr e)) : P (pcReplays p1 e).2 := by
  unfold pcReplays
  split
  · exact h
  · exact ht
theorem rd_search {P : ES → Prop} (h : P e) (ht : P (pThr e)) : P (pcSearch p1 e).2 := by
  unfold pcSearch
  split
  · exact h
  · exact ht
end SMC
