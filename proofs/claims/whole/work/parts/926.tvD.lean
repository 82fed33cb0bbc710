/-! WHAT EVERY CALL LEAVES: time, versions, code: joined, taken over, set back, completed. -/
section TVD
variable {e e' e1 e2 e3 : ES} {S D T a b c d i j k q r v w N M p x y t o p1 p2 : Int}
theorem tv_jnL (i0 : 0 ≤ i) : ∀ (L : List Int) (e : ES), CN e → HNN e → i < e.1 7 2 → TV e (pJnL i L e) := by
  intro L
  induction L with
  | nil => intro e _ _ _; exact TV.rf
  | cons v L ih =>
    intro e hc hK i1
    unfold pJnL
    have g := gc_arr (Z := nZ) (r := i) (k := 4) (x := v / 1000) (y := v % 1000) hc hK i0 i1 (by decide) (by decide)
    exact (tv_arr hc hK i0 i1 (by decide) (by decide)).tr (ih _ g.2 (g.hk hK) (by have := g.n7; omega))
theorem cn_jnL (i0 : 0 ≤ i) : ∀ (L : List Int) (e : ES), CN e → HNN e → i < e.1 7 2 → CN (pJnL i L e) := by
  intro L
  induction L with
  | nil => intro e hc _ _; exact hc
  | cons v L ih =>
    intro e hc hK i1
    unfold pJnL
    have g := gc_arr (Z := nZ) (r := i) (k := 4) (x := v / 1000) (y := v % 1000) hc hK i0 i1 (by decide) (by decide)
    exact ih _ g.2 (g.hk hK) (by have := g.n7; omega)
theorem tv_jn1 (hH : HH S D T e) (i0 : 0 ≤ i) (i1 : i < e.1 7 2) : TV e (pJn1 i e) := by
  have n7 := hH.cn.1
  unfold pJn1
  split
  · exact (tv_jnL i0 _ e hH.cn hH.hn i1).tr (tv_ls (cn_jnL i0 _ e hH.cn hH.hn i1) (by omega))
  · exact tv_ls hH.cn (by omega)
theorem tv_jnR : ∀ (n : Nat) (a i : Int) (e : ES), HH S D T e → 0 ≤ i → TV e (pJnR n a i e).2 := by
  intro n
  induction n with
  | zero => intro a i e _ _; exact TV.rf
  | succ n ih =>
    intro a i e hH i0
    unfold pJnR
    split
    · rename_i c
      exact (tv_jn1 hH i0 c).tr (ih (a + pJnC i e) (i + 1) _ (hh_jn1 hH i0 c).1 (by omega))
    · exact TV.rf
theorem tc_join (hH : HH S D T e) : (pcJoin e).2.1 4 14 = e.1 4 14 ∧ VA e (pcJoin e).2 ∧ VL e (pcJoin e).2 ∧ VT e (pcJoin e).2 ∧ (pcJoin e).2.1 4 12 = e.1 4 12 ∧ ((pcJoin e).2.1 4 17 = e.1 4 17 ∨ (e.1 4 17 = 0 ∧ (pcJoin e).2.1 4 17 = 1)) := by
  have hc := hH.cn
  have n7 := hc.1
  have n9 := hc.2.2.1
  unfold pcJoin
  split
  · rename_i c17
    have pa : ∀ b u : Int, b ≠ 4 ∨ u ≠ 17 → (eS e 4 17 1).1 b u = e.1 b u := fun b u h => by rw [es_pt, if_neg (by omega)]
    obtain ⟨t1, t2, t3, t4, t5⟩ := tv_jnR 31 0 0 _ (hH.es (v := 1) (hH.1.es0 (a := 4) (j := 17) (by omega) (by omega)) (by omega)) (Int.le_refl _)
    have a0 : VA e (eS e 4 17 1) := ⟨by rw [pa _ _ (by omega)]; exact Int.le_refl _, fun r r0 r1 => pa _ _ (by omega)⟩
    have b0 : VT e (eS e 4 17 1) := ⟨pa _ _ (by omega), fun p p0 p1 hp => by rw [pa _ _ (by omega)]; exact hp⟩
    exact ⟨t1.trans (pa _ _ (by omega)), a0.tr t2, t3, b0.tr t4, t5.2.trans (pa _ _ (by omega)), Or.inr ⟨c17, t5.1.trans eS_e⟩⟩
  · obtain ⟨t1, t2, t3, t4, t5⟩ := tv_thr hc
    exact ⟨t1, t2, t3, t4, t5.2, Or.inl t5.1⟩
theorem tv_lose (hc : CN e) (i0 : 0 ≤ i) (i1 : i < e.1 7 2) (h8 : 0 ≤ e.1 (7000 + i) 8 ∧ e.1 (7000 + i) 8 ≤ hN e i) : TV e (pLose i e) := by
  have n7 := hc.1
  have n8 := hc.2.1
  obtain ⟨l1, l2, l3, l4, l5⟩ := lose_pt hc i0 i1 h8
  have pa : ∀ a u : Int, a ≠ 3 → a ≠ 71000 + i → (a ≠ 7000 + i ∨ u ≠ 9) → (a < 8000 ∨ 9000 ≤ a ∨ u ≠ 5) → (a < 7000 ∨ 8000 ≤ a ∨ u ≠ 4) → (pLose i e).1 a u = e.1 a u := fun a u h1 h2 h3 h4 h5 => by
    rw [l1 a u h1 h2 h3, if_neg (by omega), if_neg (by omega)]
  exact TV.fr hc (fun a u h => pa _ _ (by omega) (by omega) (by omega) (by omega) (by omega)) (by rw [pa _ _ (by omega) (by omega) (by omega) (by omega) (by omega)]; exact Int.le_refl _) fun c c0 c1 => by rw [l4 c (by omega), if_neg (by omega)]
theorem tv_tk1 : ∀ (n : Nat) (a i : Int) (e : ES), TkI S D T i e → 0 ≤ i → TV e (pTk1 n a i e).2 := by
  intro n
  induction n with
  | zero => intro a i e _ _; exact TV.rf
  | succ n ih =>
    intro a i e hI i0
    unfold pTk1
    by_cases c : i < e.1 7 2
    · rw [if_pos c]
      by_cases cs : e.1 (7000 + i) 6 = 0
      · rw [if_pos cs]
        obtain ⟨k1, k2⟩ := hI.lose i0 c cs
        exact (tv_lose hI.1.1.cn i0 c ((hI.2.1 i (Int.le_refl _) c).2 cs)).tr (ih _ (i + 1) _ k1 (by omega))
      · rw [if_neg cs]
        exact ih _ (i + 1) e (hI.next cs) (by omega)
    · rw [if_neg c]
      exact TV.rf
theorem tv_tk2 : ∀ (n : Nat) (i : Int) (e : ES), TkJ S D T i e → 0 ≤ i → TV e (pTk2 n i e) := by
  intro n
  induction n with
  | zero => intro i e _ _; exact TV.rf
  | succ n ih =>
    intro i e hJ i0
    unfold pTk2
    by_cases c : i < e.1 7 2
    · rw [if_pos c]
      by_cases cs : e.1 (7000 + i) 6 = 0 ∧ e.1 (7000 + i) 8 = 0
      · rw [if_pos cs]
        obtain ⟨k1, k2⟩ := hJ.close i0 c cs.1 cs.2
        exact (TV.ex hJ.1.cn (gc_close 41 nZ i 5 0 0 e i0 c hJ.1.cn hJ.1.hnn cs.1 (by decide) (by decide)).1.1).tr (ih (i + 1) _ k1 (by omega))
      · rw [if_neg cs]
        exact ih (i + 1) e (hJ.next cs) (by omega)
    · rw [if_neg c]
      exact TV.rf
theorem tv_tk3 : ∀ (n : Nat) (i : Int) (e : ES), HH S D T e → (0 ≤ e.1 4 14 ∧ e.1 4 14 < 1000000) → (∀ j : Int, i ≤ j → j < e.1 7 2 → e.1 (7000 + j) 6 = 0 → ∀ k v w : Int, Lk noX e k j v w → k = 10) → 0 ≤ i → TV e (pTk3 n i e) := by
  intro n
  induction n with
  | zero => intro i e _ _ _ _; exact TV.rf
  | succ n ih =>
    intro i e hH ht hl i0
    have n7 := hH.cn.1
    unfold pTk3
    by_cases c : i < e.1 7 2
    · rw [if_pos c]
      by_cases cs : e.1 (7000 + i) 6 = 0
      · rw [if_pos cs]
        have hR : RLo i 0 e := fun k v w g => Or.inl (hl i (Int.le_refl _) c cs k v w g)
        obtain ⟨k1, k2, k3, k4⟩ := hH.1.1.rest nWt_n hH.1.2 i0 c hR
        obtain ⟨g1, g2, g3⟩ := gc_rest hH.1.1 nWt_n hH.1.2 hH.2.1 hH.2.2.1 ht i0 c (fun d => d.1 cs) hR
        have hh : HH S D T (pRest i e) := ⟨⟨k1, k2⟩, g2, hH.2.2.ex g1.1.1 hH.hn hH.cn hH.2.1.1 g3⟩
        exact (TV.ex hH.cn g1.1.1).tr (ih (i + 1) _ hh (by rw [g1.1.1.2.2.2.2.1 14 (by decide) (by decide)]; exact ht) (fun j j0 j1 js k v w g => by
          rw [k3.1] at j1
          rw [k3.2.2.2.2.1 _ _ (by omega) (by omega)] at js
          exact hl j (by omega) j1 js k v w (k4 k j v w (by omega) g)) (by omega))
      · rw [if_neg cs]
        exact ih (i + 1) e hH ht (fun j j0 j1 => hl j (by omega) j1) (by omega)
    · rw [if_neg c]
      exact TV.rf
/-- what is cut goes back to what was copied -/
def CU (e e' : ES) : Prop := ∀ j : Int, 0 ≤ j → j < 30 → e'.1 (7000 + j) 8 = e.1 (7000 + j) 8 ∧ (hN e' j = hN e j ∨ hN e' j = e.1 (7000 + j) 8)
theorem CU.rf : CU e e := fun _ _ _ => ⟨rfl, Or.inl rfl⟩
theorem CU.tr (h : CU e e1) (g : CU e1 e2) : CU e e2 := fun j j0 j1 => by
  obtain ⟨h1, h2⟩ := h j j0 j1
  obtain ⟨g1, g2⟩ := g j j0 j1
  refine ⟨g1.trans h1, ?_⟩
  rcases g2 with g2 | g2
  · rw [g2]; exact h2
  · exact Or.inr (g2.trans h1)
theorem cu_lose (hc : CN e) (i0 : 0 ≤ i) (i1 : i < e.1 7 2) (h8 : 0 ≤ e.1 (7000 + i) 8 ∧ e.1 (7000 + i) 8 ≤ hN e i) : CU e (pLose i e) := by
  have n7 := hc.1
  have n8 := hc.2.1
  obtain ⟨l1, l2, l3, l4, l5⟩ := lose_pt hc i0 i1 h8
  have pa : ∀ a u : Int, a ≠ 3 → a ≠ 71000 + i → (a ≠ 7000 + i ∨ u ≠ 9) → (a < 8000 ∨ 9000 ≤ a ∨ u ≠ 5) → (a < 7000 ∨ 8000 ≤ a ∨ u ≠ 4) → (pLose i e).1 a u = e.1 a u := fun a u h1 h2 h3 h4 h5 => by
    rw [l1 a u h1 h2 h3, if_neg (by omega), if_neg (by omega)]
  refine fun j j0 j1 => ⟨pa _ _ (by omega) (by omega) (by omega) (by omega) (by omega), ?_⟩
  by_cases cj : j = i
  · rw [cj]; exact Or.inr l3
  · exact Or.inl (pa _ _ (by omega) (by omega) (by omega) (by omega) (by omega))
theorem cu_tk1 : ∀ (n : Nat) (a i : Int) (e : ES), TkI S D T i e → 0 ≤ i → CU e (pTk1 n a i e).2 := by
  intro n
  induction n with
  | zero => intro a i e _ _; exact CU.rf
  | succ n ih =>
    intro a i e hI i0
    unfold pTk1
    by_cases c : i < e.1 7 2
    · rw [if_pos c]
      by_cases cs : e.1 (7000 + i) 6 = 0
      · rw [if_pos cs]
        obtain ⟨k1, k2⟩ := hI.lose i0 c cs
        exact (cu_lose hI.1.1.cn i0 c ((hI.2.1 i (Int.le_refl _) c).2 cs)).tr (ih _ (i + 1) _ k1 (by omega))
      · rw [if_neg cs]
        exact ih _ (i + 1) e (hI.next cs) (by omega)
    · rw [if_neg c]
      exact CU.rf
theorem tc_takeOver (h : HH S D T e) (hb : S + 2 * D + 2 * (T + 1) ≤ 540) (ht : 0 ≤ e.1 4 14 ∧ e.1 4 14 < 1000000) : (pcTakeOver e).2 = pThr e ∨ (e.1 4 17 ≠ 0 ∧ (pcTakeOver e).2.1 4 14 = e.1 4 14 ∧ VA e (pcTakeOver e).2 ∧ VL e (pcTakeOver e).2 ∧ VT e (pcTakeOver e).2 ∧ (pcTakeOver e).2.1 4 17 = 0 ∧ (pcTakeOver e).2.1 4 12 = e.1 4 12 ∧ ∃ e3, CT e e3 ∧ CU e e3 ∧ WL e3 (pcTakeOver e).2 ∧ VA e3 (pcTakeOver e).2) := by
  have hc := h.cn
  have n7 := hc.1
  have hbb := h.1.1.1.2.1
  by_cases c : e.1 4 17 = 0
  · have w : (pcTakeOver e).2 = pThr e := by
      unfold pcTakeOver
      rw [if_pos c]
      rfl
    exact Or.inl w
  · have h8 : ∀ j : Int, 0 ≤ j → j < e.1 7 2 → 0 ≤ e.1 (7000 + j) 8 ∧ e.1 (7000 + j) 8 ≤ hN e j := fun j j0 j1 => (h.2.1.1 j j0 j1).2.2.2.2.2.2.1
    have h5 : ∀ c : Int, 0 ≤ c → c < e.1 7 2 → 0 ≤ e.1 (7000 + c) 5 := fun c c0 c1 => (h.2.1.1 c c0 c1).2.2.2.2.1.1
    have hup := h.1.up (S' := S) (T' := T + 1) (Int.le_refl _) (Int.le_refl _) (by omega) hb
    have hh0 := h.es (v := 0) (h.1.es0 (a := 4) (j := 17) (by omega) (by omega)) (by omega)
    have h0 := hh0.1
    have h1 := hup.es0 (a := 4) (j := 17) (v := 0) (by omega) (by omega)
    have f : ∀ a u : Int, a ≠ 4 → (eS e 4 17 0).1 a u = e.1 a u := fun a u ha => eS_a ha
    have f7 : (eS e 4 17 0).1 7 2 = e.1 7 2 := f _ _ (by omega)
    have hI : TkI S D T 0 (eS e 4 17 0) := ⟨⟨h1.1, fun c c0 c1 => by rw [f _ _ (by omega)] at c1 ⊢; exact h5 c c0 c1, fun j j0 j1 js => h1.2 j j0 j1 (al_nd.mp (Or.inr js))⟩, fun j j0 j1 => ⟨(h0.1.2.1 j j0 j1).2, fun _ => by
      rw [f _ _ (by omega)] at j1
      unfold hN
      rw [f _ _ (by omega), f _ _ (by omega)]
      exact h8 j j0 j1⟩, fun j j0 j1 => by omega⟩
    have pa : ∀ b u : Int, b ≠ 4 ∨ u ≠ 17 → (eS e 4 17 0).1 b u = e.1 b u := fun b u h => by rw [es_pt, if_neg (by omega)]
    have n9 := hc.2.2.1
    have a0 : VA e (eS e 4 17 0) := ⟨by rw [pa _ _ (by omega)]; exact Int.le_refl _, fun r r0 r1 => pa _ _ (by omega)⟩
    have b0 : VT e (eS e 4 17 0) := ⟨pa _ _ (by omega), fun p p0 p1 hp => by rw [pa _ _ (by omega)]; exact hp⟩
    have c0 : CT e (eS e 4 17 0) := ⟨f7, fun j j0 j1 => f _ _ (by omega), fun j j0 j1 => Or.inr (f _ _ (by omega)), fun j => rfl, fun u => f _ _ (by omega), f _ _ (by omega), fun j j0 j1 => by
      have : hN (eS e 4 17 0) j = hN e j := f _ _ (by omega)
      omega, fun u hu => eS_j hu⟩
    have d0 : CU e (eS e 4 17 0) := fun j j0 j1 => ⟨f _ _ (by omega), Or.inl (f _ _ (by omega))⟩
    obtain ⟨k1, k2⟩ := tk1_I 31 0 0 _ hI (Int.le_refl _) (by rw [f7]; omega)
    obtain ⟨F1, F2⟩ := fk_tk1 31 0 0 _ hI hh0.fk (Int.le_refl _)
    have s1 := tv_tk1 31 0 0 _ hI (Int.le_refl _)
    have s5 := ct_tk1 31 0 0 _ hI (Int.le_refl _)
    have s6 := cu_tk1 31 0 0 _ hI (Int.le_refl _)
    have p17 : (eS e 4 17 0).1 4 17 = 0 := eS_e
    have p14 : (eS e 4 17 0).1 4 14 = e.1 4 14 := pa _ _ (by omega)
    rw [es_pt, if_neg (by omega)] at F2
    rw [f7] at k2
    have w : (pcTakeOver e).2 = pTk3 31 0 (pTk2 31 0 (pTk1 31 0 0 (eS e 4 17 0)).2) := by
      unfold pcTakeOver
      rw [if_neg c]
    rw [w]
    have c3 := c0.tr s5
    have d3 := d0.tr s6
    generalize (pTk1 31 0 0 (eS e 4 17 0)).2 = e3 at k1 k2 F1 F2 s1 c3 d3 ⊢
    obtain ⟨⟨a1, a2, a3⟩, -, a4⟩ := k1
    have hJ : TkJ S D (T + 1) 0 e3 := ⟨a1, a2, fun j j0 j1 hd => by
      by_cases cs : e3.1 (7000 + j) 6 = 0
      · obtain ⟨⟨g1, g2⟩, -⟩ := a4 j j0 j1 j1 cs
        by_cases c8 : e3.1 (7000 + j) 8 = 0
        · exact Or.inr ⟨j0, cs, c8⟩
        · exact Or.inl (by omega)
      · exact Or.inl (a3 j j0 j1 ((al_nd.mpr hd).resolve_left cs)), fun j j0 j1 js => (a4 j j0 j1 j1 js).2.2, fun j j0 j1 js => (a4 j j0 j1 j1 js).2.1⟩
    obtain ⟨m1, m2⟩ := tk2_J 31 0 _ hJ (Int.le_refl _) (by omega)
    obtain ⟨G1, G2⟩ := fk_tk2 31 0 _ hJ F1 (Int.le_refl _)
    have s2 := tv_tk2 31 0 _ hJ (Int.le_refl _)
    have u2 := wl_tk2 31 0 _ hJ (Int.le_refl _)
    generalize pTk2 31 0 e3 = e4 at m1 m2 G1 G2 s2 u2 ⊢
    obtain ⟨b1, b2, b3, b4, b5⟩ := m1
    have hh4 : HH S D (T + 1) e4 := ⟨⟨b1, fun j j0 j1 hd => by
      rcases b3 j j0 j1 hd with g | g
      · exact g
      · omega⟩, G1⟩
    have s3 := tv_tk3 31 0 e4 hh4 (by rw [G2, F2]; exact ht) (fun j j0 j1 js => b5 j j0 j1 js) (Int.le_refl _)
    have u3 := wl_tk3 31 0 e4 hh4 (by rw [G2, F2]; exact ht) (fun j j0 j1 js => b5 j j0 j1 js) (Int.le_refl _)
    have t := (s1.tr s2).tr s3
    exact Or.inr ⟨c, t.1.trans p14, a0.tr t.2.1, t.2.2.1, b0.tr t.2.2.2.1, t.2.2.2.2.1.trans p17, t.2.2.2.2.2.trans (pa _ _ (by omega)), e3, c3, d3, u2.tr u3, (s2.tr s3).2.1⟩
theorem tc_setBack (hH : HH S D T e) (ht : 0 ≤ e.1 4 14 ∧ e.1 4 14 < 1000000) : TV e (pcSetBack p1 p2 e).2 ∧ ∃ e5, SBf e e5 ∧ UG e e5 ∧ (∀ r : Int, 0 ≤ r → r < e.1 7 2 → e5.1 (7000 + r) 8 = e.1 (7000 + r) 8) ∧ (∀ r : Int, e.1 7 2 ≤ r → r < e5.1 7 2 → 0 ≤ hN e5 r ∧ e5.1 (7000 + r) 8 ≤ hN e5 r) ∧ WL e5 (pcSetBack p1 p2 e).2 ∧ VA e5 (pcSetBack p1 p2 e).2 := by
  have hc := hH.cn
  have n7 := hc.1
  have th : ∀ n : Nat, TV e (rT n e).2 ∧ ∃ e5, SBf e e5 ∧ UG e e5 ∧ (∀ r : Int, 0 ≤ r → r < e.1 7 2 → e5.1 (7000 + r) 8 = e.1 (7000 + r) 8) ∧ (∀ r : Int, e.1 7 2 ≤ r → r < e5.1 7 2 → 0 ≤ hN e5 r ∧ e5.1 (7000 + r) 8 ≤ hN e5 r) ∧ WL e5 (rT n e).2 ∧ VA e5 (rT n e).2 := fun n => ⟨tv_thr hc, e, SBf.rf, UG.rf, fun _ _ _ => rfl, fun r r0 r1 => by omega, wg_thr hc, (tv_thr hc).2.1⟩
  unfold pcSetBack
  by_cases c1 : 0 ≤ p1 ∧ p1 < e.1 7 2
  · rw [if_pos c1]
    by_cases c2 : taskN (pX e p1) p2 < 0
    · rw [if_pos c2]; exact th _
    · rw [if_neg c2]
      by_cases c3 : e.1 (7000 + p1) 6 = 0 ∨ e.1 (7000 + p1) 6 = 6
      · rw [if_pos c3]
        by_cases c4 : e.1 7 2 < 30
        · rw [if_pos c4]
          obtain ⟨⟨g1, g2⟩, g3⟩ := xTsk_k (x := pX e p1) (v := p2) _ 0 0 (Int.le_refl _) (show 0 ≤ taskN (pX e p1) p2 by omega)
          have hk : ek (eH e p1 (taskN (pX e p1) p2)) = 17 := g3
          have hl : lcm (eH e p1) (taskN (pX e p1) p2 + 1) = 0 := by
            unfold lcm
            rw [show taskN (pX e p1) p2 + 1 - 1 = taskN (pX e p1) p2 by omega, hk, if_neg (by omega)]
          have hltn : taskN (pX e p1) p2 < hN e p1 := g2
          have hd := al_nd.mp c3
          have hN0 : 0 < taskN (pX e p1) p2 + 1 ∧ taskN (pX e p1) p2 + 1 ≤ hN e p1 := by omega
          dsimp only
          generalize taskN (pX e p1) p2 + 1 = N at *
          obtain ⟨a1, a2, a3⟩ := hH.1.1.sb5 (N := N) nWt_n hH.1.2 c1.1 c1.2 hd c4 (by omega) (by omega) hl
          have hF := fk_sb5 (N := N) hH.fk hH.hn hc c1.1 c1.2 hd c4 (by omega) (by omega)
          obtain ⟨pa, pk, -, ⟨-, -, -, e7⟩, ⟨hNk, hHk, hHo⟩, pl, -⟩ := sb5_pt (N := N) hc c1.1 c1.2 c4
          have g14 : (pSb5 p1 N e).1 4 14 = e.1 4 14 := pa _ _ (by omega) (by omega) (by omega) (by omega) (by omega) (by omega) (by omega)
          have hdk : ¬ Dead (pSb5 p1 N e) (e.1 7 2) := fun d => d.1 (pk 6 (by decide))
          obtain ⟨u1, -, -⟩ := gc_rest a1 nWt_n a2 hF.1 hF.2.1 (by rw [g14]; exact ht) n7.1 (show e.1 7 2 < (pSb5 p1 N e).1 7 2 by omega) hdk a3
          have g := gc_snd (Z := nZ) (q := p1) (N := N) n7.1 u1.2 (u1.hk a1.hnn) (show e.1 7 2 < (pRest (e.1 7 2) (pSb5 p1 N e)).1 7 2 by have := u1.n7; omega)
          have h0 : TV e (pSb5 p1 N e) := TV.fr hc (fun a u h => pa _ _ (by omega) (by omega) (by omega) (by omega) (by omega) (by omega) (by omega)) (by omega) fun c c0 c1 => by rw [pl, if_neg (by omega)]
          have s2 := wl_rest a1 a2 hF.1 hF.2.1 (by rw [g14]; exact ht) n7.1 (show e.1 7 2 < (pSb5 p1 N e).1 7 2 by omega) hdk a3
          have hNo : ∀ j : Int, 0 ≤ j → j < e.1 7 2 → hN (pSb5 p1 N e) j = hN e j := fun j j0 j1 => pa _ _ (by omega) (by omega) (by omega) (by omega) (by omega) (by omega) (by omega)
          have t4 := (TV.ex a1.cn u1.1.1).tr (TV.ex u1.2 g.1.1)
          refine ⟨h0.tr t4, pSb5 p1 N e, ⟨by omega, hNo, fun u => pa _ _ (by omega) (by omega) (by omega) (by omega) (by omega) (by omega) (by omega), pa _ _ (by omega) (by omega) (by omega) (by omega) (by omega) (by omega) (by omega), fun u => pa _ _ (by omega) (by omega) (by omega) (by omega) (by omega) (by omega) (by omega)⟩, UG.of2 (by omega) fun i i0 i1 => ⟨hNo i i0 i1, hHo i (by omega)⟩, fun r r0 r1 => pa _ _ (by omega) (by omega) (by omega) (by omega) (by omega) (by omega) (by omega), fun r r0 r1 => ⟨a1.hnn r (by omega) r1, (hF.1.1 r (by omega) r1).2.2.2.2.2.2.1.2⟩, ?_, t4.2.1⟩
          exact s2.tr (WL.ex u1.2 (u1.hk a1.hnn) g.1.1 (by
            unfold pSetB pSnd
            exact snd_11 n7.1 _ _ _))
        · rw [if_neg c4]; exact th _
      · rw [if_neg c3]; exact th _
  · rw [if_neg c1]; exact th _
theorem e0_5 {k : Int} (k0 : 0 ≤ k) : (cE0 k e).1 (9000 + k) 5 = 1 := by
  have hE : EQM (pCmp2 k e) (cE0 k e) := eM_eq.tr eM_eq
  rw [hE.1 _ _ (by omega)]
  unfold pCmp2
  split
  · unfold pRep
    split
    · rw [eS_a (by omega)]
      exact eS_e
    · exact eS_e
  · exact eS_e
theorem pn_5 {k g : Int} (r0 : 0 ≤ r) (r1 : r < 1000) (k0 : 0 ≤ k) (k1 : k < 1000) : (pPN r k g e).1 (9000 + k) 5 = e.1 (9000 + k) 5 := by
  unfold pPN pPN4
  rw [eM_eq.1 _ _ (by omega), eS_a (by omega), eS_a (by omega)]
  unfold pPN2
  rw [put_a (by omega) (by omega) (by omega) (by omega), pnl_a (by omega) (by omega) (by omega) (by omega)]
  exact (pn0_cl (p := g) r0 r1).2.2 _ _ (by omega)
theorem tc_complete (hH : HH S D T e) (hw : WX e) (ht : 0 ≤ e.1 4 14 ∧ e.1 4 14 < 1000000) (hb2 : S + 2 * (D + 1) + 2 * T ≤ 540) : TV e (pcComplete p1 e).2 ∧ (0 ≤ p1 → p1 < e.1 9 2 → (pcComplete p1 e).2.1 (9000 + p1) 5 ≠ 0) := by
  have hc := hH.cn
  have n7 := hc.1
  have n9 := hc.2.2.1
  by_cases c0 : 0 ≤ p1 ∧ p1 < e.1 9 2
  · by_cases c1 : e.1 (9000 + p1) 5 = 0 ∧ e.1 (7000 + e.1 (9000 + p1) 1) 6 = 0 ∧ pMark e (e.1 (9000 + p1) 1) = e.1 (9000 + p1) 4
    · generalize hr : e.1 (9000 + p1) 1 = r at c1
      obtain ⟨⟨r0, r1⟩, Q, QB, hB, k1, k2⟩ := cmp_two hH hw ht hb2 c0 hr c1
      by_cases hbe : sg (sBeh (pCmpX p1 e) (pCmpS p1 e)) 0 30 = 0
      · obtain ⟨q1, q2, q3, q4⟩ := k1 hbe
        obtain ⟨g1, g2, -⟩ := cmp_fr (e' := pPN r p1 (cG p1 e) (cE0 p1 e)) hH.1 hB c0.1 c0.2 hr.symm r0 r1 hbe rfl
        have e35 : (pPN r p1 (cG p1 e) (cE0 p1 e)).1 (9000 + p1) 5 = 1 := (pn_5 r0 (by omega) c0.1 (by omega)).trans (e0_5 c0.1)
        rw [q1]
        generalize hG : pPN r p1 (cG p1 e) (cE0 p1 e) = e3 at *
        have h3 : TV e e3 := ⟨g1 _ _ (by omega) (by omega) (by omega) (by omega) (by omega) (by omega) (by omega) (by omega), ⟨by rw [g1 _ _ (by omega) (by omega) (by omega) (by omega) (by omega) (by omega) (by omega) (by omega)]; exact Int.le_refl _, fun q q0 q1 => g1 _ _ (by omega) (by omega) (by omega) (by omega) (by omega) (by omega) (by omega) (by omega)⟩, fun c _ _ => by rw [g2 c]; exact Nat.le_refl _, ⟨g1 _ _ (by omega) (by omega) (by omega) (by omega) (by omega) (by omega) (by omega) (by omega), fun q q0 q1' hq => by
          by_cases cq : q = p1
          · rw [cq, e35]; decide
          · rw [g1 _ _ (by omega) (by omega) (by omega) (by omega) (by omega) (by omega) (by omega) (by omega)]; exact hq⟩, g1 _ _ (by omega) (by omega) (by omega) (by omega) (by omega) (by omega) (by omega) (by omega), g1 _ _ (by omega) (by omega) (by omega) (by omega) (by omega) (by omega) (by omega) (by omega)⟩
        have h4 := TV.ex q2 q4
        exact ⟨h3.tr h4, fun _ _ => h4.2.2.2.1.2 p1 c0.1 (by rw [g1 _ _ (by omega) (by omega) (by omega) (by omega) (by omega) (by omega) (by omega) (by omega)]; exact c0.2) (by rw [e35]; decide)⟩
      · obtain ⟨-, Q', QB', -, -, k3⟩ := qc_comp hH hw ht hb2 c0 hr c1
        obtain ⟨pa, pe, pl, -⟩ := k3 hbe
        have hE := k2 hbe
        have e35 : (pcComplete p1 e).2.1 (9000 + p1) 5 = 1 := by
          rw [hE, es_pt, if_neg (by omega), es_pt, if_neg (by omega)]
          exact e0_5 c0.1
        exact ⟨⟨pa _ _ (by omega) (by omega) (by omega) (by omega), ⟨by rw [pa _ _ (by omega) (by omega) (by omega) (by omega)]; exact Int.le_refl _, fun q q0 q1 => pa _ _ (by omega) (by omega) (by omega) (by omega)⟩, fun c _ _ => by rw [pl c]; exact Nat.le_refl _, ⟨pa _ _ (by omega) (by omega) (by omega) (by omega), fun q q0 q1' hq => by
          by_cases cq : q = p1
          · rw [cq, e35]; decide
          · rw [pa _ _ (by omega) (by omega) (by omega) (by omega)]; exact hq⟩, pa _ _ (by omega) (by omega) (by omega) (by omega), pa _ _ (by omega) (by omega) (by omega) (by omega)⟩, fun _ _ => by rw [e35]; decide⟩
    · have w : (pcComplete p1 e).2 = eS e (9000 + p1) 5 1 := by
        unfold pcComplete
        rw [if_pos c0, if_neg c1]
      rw [w]
      exact ⟨tv_es5 hc c0.1 (by omega), fun _ _ => by rw [eS_e]; decide⟩
  · have w : (pcComplete p1 e).2 = pThr e := by
      unfold pcComplete
      rw [if_neg c0]
      rfl
    rw [w]
    exact ⟨tv_thr hc, fun g1 g2 => absurd ⟨g1, g2⟩ c0⟩
end TVD
