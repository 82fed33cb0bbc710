/-! THE GLOBAL NUMBERS through the calls: another takes over. -/
section GLI
variable {e e' e1 e2 : ES} {S D T S' D' T' a b c d i j k kk q r v w N M p y t o : Int} {n : Nat}
theorem gl_tk1 : ∀ (n : Nat) (a i : Int) (e : ES), GLo kk e → TkI S D T i e → FK e → 0 ≤ i → GLo kk (pTk1 n a i e).2 := by
  intro n
  induction n with
  | zero => intro a i e h _ _ _; exact h
  | succ n ih =>
    intro a i e h hI hF i0
    unfold pTk1
    by_cases c : i < e.1 7 2
    · rw [if_pos c]
      by_cases cs : e.1 (7000 + i) 6 = 0
      · rw [if_pos cs]
        have k1 := (hI.lose i0 c cs).1
        have hK := hI.1.1
        have hb := hK.1.2.1
        have hr := hK.2.1 i i0 c
        have hT1 : hT e i < 1000 := by
          have : hT e i ≤ D := hr.2.2.1
          have h0 : 0 ≤ csg (eH e i) (hN e i).toNat := csg_0 _
          have := hr.2.1
          have := hr.2.2.2.1
          omega
        have h8 := (hF.1.1 i i0 c).2.2.2.2.2.2.1
        have n7 := hK.cn.1
        have n8 := hK.cn.2.1
        obtain ⟨l1, -, -, l4, -⟩ := lose_pt hK.cn i0 c h8
        have pa : ∀ a u : Int, a ≠ 3 → a < 7000 ∨ (9000 ≤ a ∧ a < 11000) → (pLose i e).1 a u = e.1 a u := fun a u h1 h2 => by rw [l1 a u h1 (by omega) (by omega), if_neg (by omega), if_neg (by omega)]
        exact ih _ _ _ (h.fr hK.cn (fun u _ => pa _ _ (by omega) (by omega)) (fun a u _ _ => pa _ _ (by omega) (by omega)) (fun a u _ _ => pa _ _ (by omega) (by omega)) (by rw [pa _ _ (by omega) (by omega)]; omega) fun c _ _ => by rw [l4 _ (by omega), if_neg (by omega)]) k1 (hF.lose hK.hnn hK.cn hr.1.2 hT1 i0 c) (by omega)
      · rw [if_neg cs]
        exact ih a (i + 1) e h (hI.next cs) hF (by omega)
    · rw [if_neg c]
      exact h
theorem gl_tk2 : ∀ (n : Nat) (i : Int) (e : ES), GLo kk e → TkJ S D T i e → 0 ≤ i → GLo kk (pTk2 n i e) := by
  intro n
  induction n with
  | zero => intro i e h _ _; exact h
  | succ n ih =>
    intro i e h hJ i0
    unfold pTk2
    by_cases c : i < e.1 7 2
    · rw [if_pos c]
      by_cases cs : e.1 (7000 + i) 6 = 0 ∧ e.1 (7000 + i) 8 = 0
      · rw [if_pos cs]
        have k1 := (hJ.close i0 c cs.1 cs.2).1
        have g := gc_close 41 nZ i 5 0 0 e i0 c hJ.1.cn hJ.1.hnn cs.1 (by decide) (by decide)
        exact ih (i + 1) _ (h.ex hJ.1.cn g.1.1) k1 (by omega)
      · rw [if_neg cs]
        exact ih (i + 1) e h (hJ.next cs) (by omega)
    · rw [if_neg c]
      exact h
theorem gl_tk3 : ∀ (n : Nat) (i : Int) (e : ES), GLo kk e → HH S D T e → (0 ≤ e.1 4 14 ∧ e.1 4 14 < 1000000) → (∀ j : Int, i ≤ j → j < e.1 7 2 → e.1 (7000 + j) 6 = 0 → ∀ k v w : Int, Lk noX e k j v w → k = 10) → 0 ≤ i → GLo kk (pTk3 n i e) := by
  intro n
  induction n with
  | zero => intro i e h _ _ _ _; exact h
  | succ n ih =>
    intro i e h hH ht hl i0
    have n7 := hH.cn.1
    unfold pTk3
    split
    · rename_i c
      split
      · rename_i cs
        have hR : RLo i 0 e := fun k v w g => Or.inl (hl i (Int.le_refl _) c cs k v w g)
        obtain ⟨k1, k2, k3, k4⟩ := hH.1.1.rest nWt_n hH.1.2 i0 c hR
        obtain ⟨g1, g2, g3⟩ := gc_rest hH.1.1 nWt_n hH.1.2 hH.2.1 hH.2.2.1 ht i0 c (fun d => d.1 cs) hR
        have hh : HH S D T (pRest i e) := ⟨⟨k1, k2⟩, g2, hH.2.2.ex g1.1.1 hH.hn hH.cn hH.2.1.1 g3⟩
        refine ih _ _ (h.ex hH.cn g1.1.1) hh (by rw [g1.1.1.2.2.2.2.1 14 (by decide) (by decide)]; exact ht) (fun j j0 j1 js k v w g => ?_) (by omega)
        rw [k3.1] at j1
        rw [k3.2.2.2.2.1 _ _ (by omega) (by omega)] at js
        exact hl j (by omega) j1 js k v w (k4 k j v w (by omega) g)
      · exact ih _ _ h hH ht (fun j j0 j1 => hl j (by omega) j1) (by omega)
    · exact h
theorem gl_takeOver (gl : GLo kk e) (h : HH S D T e) (hb : S + 2 * D + 2 * (T + 1) ≤ 540) (ht : 0 ≤ e.1 4 14 ∧ e.1 4 14 < 1000000) : GLo kk (pcTakeOver e).2 := by
  have h8 : ∀ j : Int, 0 ≤ j → j < e.1 7 2 → 0 ≤ e.1 (7000 + j) 8 ∧ e.1 (7000 + j) 8 ≤ hN e j := fun j j0 j1 => (h.2.1.1 j j0 j1).2.2.2.2.2.2.1
  have h5 : ∀ c : Int, 0 ≤ c → c < e.1 7 2 → 0 ≤ e.1 (7000 + c) 5 := fun c c0 c1 => (h.2.1.1 c c0 c1).2.2.2.2.1.1
  have hup := h.1.up (S' := S) (T' := T + 1) (Int.le_refl _) (Int.le_refl _) (by omega) hb
  have n7 := h.cn.1
  unfold pcTakeOver
  split
  · exact gl.thr h.cn
  · have hh0 := h.es (v := 0) (h.1.es0 (a := 4) (j := 17) (by omega) (by omega)) (by omega)
    have h0 := hh0.1
    have h1 := hup.es0 (a := 4) (j := 17) (v := 0) (by omega) (by omega)
    have f : ∀ a u : Int, a ≠ 4 → (eS e 4 17 0).1 a u = e.1 a u := fun a u ha => eS_a ha
    have hI : TkI S D T 0 (eS e 4 17 0) := ⟨⟨h1.1, fun c c0 c1 => by rw [f _ _ (by omega)] at c1 ⊢; exact h5 c c0 c1, fun j j0 j1 js => h1.2 j j0 j1 (al_nd.mp (Or.inr js))⟩, fun j j0 j1 => ⟨(h0.1.2.1 j j0 j1).2, fun _ => by
      rw [f _ _ (by omega)] at j1
      unfold hN
      rw [f _ _ (by omega), f _ _ (by omega)]
      exact h8 j j0 j1⟩, fun j j0 j1 => by omega⟩
    obtain ⟨k1, k2⟩ := tk1_I 31 0 0 _ hI (Int.le_refl _) (by rw [f _ _ (by omega)]; omega)
    have G0 := gl_tk1 31 0 0 _ (gl.s4 (k' := kk) (v := 0) (fun g => by omega) (fun g => by omega) (fun _ => Or.inl rfl) (Int.le_refl _)) hI hh0.fk (Int.le_refl _)
    obtain ⟨F1, F2⟩ := fk_tk1 31 0 0 _ hI hh0.fk (Int.le_refl _)
    rw [es_pt, if_neg (by omega)] at F2
    rw [f _ _ (by omega)] at k2
    generalize (pTk1 31 0 0 (eS e 4 17 0)).2 = e3 at k1 k2 F1 F2 G0
    obtain ⟨⟨a1, a2, a3⟩, -, a4⟩ := k1
    have hJ : TkJ S D (T + 1) 0 e3 := ⟨a1, a2, fun j j0 j1 hd => by
      by_cases cs : e3.1 (7000 + j) 6 = 0
      · obtain ⟨⟨g1, g2⟩, -⟩ := a4 j j0 j1 j1 cs
        by_cases c8 : e3.1 (7000 + j) 8 = 0
        · exact Or.inr ⟨j0, cs, c8⟩
        · exact Or.inl (by omega)
      · exact Or.inl (a3 j j0 j1 ((al_nd.mpr hd).resolve_left cs)), fun j j0 j1 js => (a4 j j0 j1 j1 js).2.2, fun j j0 j1 js => (a4 j j0 j1 j1 js).2.1⟩
    obtain ⟨m1, m2⟩ := tk2_J 31 0 _ hJ (Int.le_refl _) (by omega)
    have G3 := gl_tk2 31 0 _ G0 hJ (Int.le_refl _)
    obtain ⟨G1, G2⟩ := fk_tk2 31 0 _ hJ F1 (Int.le_refl _)
    generalize pTk2 31 0 e3 = e4 at m1 m2 G1 G2 G3
    obtain ⟨b1, b2, b3, b4, b5⟩ := m1
    refine gl_tk3 31 0 e4 G3 ⟨⟨b1, fun j j0 j1 hd => ?_⟩, G1⟩ (by rw [G2, F2]; exact ht) (fun j j0 j1 js => b5 j j0 j1 js) (Int.le_refl _)
    rcases b3 j j0 j1 hd with g | g
    · exact g
    · omega
end GLI
