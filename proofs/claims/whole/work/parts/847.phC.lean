/-! LINKS AND HISTORIES, through the calls: another takes over. -/
section PHC
variable {e e' e1 e2 : ES} {S D T S' D' T' : Int} {a b c i j k q r v w N M p x y t o ev tn ver inp par pe fin st res dep p1 p2 p3 : Int} {n : Nat} {s : TS} {B : Int} {E : Int → Ev}
/-- on the way through the first loop: what is cut already, what is still to be cut -/
def TkI (S D T i : Int) (e : ES) : Prop := (HK S D (T + 1) nWt noX e ∧ (∀ c : Int, 0 ≤ c → c < e.1 7 2 → 0 ≤ e.1 (7000 + c) 5) ∧ ∀ j : Int, 0 ≤ j → j < e.1 7 2 → e.1 (7000 + j) 6 = 6 → 0 < hN e j) ∧
  (∀ j : Int, i ≤ j → j < e.1 7 2 → HCt (eH e j) (hN e j) S D T ∧ (e.1 (7000 + j) 6 = 0 → 0 ≤ e.1 (7000 + j) 8 ∧ e.1 (7000 + j) 8 ≤ hN e j)) ∧
  ∀ j : Int, 0 ≤ j → j < i → j < e.1 7 2 → e.1 (7000 + j) 6 = 0 → (0 ≤ e.1 (7000 + j) 8 ∧ hN e j = e.1 (7000 + j) 8) ∧ (∀ k v w : Int, Lk noX e k j v w → k = 10) ∧ ∀ c : Int, 0 ≤ c → c < e.1 7 2 → e.1 (7000 + c) 4 = j → e.1 (7000 + c) 5 < e.1 (7000 + j) 8
theorem TkI.next (h : TkI S D T i e) (hs : e.1 (7000 + i) 6 ≠ 0) : TkI S D T (i + 1) e := by
  obtain ⟨h1, h2, h3⟩ := h
  refine ⟨h1, fun j j0 j1 => h2 j (by omega) j1, fun j j0 j1 j2 js => ?_⟩
  by_cases c : j = i
  · rw [c] at js
    exact absurd js hs
  · exact h3 j j0 (by omega) j2 js
theorem TkI.lose (h : TkI S D T i e) (i0 : 0 ≤ i) (i1 : i < e.1 7 2) (hs : e.1 (7000 + i) 6 = 0) : TkI S D T (i + 1) (pLose i e) ∧ (pLose i e).1 7 2 = e.1 7 2 := by
  obtain ⟨⟨h1, h1b, h1c⟩, h2, h3⟩ := h
  have hc := h1.cn
  have n7 := hc.1
  have n8 := hc.2.1
  obtain ⟨q1, q2⟩ := h2 i (Int.le_refl _) i1
  have q8 := q2 hs
  obtain ⟨l1, l2, l3, l4, l5⟩ := lose_pt hc i0 i1 q8
  obtain ⟨k1, k2⟩ := h1.lose nWt_n i0 i1 (fun d => d.1 hs) q8 (by rw [show T + 1 - 1 = T by omega]; exact q1)
  have pa : ∀ a u : Int, a ≠ 3 → a ≠ 71000 + i → (a ≠ 7000 + i ∨ u ≠ 9) → (a < 8000 ∨ 9000 ≤ a ∨ u ≠ 5) → (a < 7000 ∨ 8000 ≤ a ∨ u ≠ 4) → (pLose i e).1 a u = e.1 a u := fun a u h1 h2 h3 h4 h5 => by
    rw [l1 a u h1 h2 h3, if_neg (by omega), if_neg (by omega)]
  have e7 : (pLose i e).1 7 2 = e.1 7 2 := pa _ _ (by omega) (by omega) (by omega) (by omega) (by omega)
  have f6 : ∀ j u : Int, 0 ≤ j → j < e.1 7 2 → u = 5 ∨ u = 6 ∨ u = 8 → (pLose i e).1 (7000 + j) u = e.1 (7000 + j) u := fun j u j0 j1 hu => pa _ _ (by omega) (by omega) (by omega) (by omega) (by omega)
  have fN : ∀ j : Int, 0 ≤ j → j < e.1 7 2 → j ≠ i → hN (pLose i e) j = hN e j := fun j j0 j1 hj => pa _ _ (by omega) (by omega) (by omega) (by omega) (by omega)
  have fH : ∀ j : Int, eH (pLose i e) j = eH e j := fun j => congrFun l2 j
  have f4 : ∀ p : Int, 0 ≤ p → p < e.1 7 2 → 0 ≤ (pLose i e).1 (7000 + p) 4 → (pLose i e).1 (7000 + p) 4 = e.1 (7000 + p) 4 ∧ ¬ (e.1 (7000 + p) 4 = i ∧ e.1 (7000 + i) 8 ≤ e.1 (7000 + p) 5) := fun p p0 p1 hp => by
    have := l1 (7000 + p) 4 (by omega) (by omega) (by omega)
    rw [if_neg (by omega)] at this
    by_cases c : (7000 ≤ 7000 + p ∧ 7000 + p < 7000 + e.1 7 2) ∧ (4 : Int) = 4 ∧ e.1 (7000 + p) 4 = i ∧ e.1 (7000 + i) 8 ≤ e.1 (7000 + p) 5
    · rw [if_pos c] at this
      omega
    · rw [if_neg c] at this
      exact ⟨this, fun hh => c ⟨by omega, rfl, hh⟩⟩
  refine ⟨⟨⟨k1, fun c c0 c1 => ?_, fun j j0 j1 js => ?_⟩, fun j j0 j1 => ?_, fun j j0 j1 j2 js => ?_⟩, e7⟩
  · rw [e7] at c1
    rw [f6 c 5 c0 c1 (by omega)]
    exact h1b c c0 c1
  · rw [e7] at j1
    rw [f6 j 6 j0 j1 (by omega)] at js
    have hj : j ≠ i := fun hj => by
      rw [hj] at js
      omega
    rw [fN j j0 j1 hj]
    exact h1c j j0 j1 js
  · rw [e7] at j1
    rw [fN j (by omega) j1 (by omega), fH, f6 j 6 (by omega) j1 (by omega), f6 j 8 (by omega) j1 (by omega)]
    exact h2 j (by omega) j1
  · rw [e7] at j2
    rw [f6 j 6 j0 j2 (by omega)] at js
    rw [f6 j 8 j0 j2 (by omega)]
    by_cases hj : j = i
    · subst hj
      refine ⟨⟨q8.1, l3⟩, fun k v w g => ((k2 k j v w g).2 rfl).1, fun c c0 c1 cp => ?_⟩
      rw [e7] at c1
      obtain ⟨g1, g2⟩ := f4 c c0 c1 (by omega)
      rw [g1] at cp
      rw [f6 c 5 c0 c1 (by omega)]
      by_cases cv : e.1 (7000 + c) 5 < e.1 (7000 + j) 8
      · exact cv
      · exact absurd ⟨cp, by omega⟩ g2
    · obtain ⟨g1, g2, g3⟩ := h3 j j0 (by omega) j2 js
      rw [fN j j0 j2 hj]
      refine ⟨g1, fun k v w g => g2 k v w (k2 k j v w g).1, fun c c0 c1 cp => ?_⟩
      rw [e7] at c1
      obtain ⟨u1, -⟩ := f4 c c0 c1 (by omega)
      rw [u1] at cp
      rw [f6 c 5 c0 c1 (by omega)]
      exact g3 c c0 c1 cp
theorem TkI.fin3 (h : TkI S D T i e) (hn : e.1 7 2 ≤ i) : TkI S D T (e.1 7 2) e := ⟨h.1, fun j j0 j1 => by omega, fun j j0 j1 j2 => h.2.2 j j0 (by omega) j2⟩
theorem tk1_I : ∀ (n : Nat) (a i : Int) (e : ES), TkI S D T i e → 0 ≤ i → e.1 7 2 ≤ i + n → TkI S D T ((pTk1 n a i e).2.1 7 2) (pTk1 n a i e).2 ∧ (pTk1 n a i e).2.1 7 2 = e.1 7 2 := by
  intro n
  induction n with
  | zero => intro a i e h i0 hn; exact ⟨h.fin3 (by omega), rfl⟩
  | succ n ih =>
    intro a i e h i0 hn
    unfold pTk1
    by_cases c : i < e.1 7 2
    · rw [if_pos c]
      by_cases cs : e.1 (7000 + i) 6 = 0
      · rw [if_pos cs]
        obtain ⟨k1, k2⟩ := h.lose i0 c cs
        obtain ⟨u1, u2⟩ := ih (a + (hN e i - e.1 (7000 + i) 8)) (i + 1) _ k1 (by omega) (by rw [k2]; omega)
        exact ⟨u1, u2.trans k2⟩
      · rw [if_neg cs]
        exact ih a (i + 1) e (h.next cs) (by omega) (by omega)
    · rw [if_neg c]
      exact ⟨h.fin3 (by omega), rfl⟩
/-- on the way through the second loop -/
def TkJ (S D T i : Int) (e : ES) : Prop := HK S D T nWt noX e ∧ (∀ c : Int, 0 ≤ c → c < e.1 7 2 → 0 ≤ e.1 (7000 + c) 5) ∧ (∀ j : Int, 0 ≤ j → j < e.1 7 2 → ¬ Dead e j → 0 < hN e j ∨ (i ≤ j ∧ e.1 (7000 + j) 6 = 0 ∧ e.1 (7000 + j) 8 = 0)) ∧
  (∀ j : Int, i ≤ j → j < e.1 7 2 → e.1 (7000 + j) 6 = 0 → ∀ c : Int, 0 ≤ c → c < e.1 7 2 → e.1 (7000 + c) 4 = j → e.1 (7000 + c) 5 < e.1 (7000 + j) 8) ∧
  ∀ j : Int, 0 ≤ j → j < e.1 7 2 → e.1 (7000 + j) 6 = 0 → ∀ k v w : Int, Lk noX e k j v w → k = 10
theorem deal_id {rec : Int → Int → ES → ES} : ∀ (n : Nat) (i : Int) (e : ES), 0 ≤ i → (∀ c : Int, 0 ≤ c → c < e.1 7 2 → e.1 (7000 + c) 4 ≠ r) → pDealL rec r dep n i e = e := by
  intro n
  induction n with
  | zero => intro i e _ _; rfl
  | succ n ih =>
    intro i e i0 h
    unfold pDealL
    split
    · rename_i c
      rw [if_neg (fun hh => h i i0 c hh.1)]
      exact ih _ _ (by omega) h
    · rfl
theorem TkJ.next (h : TkJ S D T i e) (hs : ¬ (e.1 (7000 + i) 6 = 0 ∧ e.1 (7000 + i) 8 = 0)) : TkJ S D T (i + 1) e := by
  obtain ⟨h1, h2, h3, h4, h5⟩ := h
  refine ⟨h1, h2, fun j j0 j1 hd => ?_, fun j j0 j1 => h4 j (by omega) j1, h5⟩
  rcases h3 j j0 j1 hd with g | ⟨g1, g2, g3⟩
  · exact Or.inl g
  · refine Or.inr ⟨?_, g2, g3⟩
    by_cases c : j = i
    · rw [c] at g2 g3
      exact absurd ⟨g2, g3⟩ hs
    · omega
theorem TkJ.close (h : TkJ S D T i e) (i0 : 0 ≤ i) (i1 : i < e.1 7 2) (hs : e.1 (7000 + i) 6 = 0) (h8 : e.1 (7000 + i) 8 = 0) : TkJ S D T (i + 1) (pClose 41 i 5 0 0 e) ∧ (pClose 41 i 5 0 0 e).1 7 2 = e.1 7 2 := by
  obtain ⟨h1, h2, h3, h4, h5⟩ := h
  have hc := h1.cn
  have n7 := hc.1
  have n8 := hc.2.1
  have hd : ¬ Dead e i := fun d => d.1 hs
  have pa : ∀ a u : Int, a ≠ 7000 + i ∨ u ≠ 6 → (eS e (7000 + i) 6 5).1 a u = e.1 a u := fun a u hh => by rw [es_pt, if_neg (by omega)]
  have e70 : (eS e (7000 + i) 6 5).1 7 2 = e.1 7 2 := pa _ _ (by omega)
  have k1 : CS e (eS e (7000 + i) 6 5) := cs_st hc i0 i1 hs
  have k2 := k1.tr (cs_end (r := i) k1.1.2)
  have hx := (h1.dies (st := 5) i0 i1 hd (by decide) (by decide)).endw (r := i) i0 (by omega)
  have e8 : (eS e (7000 + i) 6 5).1 8 2 = e.1 8 2 := pa _ _ (by omega)
  have pe : ∀ a u : Int, a < 8000 ∨ 9000 ≤ a → a ≠ 7000 + i ∨ u ≠ 6 → (pEnd i (eS e (7000 + i) 6 5)).1 a u = e.1 a u := fun a u ha hu => (end_a (by rw [e8]; omega)).trans (pa a u hu)
  have hch : ∀ c : Int, 0 ≤ c → c < (pEnd i (eS e (7000 + i) 6 5)).1 7 2 → (pEnd i (eS e (7000 + i) 6 5)).1 (7000 + c) 4 ≠ i := fun c c0 c1 cp => by
    rw [pe _ _ (by omega) (by omega)] at c1
    rw [pe _ _ (by omega) (by omega)] at cp
    have := h4 i (Int.le_refl _) i1 hs c c0 c1 cp
    have := h2 c c0 c1
    omega
  have w1 : pClose 41 i 5 0 0 e = pUp i 5 0 (pEnd i (eS e (7000 + i) 6 5)) := by
    show pUp i 5 0 (pDealL (fun i d e => pClose 40 i 5 0 d e) i 0 31 0 (pEnd i (eS e (7000 + i) 6 5))) = _
    rw [deal_id 31 0 _ (Int.le_refl _) hch]
  rw [w1]
  have hu := h1.upp (st := 5) i0 i1 hd hx k2 (Int.le_refl _) (by decide)
  have ku := k2.tr (cs_up (r := i) (st := 5) (res := 0) k2.1.2)
  -- frames of telling the parent
  have pu : ∀ a u : Int, 7000 ≤ a → a < 8000 → (pUp i 5 0 (pEnd i (eS e (7000 + i) 6 5))).1 a u = (pEnd i (eS e (7000 + i) 6 5)).1 a u := fun a u a0 a1 => by
    unfold pUp
    split
    · rename_i c
      split
      · exact arr_a (by omega) (by omega) (by omega) (by omega) (by omega)
      · exact arr_a (by omega) (by omega) (by omega) (by omega) (by omega)
    · rfl
  have pl : ∀ k q v w : Int, Lk noX (pUp i 5 0 (pEnd i (eS e (7000 + i) 6 5))) k q v w → Lk noX e k q v w := fun k q v w g => by
    have g1 : Lk noX (pEnd i (eS e (7000 + i) 6 5)) k q v w := by
      unfold pUp at g
      split at g
      · rename_i c
        have h70 := k2.1.2.1
        split at g
        · exact g.arr k2.1.2 c.1.1 (by omega)
        · exact g.arr k2.1.2 c.1.1 (by omega)
      · exact g
    have g2 := Lk.endw k1.1.2 g1
    refine g2.mono (fun _ _ _ z => z) (pa _ _ (by omega)) (pa _ _ (by omega)) (fun p p0 p1' z => ⟨fun hh => z (by rw [pa _ _ (by omega)]; exact hh), pa _ _ (by omega), pa _ _ (by omega)⟩) (fun q v q0 q1 hv => hv) (fun p p0 p1' z => ⟨pa _ _ (by omega), pa _ _ (by omega)⟩) fun p p0 p1 d => k1.dd p0 p1 d
  have e7 : (pUp i 5 0 (pEnd i (eS e (7000 + i) 6 5))).1 7 2 = e.1 7 2 := ku.2.1.1
  have f : ∀ j u : Int, 0 ≤ j → j < e.1 7 2 → j ≠ i ∨ u ≠ 6 → (pUp i 5 0 (pEnd i (eS e (7000 + i) 6 5))).1 (7000 + j) u = e.1 (7000 + j) u := fun j u j0 j1 hj => (pu _ _ (by omega) (by omega)).trans (pe _ _ (by omega) (by omega))
  have hdi : (pUp i 5 0 (pEnd i (eS e (7000 + i) 6 5))).1 (7000 + i) 6 = 5 := by
    rw [pu _ _ (by omega) (by omega), end_a (by omega)]
    exact eS_e
  refine ⟨⟨hu, fun c c0 c1 => ?_, fun j j0 j1 hdj => ?_, fun j j0 j1 js c c0 c1 cp => ?_, fun j j0 j1 js k v w g => ?_⟩, e7⟩
  · rw [e7] at c1
    rw [f c 5 c0 c1 (by omega)]
    exact h2 c c0 c1
  · rw [e7] at j1
    by_cases hj : j = i
    · exfalso
      apply hdj
      unfold Dead
      rw [hj, hdi]
      decide
    · rcases h3 j j0 j1 (fun d => hdj (ku.dd j0 j1 d)) with g | ⟨g1, g2, g3⟩
      · have := ku.1.1.2.1 j j0 j1
        exact Or.inl (by omega)
      · rw [f j 6 j0 j1 (by omega), f j 8 j0 j1 (by omega)]
        exact Or.inr ⟨by omega, g2, g3⟩
  · rw [e7] at j1 c1
    rw [f j 6 (by omega) j1 (by omega)] at js
    rw [f c 4 c0 c1 (by omega)] at cp
    rw [f c 5 c0 c1 (by omega), f j 8 (by omega) j1 (by omega)]
    exact h4 j (by omega) j1 js c c0 c1 cp
  · rw [e7] at j1
    have hj : j ≠ i := fun hj => by
      rw [hj, hdi] at js
      omega
    rw [f j 6 j0 j1 (by omega)] at js
    exact h5 j j0 j1 js k v w (pl k j v w g)
theorem tk2_J : ∀ (n : Nat) (i : Int) (e : ES), TkJ S D T i e → 0 ≤ i → e.1 7 2 ≤ i + n → TkJ S D T ((pTk2 n i e).1 7 2) (pTk2 n i e) ∧ (pTk2 n i e).1 7 2 = e.1 7 2 := by
  intro n
  have fin2 : ∀ (i : Int) (e : ES), TkJ S D T i e → e.1 7 2 ≤ i → TkJ S D T (e.1 7 2) e := fun i e h hn => by
    obtain ⟨h1, h2, h3, h4, h5⟩ := h
    exact ⟨h1, h2, fun j j0 j1 hd => (h3 j j0 j1 hd).imp_right fun g => ⟨by omega, g.2⟩, fun j j0 j1 => by omega, h5⟩
  induction n with
  | zero => intro i e h i0 hn; exact ⟨fin2 i e h (by omega), rfl⟩
  | succ n ih =>
    intro i e h i0 hn
    unfold pTk2
    by_cases c : i < e.1 7 2
    · rw [if_pos c]
      by_cases cs : e.1 (7000 + i) 6 = 0 ∧ e.1 (7000 + i) 8 = 0
      · rw [if_pos cs]
        obtain ⟨k1, k2⟩ := h.close i0 c cs.1 cs.2
        obtain ⟨u1, u2⟩ := ih (i + 1) _ k1 (by omega) (by rw [k2]; omega)
        exact ⟨u1, u2.trans k2⟩
      · rw [if_neg cs]
        exact ih (i + 1) e (h.next cs) (by omega) (by omega)
    · rw [if_neg c]
      exact ⟨fin2 i e h (by omega), rfl⟩
theorem tk3_P : ∀ (n : Nat) (i : Int) (e : ES), PHs S D T e → (∀ j : Int, i ≤ j → j < e.1 7 2 → e.1 (7000 + j) 6 = 0 → ∀ k v w : Int, Lk noX e k j v w → k = 10) → 0 ≤ i → PHs S D T (pTk3 n i e) := by
  intro n
  induction n with
  | zero => intro i e h _ _; exact h
  | succ n ih =>
    intro i e h hl i0
    have n7 := h.cn.1
    unfold pTk3
    split
    · rename_i c
      split
      · rename_i cs
        obtain ⟨k1, k2, k3, k4⟩ := h.1.rest nWt_n h.2 i0 c (fun k v w g => Or.inl (hl i (Int.le_refl _) c cs k v w g))
        refine ih _ _ ⟨k1, k2⟩ (fun j j0 j1 js k v w g => ?_) (by omega)
        rw [k3.1] at j1
        rw [k3.2.2.2.2.1 _ _ (by omega) (by omega)] at js
        exact hl j (by omega) j1 js k v w (k4 k j v w (by omega) g)
      · exact ih _ _ h (fun j j0 j1 => hl j (by omega) j1) (by omega)
    · exact h
/-- another takes over -/
theorem ph_takeOver (h : PHs S D T e) (hb : S + 2 * D + 2 * (T + 1) ≤ 540) (h8 : ∀ j : Int, 0 ≤ j → j < e.1 7 2 → 0 ≤ e.1 (7000 + j) 8 ∧ e.1 (7000 + j) 8 ≤ hN e j) (h5 : ∀ c : Int, 0 ≤ c → c < e.1 7 2 → 0 ≤ e.1 (7000 + c) 5) : PHs S D (T + 1) (pcTakeOver e).2 := by
  have hup := h.up (S' := S) (T' := T + 1) (Int.le_refl _) (Int.le_refl _) (by omega) hb
  have n7 := h.cn.1
  unfold pcTakeOver
  split
  · exact hup.thr
  · have h0 := h.es0 (a := 4) (j := 17) (v := 0) (by omega) (by omega)
    have h1 := hup.es0 (a := 4) (j := 17) (v := 0) (by omega) (by omega)
    have f : ∀ a u : Int, a ≠ 4 → (eS e 4 17 0).1 a u = e.1 a u := fun a u ha => eS_a ha
    have hI : TkI S D T 0 (eS e 4 17 0) := ⟨⟨h1.1, fun c c0 c1 => by rw [f _ _ (by omega)] at c1 ⊢; exact h5 c c0 c1, fun j j0 j1 js => h1.2 j j0 j1 (al_nd.mp (Or.inr js))⟩, fun j j0 j1 => ⟨(h0.1.2.1 j j0 j1).2, fun _ => by
      rw [f _ _ (by omega)] at j1
      unfold hN
      rw [f _ _ (by omega), f _ _ (by omega)]
      exact h8 j j0 j1⟩, fun j j0 j1 => by omega⟩
    obtain ⟨k1, k2⟩ := tk1_I 31 0 0 _ hI (Int.le_refl _) (by rw [f _ _ (by omega)]; omega)
    rw [f _ _ (by omega)] at k2
    generalize (pTk1 31 0 0 (eS e 4 17 0)).2 = e3 at k1 k2
    obtain ⟨⟨a1, a2, a3⟩, -, a4⟩ := k1
    have hJ : TkJ S D (T + 1) 0 e3 := ⟨a1, a2, fun j j0 j1 hd => by
      by_cases cs : e3.1 (7000 + j) 6 = 0
      · obtain ⟨⟨g1, g2⟩, -⟩ := a4 j j0 j1 j1 cs
        by_cases c8 : e3.1 (7000 + j) 8 = 0
        · exact Or.inr ⟨j0, cs, c8⟩
        · exact Or.inl (by omega)
      · exact Or.inl (a3 j j0 j1 ((al_nd.mpr hd).resolve_left cs)), fun j j0 j1 js => (a4 j j0 j1 j1 js).2.2, fun j j0 j1 js => (a4 j j0 j1 j1 js).2.1⟩
    obtain ⟨m1, m2⟩ := tk2_J 31 0 _ hJ (Int.le_refl _) (by omega)
    generalize pTk2 31 0 e3 = e4 at m1 m2
    obtain ⟨b1, b2, b3, b4, b5⟩ := m1
    refine tk3_P 31 0 e4 ⟨b1, fun j j0 j1 hd => ?_⟩ (fun j j0 j1 js => b5 j j0 j1 js) (Int.le_refl _)
    rcases b3 j j0 j1 hd with g | g
    · exact g
    · omega
end PHC
