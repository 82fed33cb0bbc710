/-! ALL THAT STANDS BETWEEN THE CALLS: time passes. -/
section HHF
variable {e e' e1 e2 : ES} {Z : Int → Prop} {S D T S' D' T' a b c d i j k q r v w N M p y t o p1 p2 p3 p4 p5 p6 tn inp : Int} {n : Nat} {s : TS} {l : List Int}
/-- what a tick leaves alone -/
def SD (e e' : ES) : Prop := (e.1 7 2 ≤ e'.1 7 2 ∧ e.1 4 14 ≤ e'.1 4 14) ∧ (∀ a u : Int, (9 ≤ a ∧ a ≤ 67 ∧ a ≠ 13) ∨ (9000 ≤ a ∧ a < 10000) ∨ (10000 ≤ a ∧ a < 11000 ∧ (u ≤ 3 ∨ u = 5)) ∨ (a = 4 ∧ (u = 12 ∨ u = 13 ∨ u = 15 ∨ u = 17)) → e'.1 a u = e.1 a u) ∧
  (∀ c : Int, 48000 ≤ c → (c < 62000 ∨ (75000 ≤ c ∧ c < 75000 + e.1 7 2)) → eL e' c = eL e c) ∧ (∀ r : Int, 0 ≤ r → r < e.1 7 2 → ∀ u : Int, u = 9 ∨ u = 10 → e'.1 (7000 + r) u = e.1 (7000 + r) u) ∧
  (∀ r : Int, 0 ≤ r → e.1 7 2 ≤ r → r < e'.1 7 2 → e'.1 (7000 + r) 9 = 0 ∧ e'.1 (7000 + r) 10 = -1 ∧ eL e' (75000 + r) = []) ∧ (∀ w : Int, 0 ≤ w → w < 3 → e'.1 13 w = e.1 13 w ∨ e'.1 13 w = 0) ∧
  ∀ p : Int, 0 ≤ p → p < 1000 → (e'.1 (10000 + p) 7 = e.1 (10000 + p) 7 ∨ e'.1 (10000 + p) 7 = 0 ∨ e'.1 (10000 + p) 7 = 1) ∧ (e'.1 (10000 + p) 6 = e.1 (10000 + p) 6 ∨ (0 ≤ e'.1 (10000 + p) 6 ∧ e'.1 (10000 + p) 6 < e'.1 7 2))
theorem SD.rf : SD e e := ⟨⟨Int.le_refl _, Int.le_refl _⟩, fun _ _ _ => rfl, fun _ _ _ => rfl, fun _ _ _ _ _ => rfl, fun r r0 r1 r2 => by omega, fun _ _ _ => Or.inl rfl, fun _ _ _ => ⟨Or.inl rfl, Or.inl rfl⟩⟩
theorem SD.tr (h : SD e e1) (g : SD e1 e2) : SD e e2 := by
  obtain ⟨⟨h1, h1b⟩, h2, h3, h4, h5, h7, h6⟩ := h
  obtain ⟨⟨g1, g1b⟩, g2, g3, g4, g5, g7, g6⟩ := g
  refine ⟨⟨by omega, by omega⟩, fun a u ha => (g2 a u ha).trans (h2 a u ha), fun c c0 c1 => (g3 c c0 (by omega)).trans (h3 c c0 c1), fun r r0 r1 u hu => (g4 r r0 (by omega) u hu).trans (h4 r r0 r1 u hu), fun r r0 r1 r2 => ?_, fun w w0 w1 => ?_, fun p p0 p1 => ?_⟩
  · by_cases c : r < e1.1 7 2
    · rw [g4 r r0 c 9 (Or.inl rfl), g4 r r0 c 10 (Or.inr rfl), g3 (75000 + r) (by omega) (Or.inr ⟨by omega, by omega⟩)]
      exact h5 r r0 r1 c
    · exact g5 r r0 (by omega) r2
  · have a1 := h7 w w0 w1
    have b1 := g7 w w0 w1
    omega
  · obtain ⟨a1, a2⟩ := h6 p p0 p1
    obtain ⟨b1, b2⟩ := g6 p p0 p1
    exact ⟨by omega, by omega⟩
theorem EX.sd (h : EX e e') : SD e e' := by
  obtain ⟨h1, h2, h3, h4, h5, h6, -⟩ := h
  refine ⟨⟨h1.1, by rw [h5 14 (by decide) (by decide)]; omega⟩, fun a u ha => ?_, h6, fun r r0 r1 u hu => (h2 r r0 r1).2.1 u (by omega) (by omega), fun r r0 r1 r2 => (h3 r r1 r2).1.2, fun w _ _ => Or.inl (h4 13 w (by omega)), fun p p0 p1 => ⟨Or.inl (h4 _ _ (by omega)), Or.inl (h4 _ _ (by omega))⟩⟩
  by_cases c : a = 4
  · rw [c]
    exact h5 u (by omega) (by omega)
  · exact h4 a u (by omega)
theorem SD.of (ht : e.1 4 14 ≤ e'.1 4 14) (n7 : e.1 7 2 ≤ 1000) (pa : ∀ a u : Int, a = 7 ∨ (9 ≤ a ∧ a ≤ 67) ∨ (9000 ≤ a ∧ a < 10000) ∨ (10000 ≤ a ∧ a < 11000 ∧ (u ≤ 3 ∨ u = 5)) ∨ (a = 4 ∧ (u = 12 ∨ u = 13 ∨ u = 15 ∨ u = 17)) ∨ (7000 ≤ a ∧ a < 8000) → e'.1 a u = e.1 a u) (hl : ∀ c : Int, 48000 ≤ c → eL e' c = eL e c) (hp : ∀ p : Int, 0 ≤ p → p < 1000 → (e'.1 (10000 + p) 7 = e.1 (10000 + p) 7 ∨ e'.1 (10000 + p) 7 = 0 ∨ e'.1 (10000 + p) 7 = 1) ∧ (e'.1 (10000 + p) 6 = e.1 (10000 + p) 6 ∨ (0 ≤ e'.1 (10000 + p) 6 ∧ e'.1 (10000 + p) 6 < e'.1 7 2))) : SD e e' :=
  ⟨⟨by rw [pa 7 2 (Or.inl rfl)]; omega, ht⟩, fun a u ha => pa a u (by omega), fun c c0 _ => hl c c0, fun r r0 r1 u _ => pa _ _ (by omega), fun r r0 r1 r2 => by rw [pa 7 2 (Or.inl rfl)] at r2; omega, fun w _ _ => Or.inl (pa _ _ (by omega)), hp⟩
theorem ScB.sd (h : ScB p e) (g : SD e e') (p0 : 0 ≤ p) (p1 : p < 1000) : ScB p e' := h.of p0 p1 (fun u hu => g.2.1 _ _ (by omega)) fun t t0 t1 => g.2.1 _ _ (by omega)
theorem FBi.tms (h : FBi nZ e) : TmS e := fun r r0 r1 => by
  obtain ⟨⟨q1, q2, -⟩, q3, q4⟩ := h.2.1 r r0 r1
  exact ⟨⟨q1, q2⟩, q3, fun g => (q4 g).elim id fun z => z.elim⟩
theorem gc_fireL (r0 : 0 ≤ r) : ∀ (n : Nat) (k : Int) (e : ES), CN e → HNN e → r < e.1 7 2 → GC Z Z e (pFireL r n k e) := by
  intro n
  induction n with
  | zero => intro k e hc _ _; exact ⟨GX.rf, hc⟩
  | succ n ih =>
    intro k e hc hK r1
    unfold pFireL
    split
    · exact ih _ e hc hK r1
    · have g := gc_arr (Z := Z) (r := r) (k := 3) (x := (eL e (73000 + r)).getD k.toNat 0) (y := 0) hc hK r0 r1 (by decide) (by decide)
      have r1' : r < (pArr r 3 ((eL e (73000 + r)).getD k.toNat 0) 0 e).1 7 2 := by have := g.n7; omega
      generalize pArr r 3 ((eL e (73000 + r)).getD k.toNat 0) 0 e = e1 at g r1' ⊢
      have g2 : GC Z Z e1 (pRemT r k e1) := by
        refine ⟨gx_rows g.2 r0 r1' rfl rfl rfl (fun c c1 c2 => remT_l c1 c2) fun ⟨⟨q1, q2, q3⟩, q4, q5⟩ => ?_, g.2.of fun _ _ => rfl⟩
        unfold TmF
        rw [remT_3.1, remT_3.2]
        refine ⟨⟨by rw [List.length_eraseIdx, List.length_eraseIdx, q1], fun v hv => q2 v (List.mem_of_mem_eraseIdx hv), fun v hv => q3 v (List.mem_of_mem_eraseIdx hv)⟩, q4.sublist (List.eraseIdx_sublist _ _), fun g => q5 fun h => g ?_⟩
        rw [h]
        rfl
      have g3 := g.tr g2 hK hc
      exact g3.tr (ih k _ g3.2 (g3.hk hK) (by have := g3.n7; omega)) hK hc
theorem HH.fire (h : HH S D T e) (r0 : 0 ≤ r) (r1 : r < e.1 7 2) : HH S D T (pFire r e) ∧ SD e (pFire r e) := by
  have g := gc_fireL (Z := nZ) r0 (eL e (73000 + r)).length 0 e h.cn h.hn r1
  exact ⟨h.gx g (h.1.fire h.2.1.tms r0 r1).1, g.1.1.sd⟩
theorem hh_frL : ∀ (n : Nat) (i : Int) (e : ES), HH S D T e → 0 ≤ i → HH S D T (pFrL n i e) ∧ SD e (pFrL n i e) := by
  intro n
  induction n with
  | zero => intro i e h _; exact ⟨h, SD.rf⟩
  | succ n ih =>
    intro i e h i0
    unfold pFrL
    split
    · rename_i c
      obtain ⟨g1, g2⟩ := h.fire i0 c
      obtain ⟨k1, k2⟩ := ih (i + 1) _ g1 (by omega)
      exact ⟨k1, g2.tr k2⟩
    · exact ⟨h, SD.rf⟩
theorem HH.lookA (h : HH S D T e) (hg : WGlo e) (ht : 0 ≤ e.1 4 14 ∧ e.1 4 14 < 1000000) (p0 : 0 ≤ p) (p1 : p < e.1 8 2) : HH S D T (pLookA p e) ∧ SD e (pLookA p e) := by
  have n8 := h.cn.2.1
  have n7 := h.cn.1
  have q2 := (h.2.1.2.2.1 p p0 p1).2.1
  have sa : ∀ a u : Int, a < 8000 ∨ (9000 ≤ a ∧ a < 11000) → a ≠ 68 → a ≠ 3 → (a ≠ 4 ∨ u ≠ 16) → (pArr (e.1 (8000 + p) 0) 2 (e.1 (8000 + p) 1) 0 (eS e (8000 + p) 5 2)).1 a u = e.1 a u := fun a u h1 h2 h3 h4 => by
    rw [arr_a h2 h3 (by omega) (by omega) h4, es_pt, if_neg (by omega)]
  have sb : SD e (pArr (e.1 (8000 + p) 0) 2 (e.1 (8000 + p) 1) 0 (eS e (8000 + p) 5 2)) := SD.of (by rw [sa 4 14 (by decide) (by decide) (by decide) (by decide)]; omega) (by omega) (fun a u ha => sa a u (by omega) (by omega) (by omega) (by omega)) (fun c _ => arr_l) fun p' q0 q1 => ⟨Or.inl (sa _ _ (by omega) (by omega) (by omega) (by omega)), Or.inl (sa _ _ (by omega) (by omega) (by omega) (by omega))⟩
  refine ⟨⟨h.1.lookA p0 p1, ?_⟩, ?_⟩
  · unfold pLookA
    split
    · split
      · exact h.fk.back h.hn h.cn p0 p1 (by decide) (by decide)
      · exact h.fk
    · split
      · rename_i c
        exact h.fk.miss h.hn h.cn hg ht p0 p1 (by omega)
      · exact h.fk
  · unfold pLookA
    split
    · split
      · exact sb
      · exact SD.rf
    · split
      · unfold pMiss
        split
        · have sm : ∀ (j v j2 v2 : Int) (a u : Int), a < 8000 ∨ 9000 ≤ a → (eS (eS e (8000 + p) j v) (8000 + p) j2 v2).1 a u = e.1 a u := fun j v j2 v2 a u ha => by
            rw [es_pt, if_neg (by omega), es_pt, if_neg (by omega)]
          exact SD.of (by rw [sm _ _ _ _ _ _ (by decide)]; omega) (by omega) (fun a u ha => sm _ _ _ _ _ _ (by omega)) (fun _ _ => rfl) fun p' q0 q1 => ⟨Or.inl (sm _ _ _ _ _ _ (by omega)), Or.inl (sm _ _ _ _ _ _ (by omega))⟩
        · exact sb
      · exact SD.rf
theorem hh_laL : ∀ (n : Nat) (i : Int) (e : ES), HH S D T e → PW e → (0 ≤ e.1 4 14 ∧ e.1 4 14 < 1000000) → 0 ≤ i → HH S D T (pLaL n i e) ∧ SD e (pLaL n i e) := by
  intro n
  induction n with
  | zero => intro i e h _ _ _; exact ⟨h, SD.rf⟩
  | succ n ih =>
    intro i e h hP ht i0
    unfold pLaL
    split
    · rename_i c
      obtain ⟨g1, g2⟩ := h.lookA hP.1.1 ht i0 c
      have st := lookA_st hP i0 c
      obtain ⟨k1, k2⟩ := ih (i + 1) _ g1 (hP.lookA i0 c ht) (by rw [st.2.1]; exact ht) (by omega)
      exact ⟨k1, g2.tr k2⟩
    · exact ⟨h, SD.rf⟩
theorem HH.s10 (h : HH S D T e) (p0 : 0 ≤ p) (p1 : p < 1000) (hj : (j = 4 ∨ j = 8) ∨ (j = 7 ∧ (v = 0 ∨ v = 1)) ∨ (j = 6 ∧ 0 ≤ v ∧ v < e.1 7 2)) : HH S D T (eS e (10000 + p) j v) ∧ SD e (eS e (10000 + p) j v) := by
  have n7 := h.cn.1
  have pa : ∀ a u : Int, a ≠ 10000 + p ∨ u ≠ j → (eS e (10000 + p) j v).1 a u = e.1 a u := fun a u ha => by rw [es_pt, if_neg (by omega)]
  refine ⟨h.es (h.1.es0 (by omega) (by omega)) (by omega), SD.of (by rw [pa _ _ (by omega)]; omega) (by omega) (fun a u ha => pa _ _ (by omega)) (fun _ _ => rfl) fun q q0 q1 => ?_⟩
  rw [pa 7 2 (by omega)]
  by_cases c : q = p
  · subst c
    rcases hj with g | ⟨g, gv⟩ | ⟨g, gv⟩
    · rw [pa _ 7 (by omega), pa _ 6 (by omega)]
      exact ⟨Or.inl rfl, Or.inl rfl⟩
    · rw [pa _ 6 (by omega), g, eS_e]
      exact ⟨Or.inr gv, Or.inl rfl⟩
    · rw [pa _ 7 (by omega), g, eS_e]
      exact ⟨Or.inl rfl, Or.inr gv⟩
  · rw [pa _ 7 (by omega), pa _ 6 (by omega)]
    exact ⟨Or.inl rfl, Or.inl rfl⟩
theorem HH.stF (h : HH S D T e) (p0 : 0 ≤ p) (p1 : p < 1000) (v0 : 0 ≤ v) (v1 : v ≤ 999) (hs : ScB p e) : HH S D T (pStF p v e) ∧ SD e (pStF p v e) := by
  unfold pStF
  split
  · rename_i c
    obtain ⟨g1, g2⟩ := h.start (inp := v) c v0 v1 hs.1 hs.2.1 hs.2.2
    obtain ⟨k1, k2⟩ := g1.s10 (j := 6) (v := e.1 7 2) p0 p1 (Or.inr (Or.inr ⟨rfl, h.cn.1.1, by rw [start_n h.cn.1.1]; omega⟩))
    exact ⟨k1, g2.sd.tr k2⟩
  · exact ⟨h, SD.rf⟩
theorem HH.can (h : HH S D T e) (i0 : 0 ≤ i) (i1 : i < e.1 7 2) (hd : ¬ Dead e i) : HH S D T (pCan i e).2 ∧ SD e (pCan i e).2 := by
  have g := gc_can (Z := nZ) h.cn h.hn i0 i1
  exact ⟨h.gx g (h.1.can i0 i1 hd), g.1.1.sd⟩
theorem HH.meet (h : HH S D T e) (p0 : 0 ≤ p) (p1 : p < 1000) (v0 : 0 ≤ v) (v1 : v ≤ 999) (hs : ScB p e) : HH S D T (pMeet p v e) ∧ SD e (pMeet p v e) := by
  unfold pMeet
  by_cases c1 : ¬ lastO e p ∨ e.1 (10000 + p) 3 = 3
  · rw [if_pos c1]
    exact h.stF p0 p1 v0 v1 hs
  · rw [if_neg c1]
    have hl : lastO e p := by
      by_cases c : lastO e p
      · exact c
      · exact absurd (Or.inl c) c1
    split
    · split
      · obtain ⟨g1, g2⟩ := h.s10 (j := 7) (v := 1) p0 p1 (Or.inr (Or.inl (by decide)))
        obtain ⟨k1, k2⟩ := g1.s10 (j := 8) (v := v) p0 p1 (Or.inl (by decide))
        exact ⟨k1, g2.tr k2⟩
      · exact ⟨h, SD.rf⟩
    · split
      · obtain ⟨g1, g2⟩ := h.can hl.1.1 hl.1.2 (al_nd.mp (Or.inl hl.2))
        obtain ⟨k1, k2⟩ := g1.stF p0 p1 v0 v1 (hs.sd g2 p0 p1)
        exact ⟨k1, g2.tr k2⟩
      · exact ⟨h, SD.rf⟩
theorem HH.schL (p0 : 0 ≤ p) (p1 : p < 1000) : ∀ (n : Nat) (t : Int) (e : ES), HH S D T e → ScB p e → HH S D T (pSchL p N n t e) ∧ SD e (pSchL p N n t e) := by
  intro n
  induction n with
  | zero => intro t e h _; exact ⟨h, SD.rf⟩
  | succ n ih =>
    intro t e h hs
    unfold pSchL
    split
    · exact ⟨h, SD.rf⟩
    · have g : HH S D T (pPt p t e) ∧ SD e (pPt p t e) := by
        unfold pPt
        split
        · exact h.meet p0 p1 (by omega) (by omega) hs
        · exact ⟨h, SD.rf⟩
      obtain ⟨k1, k2⟩ := ih (t + 1) _ g.1 (hs.sd g.2 p0 p1)
      exact ⟨k1, g.2.tr k2⟩
theorem HH.lookS (h : HH S D T e) (p0 : 0 ≤ p) (p1 : p < 1000) (hv : 0 ≤ e.1 (10000 + p) 8 ∧ e.1 (10000 + p) 8 ≤ 999) (hs : ScB p e) : HH S D T (pLookS p e) ∧ SD e (pLookS p e) := by
  have h1 : HH S D T (pLkS1 p e) ∧ SD e (pLkS1 p e) := by
    unfold pLkS1
    split
    · obtain ⟨g1, g2⟩ := h.s10 (j := 7) (v := 0) p0 p1 (Or.inr (Or.inl (by decide)))
      obtain ⟨k1, k2⟩ := g1.stF p0 p1 hv.1 hv.2 (hs.sd g2 p0 p1)
      exact ⟨k1, g2.tr k2⟩
    · exact ⟨h, SD.rf⟩
  unfold pLookS pLk29
  obtain ⟨g1, g2⟩ := HH.schL p0 p1 ((((pLkS1 p e).1 4 14 + (pLkS1 p e).1 4 15 - (pLkS1 p e).1 (10000 + p) 4).toNat + 1)) ((pLkS1 p e).1 (10000 + p) 4 + 1) _ h1.1 (hs.sd h1.2 p0 p1) (N := (pLkS1 p e).1 4 14 + (pLkS1 p e).1 4 15)
  obtain ⟨k1, k2⟩ := g1.s10 (j := 4) (v := (if (pLkS1 p e).1 (10000 + p) 4 < (pLkS1 p e).1 4 14 + (pLkS1 p e).1 4 15 then (pLkS1 p e).1 4 14 + (pLkS1 p e).1 4 15 else (pLkS1 p e).1 (10000 + p) 4)) p0 p1 (Or.inl (by decide))
  exact ⟨k1, (h1.2.tr g2).tr k2⟩
theorem hh_lsL : ∀ (n : Nat) (i : Int) (e : ES), HH S D T e → PW e → (0 ≤ e.1 4 14 ∧ e.1 4 14 < 1000000) → (∀ p : Int, 0 ≤ p → p < e.1 10 2 → ScB p e) → 0 ≤ i → HH S D T (pLsL n i e) ∧ SD e (pLsL n i e) := by
  intro n
  induction n with
  | zero => intro i e h _ _ _ _; exact ⟨h, SD.rf⟩
  | succ n ih =>
    intro i e h hP ht hs i0
    have n10 := h.cn.2.2.2.1
    unfold pLsL
    split
    · rename_i c
      have k := lookS_st hP i0 c
      obtain ⟨g1, g2⟩ := h.lookS i0 (by omega) (hP.2.2.2 i i0 c).1.2.2 (hs i i0 c)
      obtain ⟨k1, k2⟩ := ih (i + 1) _ g1 (hP.lookS i0 c ht) (by rw [k.2.1]; exact ht) (fun p p0 p1 => by
        rw [k.2.2.1 10 (by decide) (by decide)] at p1
        exact (hs p p0 p1).sd g2 p0 (by omega)) (by omega)
      exact ⟨k1, g2.tr k2⟩
    · exact ⟨h, SD.rf⟩
theorem HH.bt (h : HH S D T e) : HH S D T (pBT e) := by
  unfold pBT
  have h1 := h.es (v := e.1 4 14 + 1) (h.1.es0 (a := 4) (j := 14) (by omega) (by omega)) (by omega)
  have h2 := h1.es (v := 0) (h1.1.es0 (a := 13) (j := 0) (by omega) (by omega)) (by omega)
  have h3 := h2.es (v := 0) (h2.1.es0 (a := 13) (j := 1) (by omega) (by omega)) (by omega)
  exact h3.es (v := 0) (h3.1.es0 (a := 13) (j := 2) (by omega) (by omega)) (by omega)
theorem bt_13 (w0 : 0 ≤ w) (w1 : w < 3) : (pBT e).1 13 w = 0 := by
  unfold pBT
  have : w = 0 ∨ w = 1 ∨ w = 2 := by omega
  rcases this with rfl | rfl | rfl
  · rw [eS_j (by decide), eS_j (by decide)]; exact eS_e
  · rw [eS_j (by decide)]; exact eS_e
  · exact eS_e
theorem HH.tick (h : HH S D T e) (hP : PW e) (hb : BDl e) (hs : ∀ p : Int, 0 ≤ p → p < e.1 10 2 → ScB p e) (ht : e.1 4 14 + 1 < 1000000) : HH S D T (pTick e) ∧ SD e (pTick e) := by
  obtain ⟨f1, f2, f3, f4, ⟨f5, f6⟩, f7, f8, f9⟩ := tick_f hP hb ht
  have t0 := hb.1
  have n10 := h.cn.2.2.2.1
  have e14 : (pBT e).1 4 14 = e.1 4 14 + 1 := bt_t
  have n7 := h.cn.1
  have sb : SD e (pBT e) := ⟨⟨by rw [bt_a (by decide) (by decide)]; omega, by rw [e14]; omega⟩, fun a u ha => bt_a (by omega) (by omega), fun _ _ _ => rfl, fun r r0 r1 u _ => bt_a (by omega) (by omega), fun r r0 r1 r2 => by rw [bt_a (by decide) (by decide)] at r2; omega, fun w w0 w1 => Or.inr (bt_13 w0 w1), fun q q0 q1 => ⟨Or.inl (bt_a (by omega) (by omega)), Or.inl (bt_a (by omega) (by omega))⟩⟩
  obtain ⟨k1, k2⟩ := hh_frL 31 0 _ h.bt (Int.le_refl _)
  obtain ⟨k3, k4⟩ := hh_laL 61 0 _ k1 f6 (by rw [f5.2.1, e14]; omega) (Int.le_refl _)
  have k5 := (sb.tr k2).tr k4
  unfold pTick
  obtain ⟨k6, k7⟩ := hh_lsL 5 0 _ k3 f8 (by rw [f4.2.1, e14]; omega) (fun p p0 p1 => by
    rw [f4.2.2.1 10 (by decide) (by decide), bt_a (by decide) (by decide)] at p1
    exact (hs p p0 p1).sd k5 p0 (by omega)) (Int.le_refl _)
  exact ⟨k6, k5.tr k7⟩
theorem hh_pas : ∀ (n : Nat) (e : ES), HH S D T e → PW e → BDl e → (∀ p : Int, 0 ≤ p → p < e.1 10 2 → ScB p e) → e.1 4 14 + n < 1000000 → HH S D T (pPasL n e) ∧ SD e (pPasL n e) ∧ PW (pPasL n e) := by
  intro n
  induction n with
  | zero => intro e h hP _ _ _; exact ⟨h, SD.rf, hP⟩
  | succ n ih =>
    intro e h hP hb hs ht
    have n10 := h.cn.2.2.2.1
    obtain ⟨f1, f2, f3, f4, -, -, -, f9⟩ := tick_f hP hb (by omega)
    obtain ⟨k1, k2⟩ := h.tick hP hb hs (by omega)
    unfold pPasL
    have hs' : ∀ p : Int, 0 ≤ p → p < (pTick e).1 10 2 → ScB p (pTick e) := fun p p0 p1 => by
      rw [f9.2.2.1 10 (by decide) (by decide), f4.2.2.1 10 (by decide) (by decide), bt_a (by decide) (by decide)] at p1
      exact (hs p p0 p1).sd k2 p0 (by omega)
    obtain ⟨q1, q2, q3⟩ := ih _ k1 f1 f2 hs' (by omega)
    exact ⟨q1, k2.tr q2, q3⟩
theorem hh_pass (h : HH S D T e) (hP : PW e) (hb : BDl e) (hs : ∀ p : Int, 0 ≤ p → p < e.1 10 2 → WSch e p) (ht : e.1 4 14 + 100 < 1000000) : HH S D T (pcPass p1 e).2 := by
  unfold pcPass
  split
  · exact h.thr
  · exact (hh_pas _ _ h hP hb (fun p p0 p1 => by
      have g := hs p p0 p1
      exact ⟨⟨g.1.1, g.1.2.1⟩, g.2.1, g.1.2.2⟩) (by omega)).1
end HHF
