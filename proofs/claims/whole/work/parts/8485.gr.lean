/-! WHAT IS A RUN'S OWN, how much was put: through steps that put arrivals alone. -/
section GRA
variable {e e' e1 e2 : ES} {a b c i j k q r v w N M p x y t o ev tn ver inp par pe st : Int} {n : Nat}
def hN0 (e : ES) (i : Int) : Int := if i < e.1 7 2 then hN e i else 0
def gF0 (e : ES) (i : Int) : Int := if e.1 68 (4000 + i) < hN0 e i then hN0 e i else if e.1 68 (2000 + i) ≤ hN0 e i then e.1 68 (2000 + i) else hN0 e i
/-- orders, and one more if it isn't r's turn: an arrival to r itself costs nothing of it -/
def OQ (r : Int) (e : ES) : Int := e.1 68 29 + if e.1 68 30 = r then 0 else 1
def GR (e e' : ES) : Prop := (e.1 3 0 ≤ e'.1 3 0 ∧ e'.1 3 0 - e.1 3 0 = e'.1 4 16 - e.1 4 16 ∧ e.1 68 29 ≤ e'.1 68 29 ∧ e'.1 68 29 - e.1 68 29 ≤ e'.1 4 16 - e.1 4 16 ∧ sm (hN0 e') 30 - sm (hN0 e) 30 = e'.1 4 16 - e.1 4 16) ∧ (e'.1 68 1000 - sm (fun i => e'.1 68 (3000 + i)) 30 = e.1 68 1000 - sm (fun i => e.1 68 (3000 + i)) 30 ∧ ∀ r : Int, 0 ≤ r → r < 30 → OQ r e' - OQ r e ≤ 2 * (e'.1 4 16 - e.1 4 16 - (hN0 e' r - hN0 e r))) ∧ ∀ i : Int, 0 ≤ i → i < 30 → (hN0 e' i = hN0 e i ∧ e'.1 68 (2000 + i) = e.1 68 (2000 + i) ∧ e'.1 68 (3000 + i) = e.1 68 (3000 + i) ∧ e'.1 68 (4000 + i) = e.1 68 (4000 + i)) ∨ (hN0 e i < hN0 e' i ∧ e'.1 68 (2000 + i) = gF0 e i ∧ e'.1 68 (3000 + i) = (if e.1 68 (3000 + i) ≤ hN0 e' i - gF0 e i then hN0 e' i - gF0 e i else e.1 68 (3000 + i)) ∧ e'.1 68 (4000 + i) = hN0 e' i)
theorem GR.rf : GR e e := ⟨⟨Int.le_refl _, by omega, Int.le_refl _, by omega, by omega⟩, ⟨rfl, fun r _ _ => by omega⟩, fun i _ _ => Or.inl ⟨rfl, rfl, rfl, rfl⟩⟩
theorem GR.tr (h : GR e e1) (g : GR e1 e2) : GR e e2 := by
  obtain ⟨⟨h1, h2, h3, h4⟩, h5, h6⟩ := h
  obtain ⟨⟨g1, g2, g3, g4⟩, g5, g6⟩ := g
  refine ⟨⟨by omega, by omega, by omega, by omega, by omega⟩, ⟨g5.1.trans h5.1, fun r r0 r1 => by have := h5.2 r r0 r1; have := g5.2 r r0 r1; omega⟩, fun i i0 i1 => ?_⟩
  rcases h6 i i0 i1 with ⟨a1, a2, a3, a4⟩ | ⟨a1, a2, a3, a4⟩
  · have eF : gF0 e1 i = gF0 e i := by unfold gF0; rw [a1, a2, a4]
    rcases g6 i i0 i1 with ⟨b1, b2, b3, b4⟩ | ⟨b1, b2, b3, b4⟩
    · exact Or.inl ⟨b1.trans a1, b2.trans a2, b3.trans a3, b4.trans a4⟩
    · rw [eF] at b2 b3
      rw [a3] at b3
      exact Or.inr ⟨by omega, b2, b3, b4⟩
  · rcases g6 i i0 i1 with ⟨b1, b2, b3, b4⟩ | ⟨b1, b2, b3, b4⟩
    · rw [b1, b2, b3, b4]
      exact Or.inr ⟨a1, a2, a3, a4⟩
    · have hF : gF0 e i ≤ hN0 e i := by unfold gF0; split <;> (try split) <;> omega
      have eF : gF0 e1 i = gF0 e i := by
        unfold gF0
        rw [a2, a4, if_neg (by omega), if_pos (by omega)]
        rfl
      rw [eF, a3] at b3
      rw [eF] at b2
      refine Or.inr ⟨by omega, b2, ?_, b4⟩
      rw [b3]
      split <;> split <;> (try split) <;> omega
theorem GR.of (h7 : ∀ i : Int, 0 ≤ i → i < 30 → hN0 e' i = hN0 e i) (h68 : ∀ u : Int, e'.1 68 u = e.1 68 u) (h3 : e'.1 3 0 = e.1 3 0) (h4 : e'.1 4 16 = e.1 4 16) : GR e e' := by
  have hs7 : sm (hN0 e') 30 = sm (hN0 e) 30 := sm_to fun i i0 i1 => h7 i i0 (by omega)
  refine ⟨⟨by omega, by omega, by rw [h68]; omega, by rw [h68]; omega, by omega⟩, ⟨?_, fun r r0 r1 => by unfold OQ; rw [h68, h68, h7 r r0 r1, h4]; omega⟩, fun i i0 i1 => Or.inl ⟨h7 i i0 i1, h68 _, h68 _, h68 _⟩⟩
  have hs : sm (fun i => e'.1 68 (3000 + i)) 30 = sm (fun i => e.1 68 (3000 + i)) 30 := sm_to fun i _ _ => h68 _
  rw [h68, hs]
theorem arr_gh (r0 : 0 ≤ r) (u : Int) : (pArr r k x y e).1 68 u = if u = 4000 + r then hN e r + 1 else if u = 3000 + r then gM r e else if u = 2000 + r then gF r e else if u = 1000 then e.1 68 1000 + (gM r e - e.1 68 (3000 + r)) else (pOrd0 r k e).1 68 u := by
  have o68 : ∀ z : Int, z ≠ 29 → z ≠ 30 → (pOrd0 r k e).1 68 z = e.1 68 z := fun z h1 h2 => by
    unfold pOrd0
    rw [eS_a (by decide)]
    split
    · rw [eS_j h2, eS_j h1]
    · rfl
  have oN : (pOrd0 r k e).1 (71000 + r) 1 = e.1 (71000 + r) 1 := by
    unfold pOrd0
    rw [eS_a (by omega)]
    split
    · rw [eS_a (by omega), eS_a (by omega)]
    · rfl
  have eF : gF r (pOrd0 r k e) = gF r e := by
    unfold gF
    rw [o68 _ (by omega) (by omega), o68 _ (by omega) (by omega), oN]
  have eM' : gM r (pOrd0 r k e) = gM r e := by
    unfold gM
    rw [eF, o68 _ (by omega) (by omega), oN]
  have e1 : (pArr r k x y e).1 68 u = (pOrd r k e).1 68 u := by
    unfold pArr pPut
    rw [eS_a (by decide)]
    show (eS (eS (pOrd r k e) (76000 + r) _ _) (71000 + r) 1 _).1 68 u = _
    rw [eS_a (by omega), eS_a (by omega)]
  rw [e1]
  unfold pOrd pGh
  rw [es_pt]
  by_cases c4 : u = 4000 + r
  · rw [if_pos ⟨rfl, c4⟩, if_pos c4, oN]
    rfl
  · rw [if_neg (fun h => c4 h.2), if_neg c4, es_pt]
    by_cases c3 : u = 3000 + r
    · rw [if_pos ⟨rfl, c3⟩, if_pos c3, eM']
    · rw [if_neg (fun h => c3 h.2), if_neg c3, es_pt]
      by_cases c2 : u = 2000 + r
      · rw [if_pos ⟨rfl, c2⟩, if_pos c2, eF]
      · rw [if_neg (fun h => c2 h.2), if_neg c2, es_pt]
        by_cases c1 : u = 1000
        · rw [if_pos ⟨rfl, c1⟩, if_pos c1, eM', o68 1000 (by decide) (by decide), o68 (3000 + r) (by omega) (by omega)]
        · rw [if_neg (fun h => c1 h.2), if_neg c1]
theorem GR.arr (hc : CN e) (r0 : 0 ≤ r) (r1 : r < e.1 7 2) : GR e (pArr r k x y e) := by
  have n7 := hc.1
  have e7 : (pArr r k x y e).1 7 2 = e.1 7 2 := arr_a (by decide) (by decide) (by omega) (by omega) (by decide)
  have e16 : (pArr r k x y e).1 4 16 = e.1 4 16 + 1 := eS_e
  have e30 : (pArr r k x y e).1 3 0 = e.1 3 0 + 1 := by
    unfold pArr pPut
    rw [eS_a (by decide)]
    show (eS (eS (pOrd r k e) (76000 + r) _ _) (71000 + r) 1 _).1 3 0 = _
    rw [eS_a (by omega), eS_a (by omega)]
    unfold pOrd
    rw [gh_a (by decide)]
    unfold pOrd0
    rw [eS_e]
  have e29 : (pArr r k x y e).1 68 29 = e.1 68 29 ∨ (pArr r k x y e).1 68 29 = e.1 68 29 + 1 := by
    rw [arr_gh r0, if_neg (by omega), if_neg (by omega), if_neg (by omega), if_neg (by decide)]
    unfold pOrd0
    rw [eS_a (by decide)]
    split
    · rw [eS_j (by decide), eS_e]
      split
      · exact Or.inl rfl
      · exact Or.inr rfl
    · exact Or.inl rfl
  have hr : hN0 e r = hN e r := if_pos r1
  have hr' : hN0 (pArr r k x y e) r = hN e r + 1 := by
    unfold hN0
    rw [e7, if_pos r1]
    exact arr_N r0
  have eF : gF r e = gF0 e r := by unfold gF gF0; rw [hr]; rfl
  have eG : gM r e = if e.1 68 (3000 + r) ≤ hN e r + 1 - gF0 e r then hN e r + 1 - gF0 e r else e.1 68 (3000 + r) := by unfold gM; rw [eF]; rfl
  have g3 : ∀ i : Int, 0 ≤ i → i < 30 → i ≠ r → ∀ u : Int, u = 2000 ∨ u = 3000 ∨ u = 4000 → (pArr r k x y e).1 68 (u + i) = e.1 68 (u + i) := fun i i0 i1 hi u hu => by
    rw [arr_gh r0, if_neg (by omega), if_neg (by omega), if_neg (by omega), if_neg (by omega)]
    unfold pOrd0
    rw [eS_a (by decide)]
    split
    · rw [eS_j (by omega), eS_j (by omega)]
    · rfl
  have g3r : (pArr r k x y e).1 68 (3000 + r) = gM r e := by rw [arr_gh r0, if_neg (by omega), if_pos rfl]
  have eO : ((pArr r k x y e).1 68 29 = e.1 68 29 ∧ (pArr r k x y e).1 68 30 = e.1 68 30) ∨ ((pArr r k x y e).1 68 30 = r ∧ (e.1 68 30 = r → (pArr r k x y e).1 68 29 = e.1 68 29)) := by
    rw [arr_gh r0, if_neg (by omega), if_neg (by omega), if_neg (by omega), if_neg (by decide), arr_gh r0, if_neg (by omega), if_neg (by omega), if_neg (by omega), if_neg (by decide)]
    unfold pOrd0
    rw [eS_a (by decide), eS_a (by decide)]
    split
    · refine Or.inr ⟨eS_e, fun g => ?_⟩
      rw [eS_j (by decide), eS_e, if_pos g]
    · exact Or.inl ⟨rfl, rfl⟩
  have hoth : ∀ i : Int, 0 ≤ i → i < 30 → i ≠ r → hN0 (pArr r k x y e) i = hN0 e i := fun i i0 i1 hi => by
    unfold hN0
    rw [e7]
    split
    · exact arr_a (by omega) (by omega) (by omega) (by omega) (by omega)
    · rfl
  have hsm := sm_one (r := r) (f := hN0 e) (g := hN0 (pArr r k x y e)) (n := 30) r0 (by omega) fun i i0 i1 hi => hoth i i0 (by omega) hi
  refine ⟨⟨by omega, by omega, by omega, by omega, by omega⟩, ⟨?_, fun q q0 q1 => ?_⟩, fun i i0 i1 => ?_⟩
  rotate_left
  · unfold OQ
    by_cases cq : q = r
    · rw [cq, hr', hr, e16]
      rcases eO with ⟨o1, o2⟩ | ⟨o1, o2⟩
      · rw [o1, o2]; omega
      · rw [o1, if_pos rfl]
        by_cases c2 : e.1 68 30 = r
        · rw [if_pos c2, o2 c2]; omega
        · rw [if_neg c2]; omega
    · have hq : hN0 (pArr r k x y e) q = hN0 e q := by
        unfold hN0
        rw [e7]
        split
        · exact arr_a (by omega) (by omega) (by omega) (by omega) (by omega)
        · rfl
      rw [hq, e16]
      have b1 : (if (pArr r k x y e).1 68 30 = q then (0 : Int) else 1) ≤ 1 := by split <;> decide
      have b2 : (0 : Int) ≤ (if e.1 68 30 = q then (0 : Int) else 1) := by split <;> decide
      omega
  rotate_left
  · rw [sm_one (r := r) (f := fun i => e.1 68 (3000 + i)) (g := fun i => (pArr r k x y e).1 68 (3000 + i)) (n := 30) r0 (by omega) fun i i0 i1 hi => g3 i i0 (by omega) hi 3000 (by decide)]
    show (pArr r k x y e).1 68 1000 - (sm _ 30 + (pArr r k x y e).1 68 (3000 + r) - e.1 68 (3000 + r)) = _
    rw [g3r, arr_gh r0, if_neg (by omega), if_neg (by omega), if_neg (by omega), if_pos rfl]
    omega
  · by_cases c : i = r
    · subst c
      refine Or.inr ⟨by omega, ?_, ?_, ?_⟩
      · rw [arr_gh r0, if_neg (by omega), if_neg (by omega), if_pos rfl, eF]
      · rw [g3r, eG, hr']
      · rw [arr_gh r0, if_pos rfl, hr']
    · refine Or.inl ⟨?_, g3 i i0 i1 c _ (by decide), g3 i i0 i1 c _ (by decide), g3 i i0 i1 c _ (by decide)⟩
      unfold hN0
      rw [e7]
      split
      · exact arr_a (by omega) (by omega) (by omega) (by omega) (by omega)
      · rfl
theorem hN0_nrun (hc : CN e) (i0 : 0 ≤ i) : hN0 (pNewRun t tn ver par pe e) i = hN0 e i := by
  have n7 := hc.1
  unfold hN0
  rw [pNewRun_n]
  by_cases c : i < e.1 7 2
  · rw [if_pos c, if_pos (by omega)]
    exact pNewRun_1 (by omega) (by omega) (by omega)
  · rw [if_neg c]
    by_cases c2 : i = e.1 7 2
    · rw [if_pos (by omega), c2]
      exact pNewRun_h n7.1
    · rw [if_neg (by omega)]
theorem GR.nrun (hc : CN e) : GR e (pNewRun t tn ver par pe e) := by
  have n7 := hc.1
  have f1 : ∀ a u : Int, a ≠ 7 → a ≠ 7000 + e.1 7 2 → a ≠ 71000 + e.1 7 2 → (pNewRun t tn ver par pe e).1 a u = e.1 a u := fun a u g1 g2 g3 => pNewRun_1 g1 g2 g3
  exact GR.of (fun i i0 _ => hN0_nrun hc i0) (fun u => f1 _ _ (by decide) (by omega) (by omega)) (f1 _ _ (by decide) (by omega) (by omega)) (f1 _ _ (by decide) (by omega) (by omega))
end GRA
