/-! WHAT IS A RUN'S OWN: by arrivals, news, copies; how steps keep it. -/
section OWN
variable {e e' e1 e2 e3 : ES} {S D T a b i j k g q r v w N M p x y t o u Z : Int} {A A' c c' n n' X X' : Int → Int}
/-- ghosts, where events are put -/
def GG (e e' : ES) : Prop := e'.1 68 1000 - sm (fun i => e'.1 68 (3000 + i)) 30 = e.1 68 1000 - sm (fun i => e.1 68 (3000 + i)) 30 ∧ ∀ i : Int, 0 ≤ i → i < 30 → (hN0 e' i = hN0 e i ∧ e'.1 68 (2000 + i) = e.1 68 (2000 + i) ∧ e'.1 68 (3000 + i) = e.1 68 (3000 + i) ∧ e'.1 68 (4000 + i) = e.1 68 (4000 + i)) ∨ (hN0 e i < hN0 e' i ∧ e'.1 68 (2000 + i) = gF0 e i ∧ e'.1 68 (3000 + i) = (if e.1 68 (3000 + i) ≤ hN0 e' i - gF0 e i then hN0 e' i - gF0 e i else e.1 68 (3000 + i)) ∧ e'.1 68 (4000 + i) = hN0 e' i)
theorem GR.gg (h : GR e e') : GG e e' := ⟨h.2.1.1, h.2.2⟩
theorem GG.rf : GG e e := ⟨rfl, fun i _ _ => Or.inl ⟨rfl, rfl, rfl, rfl⟩⟩
theorem GG.tr (h : GG e e1) (g : GG e1 e2) : GG e e2 := by
  obtain ⟨h5, h6⟩ := h
  obtain ⟨g5, g6⟩ := g
  refine ⟨g5.trans h5, fun i i0 i1 => ?_⟩
  rcases h6 i i0 i1 with ⟨a1, a2, a3, a4⟩ | ⟨a1, a2, a3, a4⟩
  · have eF : gF0 e1 i = gF0 e i := by unfold gF0; rw [a1, a2, a4]
    rcases g6 i i0 i1 with ⟨b1, b2, b3, b4⟩ | ⟨b1, b2, b3, b4⟩
    · exact Or.inl ⟨b1.trans a1, b2.trans a2, b3.trans a3, b4.trans a4⟩
    · rw [eF] at b2 b3
      rw [a3] at b3
      exact Or.inr ⟨by omega, b2, b3, b4⟩
  · rcases g6 i i0 i1 with ⟨b1, b2, b3, b4⟩ | ⟨b1, b2, b3, b4⟩
    · rw [b1, b2, b3, b4]
      exact Or.inr ⟨a1, a2, a3, a4⟩
    · have hF : gF0 e i ≤ hN0 e i := by unfold gF0; split <;> (try split) <;> omega
      have eF : gF0 e1 i = gF0 e i := by
        unfold gF0
        rw [a2, a4, if_neg (by omega), if_pos (by omega)]
        rfl
      rw [eF, a3] at b3
      rw [eF] at b2
      refine Or.inr ⟨by omega, b2, ?_, b4⟩
      rw [b3]
      split <;> split <;> (try split) <;> omega
theorem GG.of (h7 : ∀ i : Int, 0 ≤ i → i < 30 → hN0 e' i = hN0 e i) (h68 : ∀ u : Int, 1000 ≤ u → e'.1 68 u = e.1 68 u) : GG e e' := by
  have hs : sm (fun i => e'.1 68 (3000 + i)) 30 = sm (fun i => e.1 68 (3000 + i)) 30 := sm_to fun i i0 _ => h68 _ (by omega)
  refine ⟨by rw [h68 _ (by decide), hs], fun i i0 i1 => Or.inl ⟨h7 i i0 i1, h68 _ (by omega), h68 _ (by omega), h68 _ (by omega)⟩⟩
theorem put_gh (r0 : 0 ≤ r) (hu : 1000 ≤ u) : (pPut r k x y t o e).1 68 u = if u = 4000 + r then hN e r + 1 else if u = 3000 + r then gM r e else if u = 2000 + r then gF r e else if u = 1000 then e.1 68 1000 + (gM r e - e.1 68 (3000 + r)) else e.1 68 u := by
  have o68 : ∀ z : Int, z ≠ 29 → z ≠ 30 → (pOrd0 r k e).1 68 z = e.1 68 z := fun z h1 h2 => by
    unfold pOrd0
    rw [eS_a (by decide)]
    split
    · rw [eS_j h2, eS_j h1]
    · rfl
  have oN : (pOrd0 r k e).1 (71000 + r) 1 = e.1 (71000 + r) 1 := by
    unfold pOrd0
    rw [eS_a (by omega)]
    split
    · rw [eS_a (by omega), eS_a (by omega)]
    · rfl
  have eF : gF r (pOrd0 r k e) = gF r e := by
    unfold gF
    rw [o68 _ (by omega) (by omega), o68 _ (by omega) (by omega), oN]
  have eM' : gM r (pOrd0 r k e) = gM r e := by
    unfold gM
    rw [eF, o68 _ (by omega) (by omega), oN]
  have e1 : (pPut r k x y t o e).1 68 u = (pOrd r k e).1 68 u := by
    unfold pPut
    show (eS (eS (pOrd r k e) (76000 + r) _ _) (71000 + r) 1 _).1 68 u = _
    rw [eS_a (by omega), eS_a (by omega)]
  rw [e1]
  unfold pOrd pGh
  rw [es_pt]
  by_cases c4 : u = 4000 + r
  · rw [if_pos ⟨rfl, c4⟩, if_pos c4, oN]
    rfl
  · rw [if_neg (fun h => c4 h.2), if_neg c4, es_pt]
    by_cases c3 : u = 3000 + r
    · rw [if_pos ⟨rfl, c3⟩, if_pos c3, eM']
    · rw [if_neg (fun h => c3 h.2), if_neg c3, es_pt]
      by_cases c2 : u = 2000 + r
      · rw [if_pos ⟨rfl, c2⟩, if_pos c2, eF]
      · rw [if_neg (fun h => c2 h.2), if_neg c2, es_pt]
        by_cases c1 : u = 1000
        · rw [if_pos ⟨rfl, c1⟩, if_pos c1, eM', o68 1000 (by decide) (by decide), o68 (3000 + r) (by omega) (by omega)]
        · rw [if_neg (fun h => c1 h.2), if_neg c1, o68 _ (by omega) (by omega)]
theorem put_7 (r0 : 0 ≤ r) : (pPut r k x y t o e).1 7 2 = e.1 7 2 := put_a (by omega) (by omega) (by omega) (by omega)
theorem GG.put (r0 : 0 ≤ r) (r1 : r < e.1 7 2) (h7 : e.1 7 2 ≤ 30) : GG e (pPut r k x y t o e) := by
  have e7 : (pPut r k x y t o e).1 7 2 = e.1 7 2 := put_7 r0
  have eN : ∀ i : Int, 0 ≤ i → i < 30 → i ≠ r → hN (pPut r k x y t o e) i = hN e i := fun i i0 i1 hi => put_a (by omega) (by omega) (by omega) (by omega)
  have hr : hN0 e r = hN e r := if_pos r1
  have hr' : hN0 (pPut r k x y t o e) r = hN e r + 1 := by
    unfold hN0
    rw [e7, if_pos r1]
    exact put_N r0
  have eF : gF r e = gF0 e r := by unfold gF gF0; rw [hr]; rfl
  have eG : gM r e = if e.1 68 (3000 + r) ≤ hN e r + 1 - gF0 e r then hN e r + 1 - gF0 e r else e.1 68 (3000 + r) := by unfold gM; rw [eF]; rfl
  have g3 : ∀ i : Int, 0 ≤ i → i < 30 → i ≠ r → ∀ u : Int, u = 2000 ∨ u = 3000 ∨ u = 4000 → (pPut r k x y t o e).1 68 (u + i) = e.1 68 (u + i) := fun i i0 i1 hi u hu => by
    rw [put_gh r0 (by omega), if_neg (by omega), if_neg (by omega), if_neg (by omega), if_neg (by omega)]
  have g3r : (pPut r k x y t o e).1 68 (3000 + r) = gM r e := by rw [put_gh r0 (by omega), if_neg (by omega), if_pos rfl]
  refine ⟨?_, fun i i0 i1 => ?_⟩
  · rw [sm_one (r := r) (f := fun i => e.1 68 (3000 + i)) (g := fun i => (pPut r k x y t o e).1 68 (3000 + i)) (n := 30) r0 (by omega) fun i i0 i1 hi => g3 i i0 (by omega) hi 3000 (by decide)]
    show (pPut r k x y t o e).1 68 1000 - (sm _ 30 + (pPut r k x y t o e).1 68 (3000 + r) - e.1 68 (3000 + r)) = _
    rw [g3r, put_gh r0 (by omega), if_neg (by omega), if_neg (by omega), if_neg (by omega), if_pos rfl]
    omega
  · by_cases c : i = r
    · subst c
      refine Or.inr ⟨by omega, ?_, ?_, ?_⟩
      · rw [put_gh r0 (by omega), if_neg (by omega), if_neg (by omega), if_pos rfl, eF]
      · rw [g3r, eG, hr']
      · rw [put_gh r0 (by omega), if_pos rfl, hr']
    · refine Or.inl ⟨?_, g3 i i0 i1 c _ (by decide), g3 i i0 i1 c _ (by decide), g3 i i0 i1 c _ (by decide)⟩
      unfold hN0
      rw [e7]
      split
      · exact eN i i0 i1 c
      · rfl
theorem gg_pnl (r0 : 0 ≤ r) : ∀ (L : List (Int × Int × Int)) (e : ES), r < e.1 7 2 → e.1 7 2 ≤ 30 → GG e (pPNL r t L e) ∧ (pPNL r t L e).1 7 2 = e.1 7 2 := by
  intro L
  induction L with
  | nil => intro e _ _; exact ⟨GG.rf, rfl⟩
  | cons z L ih =>
    intro e r1 h7
    have e7 : (pPut r z.1 z.2.1 z.2.2 t 0 e).1 7 2 = e.1 7 2 := put_7 r0
    obtain ⟨h1, h2⟩ := ih (pPut r z.1 z.2.1 z.2.2 t 0 e) (by omega) (by omega)
    exact ⟨(GG.put r0 r1 h7).tr h1, h2.trans e7⟩
theorem gg_pn (r0 : 0 ≤ r) (r1 : r < e.1 7 2) (h7 : e.1 7 2 ≤ 30) : GG e (pPN r k g e) := by
  have f0 : ∀ a u : Int, (a ≠ 7000 + r ∨ (u ≠ 14 ∧ u ≠ 15)) → (pPN0 r g e).1 a u = e.1 a u := (pn0_cl (p := g) r0 (by omega)).2.2
  have e70 : (pPN0 r g e).1 7 2 = e.1 7 2 := f0 _ _ (by omega)
  have s0 : GG e (pPN0 r g e) := GG.of (fun i i0 i1 => by
    unfold hN0
    rw [e70]
    split
    · exact f0 _ _ (by omega)
    · rfl) fun u _ => f0 _ _ (by omega)
  obtain ⟨s1, e71⟩ := gg_pnl (t := e.1 4 14) r0 (sn (eT e)) (pPN0 r g e) (by omega) (by omega)
  have s2 := GG.put (k := 17) (x := e.1 (9000 + k) 3) (y := 0) (t := e.1 4 14) (o := 0) (e := pPNL r (e.1 4 14) (sn (eT e)) (pPN0 r g e)) r0 (by omega) (by omega)
  have e72 : (pPN2 r k g e).1 7 2 = e.1 7 2 := by
    unfold pPN2
    rw [put_7 r0]
    omega
  have f4 : ∀ a u : Int, a ≠ 16 → a ≠ 7000 + r → (pPN r k g e).1 a u = (pPN2 r k g e).1 a u := fun a u h1 h2 => by
    unfold pPN pPN4
    rw [eM_eq.1 _ _ h1, eS_a h2, eS_a h2]
  have s4 : GG (pPN2 r k g e) (pPN r k g e) := GG.of (fun i i0 i1 => by
    unfold hN0
    rw [f4 _ _ (by omega) (by omega)]
    split
    · exact f4 _ _ (by omega) (by omega)
    · rfl) fun u _ => f4 _ _ (by omega) (by omega)
  exact ((s0.tr s1).tr s2).tr s4
/-- what is a run's own: A arrivals to it, n news since it was cut, X at most, c hundreds copied -/
def PO1 (A c n X : Int → Int) (e : ES) : Prop := e.1 68 1000 = sm (fun i => e.1 68 (3000 + i)) 30 ∧ ∀ r : Int, 0 ≤ r → r < 30 → ((0 ≤ A r ∧ 0 ≤ c r) ∧ 0 ≤ n r ∧ n r ≤ X r) ∧
  (e.1 68 (3000 + r) ≤ A r + X r + 100 * c r ∧ hN0 e r - gF0 e r ≤ A r + n r + 100 * c r) ∧ (r < e.1 7 2 → e.1 (7000 + r) 8 - gF0 e r ≤ A r + 100 * c r) ∧
  (e.1 68 (4000 + r) < hN0 e r → e.1 68 (4000 + r) = 0 ∧ e.1 68 (2000 + r) = 0) ∧ (e.1 7 2 ≤ r → e.1 68 (2000 + r) = 0 ∧ e.1 68 (4000 + r) = 0)
theorem gF0_b (h0 : 0 ≤ hN0 e r) : gF0 e r ≤ hN0 e r := by unfold gF0; split <;> (try split) <;> omega
/-- events are put: A or n grows so much -/
theorem PO1.gg (h : PO1 A c n X e) (g : GG e e') (h7 : e.1 7 2 ≤ e'.1 7 2) (hn0 : ∀ i : Int, 0 ≤ i → 0 ≤ hN0 e i) (h8 : ∀ r : Int, 0 ≤ r → r < e.1 7 2 → e'.1 (7000 + r) 8 ≤ e.1 (7000 + r) 8 + 100 * (c' r - c r)) (h8n : ∀ r : Int, e.1 7 2 ≤ r → r < e'.1 7 2 → e'.1 (7000 + r) 8 ≤ hN0 e' r ∧ hN0 e' r ≤ A' r) (hA : ∀ r : Int, 0 ≤ r → r < 30 → (A r ≤ A' r ∧ n r ≤ n' r ∧ n' r ≤ X' r ∧ X r ≤ X' r ∧ c r ≤ c' r) ∧ A r + n r + (hN0 e' r - hN0 e r) ≤ A' r + n' r) : PO1 A' c' n' X' e' := by
  obtain ⟨g1, g2⟩ := g
  obtain ⟨q1, q2⟩ := h
  refine ⟨by omega, fun r r0 r1 => ?_⟩
  obtain ⟨⟨⟨k1, k2⟩, k3, k4⟩, ⟨k5, k6⟩, k7, k8, k9⟩ := q2 r r0 r1
  obtain ⟨⟨a1, a2, a3, a4, a5⟩, a6⟩ := hA r r0 r1
  have hz := hn0 r r0
  have hF := gF0_b hz
  rcases g2 r r0 r1 with ⟨b1, b2, b3, b4⟩ | ⟨b1, b2, b3, b4⟩
  · have eF : gF0 e' r = gF0 e r := by unfold gF0; rw [b1, b2, b4]
    rw [b1, b2, b3, b4, eF]
    refine ⟨⟨⟨by omega, by omega⟩, by omega, a3⟩, ⟨by omega, by omega⟩, fun r2 => ?_, k8, fun r2 => k9 (by omega)⟩
    by_cases c1 : r < e.1 7 2
    · have := k7 c1
      have := h8 r r0 c1
      omega
    · have u1 := h8n r (by omega) r2
      obtain ⟨z1, z2⟩ := k9 (by omega)
      have z3 : hN0 e r = 0 := if_neg c1
      have z4 : gF0 e r = 0 := by
        unfold gF0
        rw [z1, z2, z3, if_neg (by omega), if_pos (by omega)]
      omega
  · have eF : gF0 e' r = gF0 e r := by
      have w : gF0 e' r = if e'.1 68 (4000 + r) < hN0 e' r then hN0 e' r else if e'.1 68 (2000 + r) ≤ hN0 e' r then e'.1 68 (2000 + r) else hN0 e' r := rfl
      rw [w, b2, b4, if_neg (by omega), if_pos (by omega)]
    rw [eF, b4]
    refine ⟨⟨⟨by omega, by omega⟩, by omega, a3⟩, ⟨?_, by omega⟩, fun r2 => ?_, fun hh => by omega, fun r2 => ?_⟩
    · rw [b3]
      split <;> omega
    · by_cases c1 : r < e.1 7 2
      · have := k7 c1
        have := h8 r r0 c1
        omega
      · have u1 := h8n r (by omega) r2
        obtain ⟨z1, z2⟩ := k9 (by omega)
        have z3 : hN0 e r = 0 := if_neg c1
        have z4 : gF0 e r = 0 := by
          unfold gF0
          rw [z1, z2, z3, if_neg (by omega), if_pos (by omega)]
        omega
    · exfalso
      have z3 : hN0 e' r = 0 := if_neg (by omega)
      omega
/-- histories are cut to what was copied -/
theorem PO1.cut (h : PO1 A c n X e) (hn : ∀ r : Int, 0 ≤ r → r < 30 → (0 ≤ n' r ∧ n' r ≤ n r) ∧ (hN0 e' r = hN0 e r → n' r = n r)) (h7 : e'.1 7 2 = e.1 7 2) (h68 : ∀ u : Int, e'.1 68 u = e.1 68 u) (hn0 : ∀ i : Int, 0 ≤ i → 0 ≤ hN0 e' i) (h8 : ∀ r : Int, 0 ≤ r → r < 30 → e'.1 (7000 + r) 8 = e.1 (7000 + r) 8) (hN : ∀ r : Int, 0 ≤ r → r < 30 → hN0 e' r ≤ hN0 e r ∧ (hN0 e' r = hN0 e r ∨ (r < e.1 7 2 ∧ hN0 e' r = e.1 (7000 + r) 8))) : PO1 A c n' X e' := by
  obtain ⟨q1, q2⟩ := h
  refine ⟨by rw [h68, q1]; exact sm_to fun i i0 _ => (h68 _).symm, fun r r0 r1 => ?_⟩
  obtain ⟨⟨⟨k1, k2⟩, k3, k4⟩, ⟨k5, k6⟩, k7, k8, k9⟩ := q2 r r0 r1
  obtain ⟨m1, m2⟩ := hN r r0 r1
  have hz := hn0 r r0
  obtain ⟨x1, x2⟩ := hn r r0 r1
  have w : gF0 e' r = if e.1 68 (4000 + r) < hN0 e' r then hN0 e' r else if e.1 68 (2000 + r) ≤ hN0 e' r then e.1 68 (2000 + r) else hN0 e' r := by unfold gF0; rw [h68, h68]
  have v : gF0 e r = if e.1 68 (4000 + r) < hN0 e r then hN0 e r else if e.1 68 (2000 + r) ≤ hN0 e r then e.1 68 (2000 + r) else hN0 e r := rfl
  rw [h68, h68, h68, h7, h8 r r0 r1]
  rcases m2 with m2 | ⟨m2, m3⟩
  · have eF : gF0 e' r = gF0 e r := by rw [w, v, m2]
    rw [eF, m2, x2 m2]
    exact ⟨⟨⟨k1, k2⟩, k3, k4⟩, ⟨k5, k6⟩, k7, k8, k9⟩
  · have k7' := k7 m2
    refine ⟨⟨⟨k1, k2⟩, x1.1, by omega⟩, ⟨k5, ?_⟩, fun _ => ?_, fun hh => k8 (by omega), k9⟩
    · rw [w]
      split
      · omega
      · split
        · rename_i c1 c2
          by_cases c3 : e.1 68 (4000 + r) < hN0 e r
          · obtain ⟨z1, z2⟩ := k8 c3
            omega
          · rw [if_neg c3] at v
            split at v <;> omega
        · omega
    · rw [w]
      split
      · omega
      · split
        · rename_i c1 c2
          by_cases c3 : e.1 68 (4000 + r) < hN0 e r
          · obtain ⟨z1, z2⟩ := k8 c3
            omega
          · rw [if_neg c3] at v
            split at v <;> omega
        · omega
/-- a copy is begun -/
theorem PO1.cpy (h : PO1 A c n X e) (h7 : e.1 7 2 ≤ e'.1 7 2) (h68 : ∀ u : Int, e'.1 68 u = e.1 68 u) (hN : ∀ r : Int, 0 ≤ r → r < e.1 7 2 → hN0 e' r = hN0 e r ∧ e'.1 (7000 + r) 8 = e.1 (7000 + r) 8) (hNn : ∀ r : Int, e.1 7 2 ≤ r → 0 ≤ hN0 e' r ∧ (r < e'.1 7 2 → e'.1 (7000 + r) 8 ≤ hN0 e' r)) : PO1 A c n X e' := by
  obtain ⟨q1, q2⟩ := h
  refine ⟨by rw [h68, q1]; exact sm_to fun i i0 _ => (h68 _).symm, fun r r0 r1 => ?_⟩
  obtain ⟨⟨⟨k1, k2⟩, k3, k4⟩, ⟨k5, k6⟩, k7, k8, k9⟩ := q2 r r0 r1
  have w : gF0 e' r = if e.1 68 (4000 + r) < hN0 e' r then hN0 e' r else if e.1 68 (2000 + r) ≤ hN0 e' r then e.1 68 (2000 + r) else hN0 e' r := by unfold gF0; rw [h68, h68]
  rw [h68, h68, h68]
  by_cases c1 : r < e.1 7 2
  · obtain ⟨m1, m2⟩ := hN r r0 c1
    have eF : gF0 e' r = gF0 e r := by rw [w, m1]; rfl
    rw [eF, m1, m2]
    exact ⟨⟨⟨k1, k2⟩, k3, k4⟩, ⟨k5, k6⟩, fun _ => k7 c1, k8, fun hh => by omega⟩
  · obtain ⟨m1, m2⟩ := hNn r (by omega)
    obtain ⟨z1, z2⟩ := k9 (by omega)
    have eF : gF0 e' r = hN0 e' r := by
      rw [w, z1, z2]
      split
      · rfl
      · (try split) <;> omega
    rw [eF]
    exact ⟨⟨⟨k1, k2⟩, k3, k4⟩, ⟨k5, by omega⟩, fun hh => by have := m2 hh; omega, fun _ => ⟨z2, z1⟩, fun _ => ⟨z1, z2⟩⟩
end OWN
