/-! LINKS: the news are put; a run loses events. -/
section LN7
variable {e e' e1 e2 : ES} {W W' : Int → Int → Prop} {X X' : Int → Int → Int → Prop} {S D T S' D' T' : Int} {a b c i j k q r v w N p x y t o ev kd due : Int} {n : Nat} {s : TS} {E : Int → Ev}
theorem HK.up (h : HK S D T W X e) (hs : S ≤ S') (hd : D ≤ D') (ht : T ≤ T') (hb : S' + 2 * D' + 2 * T' ≤ 540) : HK S' D' T' W X e := by
  obtain ⟨⟨c1, c2, c3⟩, h1, h2⟩ := h
  exact ⟨⟨c1, by omega, by omega⟩, fun r r0 r1 => ⟨(h1 r r0 r1).1, (h1 r r0 r1).2.mono hs hd ht⟩, h2⟩
/-- the news and a TASK are put: what is new waits -/
theorem HK.news {L : Nat} (h : HK S D T W noX e) (hW : ∀ q j : Int, ¬ W q j) (hb : S + 2 * (D + 1) + 2 * T ≤ 540) (hc : CN e') (o1 : 0 ≤ e'.1 4 16) (hp : PaR e') (n1 : e'.1 7 2 = e.1 7 2) (r0 : 0 ≤ r) (r1 : r < e.1 7 2) (hN1 : hN e' r = hN e r + L + 1) (hE : ∀ j : Int, 0 ≤ j → j < hN e r → eH e' r j = eH e r j) (hm : ∀ j : Int, hN e r ≤ j → j < hN e r + L → 8 ≤ ek (eH e' r j) ∧ ek (eH e' r j) ≤ 16) (ht : ek (eH e' r (hN e r + L)) = 17) (hh : ∀ q : Int, 0 ≤ q → q < e.1 7 2 → q ≠ r → hN e' q = hN e q ∧ eH e' q = eH e q) (htt : tot e' ≤ S) (hi : HInv (eH e' r) (hN e r + L + 1)) (hct : HCt (eH e' r) (hN e r + L + 1) S (D + 1) T) (hl : ∀ k q v w : Int, Lk noX e' k q v w → Lk noX e k q v w) : HK S (D + 1) T (Wz r (hN e r) (hN e r + L)) noX e' := by
  obtain ⟨⟨-, c4, ct⟩, h1, ⟨h2, h3, h3b⟩, h4, h5⟩ := h
  have hn0 := (h1 r r0 r1).1.1
  refine ⟨⟨⟨hc, o1, hp⟩, by omega, htt⟩, fun q q0 q1 => ?_, ⟨fun q j hw => ?_, fun q j q0 q1 j0 j1 hk hw => ?_, fun q i j hw hij hj hk => ?_⟩, fun k q v w hk => ?_, fun k q v w w' g g' => h5 k q v w w' (hl k q v w g) (hl k q v w' g')⟩
  · rw [n1] at q1
    by_cases c : q = r
    · subst c
      rw [hN1]
      exact ⟨⟨by omega, hi⟩, hct⟩
    · rw [(hh q q0 q1 c).1, (hh q q0 q1 c).2]
      exact ⟨(h1 q q0 q1).1, (h1 q q0 q1).2.mono (Int.le_refl _) (by omega) (Int.le_refl _)⟩
  · obtain ⟨w1, w2, w3⟩ := hw
    subst w1
    rw [n1, hN1]
    exact ⟨⟨r0, r1⟩, by omega, hN e q + L, w3, by omega, ht⟩
  · obtain ⟨w1, w2, w3⟩ := hw
    subst w1
    rw [hN1] at j1
    have hbk := (hi.1 j j0 j1).2.2.2.1 hk
    unfold bkk at hk
    by_cases c1 : j < hN e q
    · omega
    · by_cases c2 : j < hN e q + L
      · have := hm j (by omega) c2
        omega
      · rw [show j = hN e q + L by omega, ht] at hk
        omega
  · obtain ⟨w1, w2, w3⟩ := hw
    subst w1
    rw [hN1] at hj
    refine ⟨rfl, by omega, ?_⟩
    by_cases c : j = hN e q + L
    · rw [c, ht] at hk
      omega
    · omega
  · obtain ⟨g1, g2, g3, g4⟩ := h4 k q v w (hl k q v w hk)
    unfold Ln
    rw [n1]
    by_cases c : q = r
    · subst c
      rw [hN1]
      refine ⟨g1, ⟨g2.1, by omega, by rw [hE v g2.1 g2.2.1]; exact g2.2.2⟩, fun hw => by have := hw.2.1; omega, fun j j0 j1 => ?_⟩
      by_cases c1 : j < hN e q
      · rw [hE j j0 c1]
        exact ⟨(g4 j j0 c1).1, fun h11 hx => absurd ((g4 j j0 c1).2 h11 hx) (hW _ _)⟩
      · by_cases c2 : j < hN e q + L
        · have := hm j (by omega) c2
          exact ⟨fun hb => by unfold bkk at hb; omega, fun _ _ => ⟨rfl, by omega, c2⟩⟩
        · rw [show j = hN e q + L by omega, ht]
          exact ⟨fun hb => by unfold bkk at hb; omega, fun hb => by omega⟩
    · rw [(hh q g1.1 g1.2 c).1, (hh q g1.1 g1.2 c).2]
      exact ⟨g1, g2, fun hw => c hw.1, fun j j0 j1 => ⟨(g4 j j0 j1).1, fun h11 hx => absurd ((g4 j j0 j1).2 h11 hx) (hW _ _)⟩⟩
/-- a run's history is cut -/
theorem HK.cut (h : HK S D T W noX e) (hW : ∀ q j : Int, ¬ W q j) (hc : CN e') (o1 : 0 ≤ e'.1 4 16) (hp : PaR e') (n1 : e'.1 7 2 = e.1 7 2) (r0 : 0 ≤ r) (r1 : r < e.1 7 2) (c0 : 0 ≤ c) (c1 : c ≤ hN e r) (hT1 : HCt (eH e r) (hN e r) S D (T - 1)) (hN1 : hN e' r = c) (hE : eH e' r = eH e r) (hh : ∀ q : Int, 0 ≤ q → q < e.1 7 2 → q ≠ r → hN e' q = hN e q ∧ eH e' q = eH e q) (htt : tot e' ≤ S) (hl : ∀ k q v w : Int, Lk noX e' k q v w → Lk noX e k q v w ∧ (q = r → v < c)) : HK S D T W noX e' := by
  obtain ⟨⟨-, c4, ct⟩, h1, ⟨h2, h3, h3b⟩, h4, h5⟩ := h
  refine ⟨⟨⟨hc, o1, hp⟩, c4, htt⟩, fun q q0 q1 => ?_, ⟨fun q j hw => absurd hw (hW _ _), fun q j q0 q1 j0 j1 hk => hW _ _, fun q i j hw => absurd hw (hW _ _)⟩, fun k q v w hk => ?_, fun k q v w w' g g' => h5 k q v w w' (hl k q v w g).1 (hl k q v w' g').1⟩
  · rw [n1] at q1
    by_cases cq : q = r
    · subst cq
      rw [hN1, hE]
      have h6 := hT1.cut c1
      rw [show T - 1 + 1 = T by omega] at h6
      exact ⟨⟨c0, (h1 q q0 q1).1.2.le c1⟩, h6⟩
    · rw [(hh q q0 q1 cq).1, (hh q q0 q1 cq).2]
      exact h1 q q0 q1
  · obtain ⟨gl, gv⟩ := hl k q v w hk
    obtain ⟨g1, g2, g3, g4⟩ := h4 k q v w gl
    unfold Ln
    rw [n1]
    by_cases cq : q = r
    · subst cq
      rw [hN1, hE]
      exact ⟨g1, ⟨g2.1, gv rfl, g2.2.2⟩, g3, fun j j0 j1 => g4 j j0 (by omega)⟩
    · rw [(hh q g1.1 g1.2 cq).1, (hh q g1.1 g1.2 cq).2]
      exact ⟨g1, g2, g3, g4⟩
theorem loL_row (j0 : 0 ≤ i) : ∀ (n : Nat) (j : Int) (e : ES), 0 ≤ j → j ≤ N → N - j ≤ n → ((eL (pLoL i N n j e) (75000 + i)).length : Int) = ((eL e (75000 + i)).length : Int) + (csg (eH e i) N.toNat - csg (eH e i) j.toNat) := by
  intro n
  induction n with
  | zero =>
    intro j e _ h1 h2
    rw [show j = N by omega]
    show ((eL e (75000 + i)).length : Int) = _
    omega
  | succ n ih =>
    intro j e h0 h1 h2
    unfold pLoL
    by_cases c : j < N
    · rw [if_pos c, ih (j + 1) _ (by omega) (by omega) (by omega)]
      have hH : eH (pLo1 i j e) i = eH e i := congrFun lo1_2.1 i
      have hs1 := csg_s (E := eH e i) j.toNat
      rw [show ((j.toNat : Nat) : Int) = j by omega] at hs1
      rw [hH, show (j + 1).toNat = j.toNat + 1 by omega, hs1]
      have hr : ((eL (pLo1 i j e) (75000 + i)).length : Int) = ((eL e (75000 + i)).length : Int) + if ek (eH e i j) = 4 then 1 else 0 := by
        unfold pLo1
        by_cases c4 : ek (eH e i j) = 4
        · rw [if_pos c4, if_pos c4]
          show ((eL (eLs e (75000 + i) _) (75000 + i)).length : Int) = _
          rw [eLs_e, List.length_append, List.length_singleton]
          omega
        · rw [if_neg c4, if_neg c4]
          omega
      rw [hr]
      omega
    · rw [if_neg c, show j = N by omega]
      omega
/-- what a loss leaves, place by place -/
theorem lose_pt (hc : CN e) (r0 : 0 ≤ r) (r1 : r < e.1 7 2) (h8 : 0 ≤ e.1 (7000 + r) 8 ∧ e.1 (7000 + r) 8 ≤ hN e r) : (∀ a u : Int, a ≠ 3 → a ≠ 71000 + r → (a ≠ 7000 + r ∨ u ≠ 9) → (pLose r e).1 a u = if (8000 ≤ a ∧ a < 8000 + e.1 8 2) ∧ u = 5 ∧ e.1 a 0 = r then 2 else if (7000 ≤ a ∧ a < 7000 + e.1 7 2) ∧ u = 4 ∧ e.1 a 4 = r ∧ e.1 (7000 + r) 8 ≤ e.1 a 5 then -1 else e.1 a u) ∧ (pLose r e).2.1 = e.2.1 ∧ hN (pLose r e) r = e.1 (7000 + r) 8 ∧ (∀ c, c ≠ 75000 + r → eL (pLose r e) c = if c = 73000 + r ∨ c = 74000 + r then [] else eL e c) ∧ ((eL (pLose r e) (75000 + r)).length : Int) = ((eL e (75000 + r)).length : Int) + (csg (eH e r) (hN e r).toNat - csg (eH e r) (e.1 (7000 + r) 8).toNat) := by
  have n7 := hc.1
  have n8 := hc.2.1
  obtain ⟨-, g2, g3, g4⟩ := loL_f (N := hN e r) r0 (by omega) ((hN e r - e.1 (7000 + r) 8).toNat + 1) (e.1 (7000 + r) 8) e
  have ga : ∀ a u : Int, a ≠ 3 → (pLoA r e).1 a u = e.1 a u := g2
  have gl : ∀ c, c ≠ 75000 + r → eL (pLoA r e) c = eL e c := g4
  have gr := loL_row (N := hN e r) r0 ((hN e r - e.1 (7000 + r) 8).toNat + 1) (e.1 (7000 + r) 8) e h8.1 h8.2 (by omega)
  have b1 : ∀ a u : Int, a ≠ 3 → a ≠ 71000 + r → (a ≠ 7000 + r ∨ u ≠ 9) → (pLoB r (pLoA r e)).1 a u = e.1 a u := fun a u h1 h2 h3 => (loB_a h2 h3).trans (ga a u h1)
  have b2 : (pLoB r (pLoA r e)).2 = (pLoA r e).2 := by
    unfold pLoB
    split <;> rfl
  have cb : CN (pLoB r (pLoA r e)) := hc.of fun a ha => b1 _ _ (by omega) (by omega) (by omega)
  obtain ⟨p1, p2⟩ := par_pt (r := r) (fr := e.1 (7000 + r) 8) cb
  have cp := cb.par (r := r) (fr := e.1 (7000 + r) 8)
  obtain ⟨q1, q2, q3, q4⟩ := end_pt (r := r) cp
  have hl2 : ∀ c, eL (pPar r (e.1 (7000 + r) 8) (pLoB r (pLoA r e))) c = eL (pLoA r e) c := fun c => by
    unfold eL
    rw [p2, b2]
  have e82 : (pPar r (e.1 (7000 + r) 8) (pLoB r (pLoA r e))).1 8 2 = e.1 8 2 := by
    rw [p1, if_neg (by omega)]
    exact b1 _ _ (by omega) (by omega) (by omega)
  have e72 : (pLoB r (pLoA r e)).1 7 2 = e.1 7 2 := b1 _ _ (by omega) (by omega) (by omega)
  rw [e82] at q1
  rw [e72] at p1
  refine ⟨fun a u h1 h2 h3 => ?_, ?_, lose_N hc r0 r1 h8, fun c hcc => ?_, ?_⟩
  · show (pEnd r (pPar r (e.1 (7000 + r) 8) (pLoB r (pLoA r e)))).1 a u = _
    rw [q1]
    by_cases ca : (8000 ≤ a ∧ a < 8000 + e.1 8 2) ∧ u = 5 ∧ e.1 a 0 = r
    · have : (pPar r (e.1 (7000 + r) 8) (pLoB r (pLoA r e))).1 a 0 = r := by
        rw [p1, if_neg (by omega), b1 _ _ h1 h2 (by omega)]
        exact ca.2.2
      rw [if_pos ca, if_pos ⟨ca.1, ca.2.1, this⟩]
    · rw [if_neg ca]
      have hn : ¬ ((8000 ≤ a ∧ a < 8000 + e.1 8 2) ∧ u = 5 ∧ (pPar r (e.1 (7000 + r) 8) (pLoB r (pLoA r e))).1 a 0 = r) := fun hh => by
        rw [p1, if_neg (by omega), b1 _ _ h1 h2 (by omega)] at hh
        exact ca hh
      rw [if_neg hn, p1]
      by_cases cc : (7000 ≤ a ∧ a < 7000 + e.1 7 2) ∧ u = 4 ∧ e.1 a 4 = r ∧ e.1 (7000 + r) 8 ≤ e.1 a 5
      · rw [if_pos cc, if_pos (by rw [b1 _ _ h1 h2 (by omega), b1 _ _ h1 h2 (by omega)]; exact cc)]
      · rw [if_neg cc, if_neg (fun hh => cc (by rw [b1 _ _ h1 h2 (by omega), b1 _ _ h1 h2 (by omega)] at hh; exact hh))]
        exact b1 _ _ h1 h2 h3
  · exact lose_h r0 (by omega)
  · show eL (pEnd r (pPar r (e.1 (7000 + r) 8) (pLoB r (pLoA r e)))) c = _
    rw [q4, hl2, gl c hcc]
  · show ((eL (pEnd r (pPar r (e.1 (7000 + r) 8) (pLoB r (pLoA r e)))) (75000 + r)).length : Int) = _
    rw [q4, if_neg (by omega), hl2]
    exact gr
theorem HK.lose (h : HK S D T W noX e) (hW : ∀ q j : Int, ¬ W q j) (r0 : 0 ≤ r) (r1 : r < e.1 7 2) (hd : ¬ Dead e r) (h8 : 0 ≤ e.1 (7000 + r) 8 ∧ e.1 (7000 + r) 8 ≤ hN e r) (hT1 : HCt (eH e r) (hN e r) S D (T - 1)) : HK S D T W noX (pLose r e) ∧ ∀ k q v w : Int, Lk noX (pLose r e) k q v w → Lk noX e k q v w ∧ (q = r → k = 10 ∧ v < e.1 (7000 + r) 8) := by
  have hc := h.cn
  have n7 := hc.1
  have n8 := hc.2.1
  obtain ⟨l1, l2, l3, l4, l5⟩ := lose_pt hc r0 r1 h8
  have pa : ∀ a u : Int, a ≠ 3 → a ≠ 71000 + r → (a ≠ 7000 + r ∨ u ≠ 9) → (a < 8000 ∨ 9000 ≤ a ∨ u ≠ 5) → (a < 7000 ∨ 8000 ≤ a ∨ u ≠ 4) → (pLose r e).1 a u = e.1 a u := fun a u h1 h2 h3 h4 h5 => by
    rw [l1 a u h1 h2 h3, if_neg (by omega), if_neg (by omega)]
  have e7 : (pLose r e).1 7 2 = e.1 7 2 := pa _ _ (by omega) (by omega) (by omega) (by omega) (by omega)
  have e8 : (pLose r e).1 8 2 = e.1 8 2 := pa _ _ (by omega) (by omega) (by omega) (by omega) (by omega)
  have fD : ∀ p : Int, 0 ≤ p → p < e.1 7 2 → (Dead (pLose r e) p ↔ Dead e p) := fun p p0 p1 => Dead.eq (pa _ _ (by omega) (by omega) (by omega) (by omega) (by omega))
  have f4 : ∀ p : Int, 0 ≤ p → p < e.1 7 2 → (pLose r e).1 (7000 + p) 4 = -1 ∨ ((pLose r e).1 (7000 + p) 4 = e.1 (7000 + p) 4 ∧ ¬ (e.1 (7000 + p) 4 = r ∧ e.1 (7000 + r) 8 ≤ e.1 (7000 + p) 5)) := fun p p0 p1 => by
    have := l1 (7000 + p) 4 (by omega) (by omega) (by omega)
    rw [if_neg (by omega)] at this
    by_cases c : (7000 ≤ 7000 + p ∧ 7000 + p < 7000 + e.1 7 2) ∧ (4 : Int) = 4 ∧ e.1 (7000 + p) 4 = r ∧ e.1 (7000 + r) 8 ≤ e.1 (7000 + p) 5
    · rw [if_pos c] at this
      exact Or.inl this
    · rw [if_neg c] at this
      exact Or.inr ⟨this, fun hh => c ⟨by omega, rfl, hh⟩⟩
  have hlk : ∀ k q v w : Int, Lk noX (pLose r e) k q v w → Lk noX e k q v w ∧ (q = r → k = 10 ∧ v < e.1 (7000 + r) 8) := fun k q v w g => by
    rcases g with ⟨-, g⟩ | ⟨g1, g2, g3, g4, g5⟩ | ⟨g1, g2, g3, g4⟩ | ⟨g1, ⟨g2, g3⟩, ⟨g4, g5⟩, g6, g7⟩
    · exact g.elim
    · rw [e8] at g2
      rw [pa _ _ (by omega) (by omega) (by omega) (by omega) (by omega)] at g4 g5
      rw [l1 _ _ (by omega) (by omega) (by omega)] at g3
      have hq : q ≠ r := fun hq => by
        rw [if_pos ⟨by omega, rfl, by omega⟩] at g3
        exact g3 rfl
      rw [if_neg (by omega), if_neg (by omega)] at g3
      exact ⟨Or.inr (Or.inl ⟨g1, g2, g3, g4, g5⟩), fun hh => absurd hh hq⟩
    · rw [e7] at g3
      rw [l4 _ (by omega)] at g4
      by_cases hq : q = r
      · rw [if_pos (by omega)] at g4
        exact absurd g4 List.not_mem_nil
      · rw [if_neg (by omega)] at g4
        exact ⟨Or.inr (Or.inr (Or.inl ⟨g1, g2, g3, g4⟩)), fun hh => absurd hh hq⟩
    · rw [e7] at g2 g3
      rw [pa _ 5 (by omega) (by omega) (by omega) (by omega) (by omega)] at g7
      rcases f4 w g2.1 g2.2 with hh | ⟨hh, hx⟩
      · omega
      · rw [hh] at g6
        refine ⟨Or.inr (Or.inr (Or.inr ⟨g1, ⟨g2, g3⟩, ⟨fun d => g4 ((fD w g2.1 g2.2).mpr d), fun d => g5 ((fD q g3.1 g3.2).mpr d)⟩, g6, g7⟩)), fun hq => ⟨g1, ?_⟩⟩
        by_cases cv : v < e.1 (7000 + r) 8
        · exact cv
        · exact absurd ⟨by omega, by omega⟩ hx
  have hH : ∀ q : Int, eH (pLose r e) q = eH e q := fun q => congrFun l2 q
  refine ⟨h.cut (c := e.1 (7000 + r) 8) hW (lose_cn hc r0 r1) (by rw [pa _ _ (by omega) (by omega) (by omega) (by omega) (by omega)]; exact h.1.1.2.1) (fun p p0 p1 => ?_) e7 r0 r1 h8.1 h8.2 hT1 l3 (hH r) (fun q q0 q1 hq => ⟨pa _ _ (by omega) (by omega) (by omega) (by omega) (by omega), hH q⟩) ?_ fun k q v w g => ⟨(hlk k q v w g).1, fun hq => ((hlk k q v w g).2 hq).2⟩, hlk⟩
  · rw [e7] at p1 ⊢
    have := h.pr p p0 p1
    rcases f4 p p0 p1 with hh | ⟨hh, -⟩ <;> omega
  · refine Int.le_trans (Int.le_of_eq (sm_to fun i i0 i1 => ?_)) h.1.2.2
    unfold totF
    rw [e7]
    by_cases ci : i < e.1 7 2
    · rw [if_pos ci, if_pos ci, pa (7000 + i) 6 (by omega) (by omega) (by omega) (by omega) (by omega)]
      by_cases cr : i = r
      · subst cr
        rw [if_pos (al_nd.mpr hd), if_pos (al_nd.mpr hd), l5]
        unfold csr
        rw [l3, hH]
        omega
      · have hNi : hN (pLose r e) i = hN e i := pa _ _ (by omega) (by omega) (by omega) (by omega) (by omega)
        unfold csr
        rw [hNi, hH, l4 _ (by omega), if_neg (show ¬ (75000 + i = 73000 + r ∨ 75000 + i = 74000 + r) by omega)]
    · rw [if_neg ci, if_neg ci]
end LN7
