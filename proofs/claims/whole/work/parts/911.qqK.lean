/-! HOW MUCH IS PUT by a complete, news and TASK with it. -/
section QQK
variable {e e' e1 e2 e3 : ES} {S D T a b c i j k g q r v w N M p x y t o p1 u : Int} {L : List (Int × Int × Int)}
theorem put_3q (r0 : 0 ≤ r) : (pPut r k x y t o e).1 3 u = if u = 0 then e.1 3 0 + 1 else e.1 3 u := by
  unfold pPut
  show (eS (eS (pOrd r k e) (76000 + r) _ _) (71000 + r) 1 _).1 3 u = _
  rw [eS_a (by omega), eS_a (by omega)]
  unfold pOrd
  rw [gh_a (by decide)]
  unfold pOrd0
  rw [es_pt]
  by_cases c : u = 0
  · rw [if_pos ⟨rfl, c⟩, if_pos c]
  · rw [if_neg (fun h => c h.2), if_neg c]
    split
    · rw [eS_a (by decide), eS_a (by decide)]
    · rfl
theorem pnl_3 (r0 : 0 ≤ r) : ∀ (L : List (Int × Int × Int)) (e : ES), (pPNL r t L e).1 3 0 = e.1 3 0 + L.length ∧ (pPNL r t L e).1 3 1 = e.1 3 1 := by
  intro L
  induction L with
  | nil => intro e; exact ⟨by show e.1 3 0 = e.1 3 0 + ((0 : Nat) : Int); omega, rfl⟩
  | cons z L ih =>
    intro e
    obtain ⟨h1, h2⟩ := ih (pPut r z.1 z.2.1 z.2.2 t 0 e)
    rw [put_3q r0, if_pos rfl] at h1
    rw [put_3q r0, if_neg (by decide)] at h2
    rw [List.length_cons]
    exact ⟨by show (pPNL r t L (pPut r z.1 z.2.1 z.2.2 t 0 e)).1 3 0 = _; omega, h2⟩
theorem pn_3 (r0 : 0 ≤ r) : (pPN r k g e).1 3 0 = e.1 3 0 + (sn (eT e)).length + 1 ∧ (pPN r k g e).1 3 1 = e.1 3 1 := by
  have h0 : ∀ u : Int, (pPN0 r g e).1 3 u = e.1 3 u := fun u => by
    unfold pPN0
    split
    · rw [eS_a (by omega), eS_a (by omega)]
    · rfl
  have h4 : ∀ u : Int, (pPN r k g e).1 3 u = (pPN2 r k g e).1 3 u := fun u => by
    unfold pPN pPN4
    rw [eM_eq.1 _ _ (by decide), eS_a (by omega), eS_a (by omega)]
  obtain ⟨h1, h2⟩ := pnl_3 (t := e.1 4 14) r0 (sn (eT e)) (pPN0 r g e)
  rw [h4, h4]
  unfold pPN2
  rw [put_3q r0, if_pos rfl, put_3q r0, if_neg (by decide), h1, h2, h0, h0]
  exact ⟨rfl, rfl⟩
/-- commands and TASKs are nobody's turn -/
theorem put_68q (r0 : 0 ≤ r) (hk : 7 < k) (hu : u = 29 ∨ u = 30) : (pPut r k x y t o e).1 68 u = e.1 68 u := by
  unfold pPut
  show (eS (eS (pOrd r k e) (76000 + r) _ _) (71000 + r) 1 _).1 68 u = _
  rw [eS_a (by omega), eS_a (by omega)]
  unfold pOrd pGh
  rw [es_pt, if_neg (by omega), es_pt, if_neg (by omega), es_pt, if_neg (by omega), es_pt, if_neg (by omega)]
  unfold pOrd0
  rw [eS_a (by decide), if_neg (by omega)]
theorem pnl_68 (r0 : 0 ≤ r) (hu : u = 29 ∨ u = 30) : ∀ (L : List (Int × Int × Int)) (e : ES), (∀ z ∈ L, 7 < z.1) → (pPNL r t L e).1 68 u = e.1 68 u := by
  intro L
  induction L with
  | nil => intro e _; rfl
  | cons z L ih =>
    intro e h
    have h1 := ih (pPut r z.1 z.2.1 z.2.2 t 0 e) fun z' hz => h z' (List.mem_cons_of_mem _ hz)
    rw [put_68q r0 (h z (List.mem_cons_self ..)) hu] at h1
    exact h1
theorem pn_68 (r0 : 0 ≤ r) (hu : u = 29 ∨ u = 30) (h : ∀ z ∈ sn (eT e), 7 < z.1) : (pPN r k g e).1 68 u = e.1 68 u := by
  have h0 : (pPN0 r g e).1 68 u = e.1 68 u := by
    unfold pPN0
    split
    · rw [eS_a (by omega), eS_a (by omega)]
    · rfl
  have h4 : (pPN r k g e).1 68 u = (pPN2 r k g e).1 68 u := by
    unfold pPN pPN4
    rw [eM_eq.1 _ _ (by decide), eS_a (by omega), eS_a (by omega)]
  rw [h4]
  unfold pPN2
  rw [put_68q r0 (by decide) hu, pnl_68 r0 hu _ _ h, h0]
theorem cs_gap {E : Int → Ev} (n : Nat) : ∀ d : Nat, (∀ j : Int, (n : Int) ≤ j → j < n + d → ek (E j) ≠ 7 ∧ ek (E j) ≠ 4) → ccn E (n + d) = ccn E n ∧ csg E (n + d) = csg E n := by
  intro d
  induction d with
  | zero => intro _; exact ⟨rfl, rfl⟩
  | succ d ih =>
    intro h
    obtain ⟨h1, h2⟩ := ih fun j j0 j1 => h j j0 (by omega)
    obtain ⟨g1, g2⟩ := h ((n + d : Nat) : Int) (by omega) (by omega)
    refine ⟨?_, ?_⟩
    · show ccn E (n + d) + (if ek (E ((n + d : Nat) : Int)) = 7 then 1 else 0) = _
      rw [if_neg g1, h1]; omega
    · show csg E (n + d) + (if ek (E ((n + d : Nat) : Int)) = 4 then 1 else 0) = _
      rw [if_neg g2, h2]; omega
/-- how many signals the AGAIN of a complete puts again -/
def aQ (p1 : Int) (e : ES) : Int := Qn (cTd p1 e) + (csr e (e.1 (9000 + p1) 1) - csg (eH e (e.1 (9000 + p1) 1)) (sg (cTd p1 e) 0 11).toNat)
theorem qc_comp (h : HH S D T e) (hw : WX e) (ht : 0 ≤ e.1 4 14 ∧ e.1 4 14 < 1000000) (hb2 : S + 2 * (D + 1) + 2 * T ≤ 540) (c0 : 0 ≤ p1 ∧ p1 < e.1 9 2) (hr : e.1 (9000 + p1) 1 = r) (c1 : e.1 (9000 + p1) 5 = 0 ∧ e.1 (7000 + r) 6 = 0 ∧ pMark e r = e.1 (9000 + p1) 4) : (0 ≤ r ∧ r < e.1 7 2) ∧ ∃ Q QB, CmB p1 e Q QB ∧
    (sg (sBeh (pCmpX p1 e) (pCmpS p1 e)) 0 30 = 0 → e.1 7 2 ≤ (pcComplete p1 e).2.1 7 2 ∧ (pcComplete p1 e).2.1 3 0 - (pcComplete p1 e).2.1 4 16 = e.1 3 0 - e.1 4 16 + (((sn (cTd p1 e)).length : Int) + 1) ∧ (pcComplete p1 e).2.1 68 29 ≤ e.1 68 29 + 1 + 2 * ((pcComplete p1 e).2.1 4 16 - e.1 4 16 - (hN0 (pcComplete p1 e).2 r - hN0 e r - (((sn (cTd p1 e)).length : Int) + 1))) ∧ (e.1 4 16 ≤ (pcComplete p1 e).2.1 4 16 ∧ e.1 68 29 ≤ (pcComplete p1 e).2.1 68 29 ∧ (pcComplete p1 e).2.1 68 29 - e.1 68 29 ≤ (pcComplete p1 e).2.1 4 16 - e.1 4 16) ∧ (0 ≤ aQ p1 e ∧ (pcComplete p1 e).2.1 4 11 = e.1 4 11 + ntg (sn (cTd p1 e))) ∧ ∃ c, (c = 0 ∨ (c = aQ p1 e ∧ e.1 7 2 + 1 ≤ (pcComplete p1 e).2.1 7 2)) ∧ QQ r (opL (sn (cTd p1 e)) + 2 * ((pcComplete p1 e).2.1 7 2 - e.1 7 2) + c) (3 * ((pcComplete p1 e).2.1 7 2 - e.1 7 2) + c - (((sn (cTd p1 e)).length : Int) + 1)) c (opL (sn (cTd p1 e))) e (pcComplete p1 e).2) ∧
    (¬ sg (sBeh (pCmpX p1 e) (pCmpS p1 e)) 0 30 = 0 → (∀ a u : Int, a ≠ 16 → a ≠ 11 → (a ≠ 9000 + p1 ∨ u ≠ 5) → (a ≠ 7000 + r ∨ (u ≠ 6 ∧ u ≠ 7)) → (pcComplete p1 e).2.1 a u = e.1 a u) ∧ (∀ j : Int, eH (pcComplete p1 e).2 j = eH e j) ∧ (∀ c : Int, eL (pcComplete p1 e).2 c = eL e c) ∧ QQ r 0 0 0 0 e (pcComplete p1 e).2) := by
  obtain ⟨⟨r0, r1⟩, Q, QB, hB, k1, k2⟩ := cmp_two h hw ht hb2 c0 hr c1
  have hs := c1.2.1
  have hB' := hB
  have hc := h.cn
  have n7 := hc.1
  have n8 := hc.2.1
  have n9 := hc.2.2.1
  obtain ⟨h1, h2, kO, -⟩ := h
  refine ⟨⟨r0, r1⟩, Q, QB, hB', fun hbe => ?_, fun hbe => ?_⟩
  · obtain ⟨q1, q2, q3, q4⟩ := k1 hbe
    obtain ⟨s1, s2, s3, s4, s5, s6⟩ := cmp_S hB' hbe
    obtain ⟨f1, f2, f3, f4, f5⟩ := e0_f (k := p1) (e := e) s1
    obtain ⟨⟨a1, a2⟩, ⟨a3, a4⟩, a5, -, a7, a8, a9, a10⟩ := cmp_pn h1 h2 kO hB' c0.1 c0.2 hr.symm r0 r1 hs ht hb2 hbe
    have hgr := cmp_fr (e' := pPN r p1 (cG p1 e) (cE0 p1 e)) h1 hB' c0.1 c0.2 hr.symm r0 r1 hbe rfl
    obtain ⟨t1, t2⟩ := pn_3 (r := r) (k := p1) (g := cG p1 e) (e := cE0 p1 e) r0
    have t3 := pn_68 (r := r) (k := p1) (g := cG p1 e) (e := cE0 p1 e) (u := 29) r0 (Or.inl rfl)
    rw [f4, s4, f1 68 29 (by omega) (by omega) (by omega)] at t3
    rw [f4, s4, f1 3 0 (by omega) (by omega) (by omega)] at t1
    rw [f1 3 1 (by omega) (by omega) (by omega)] at t2
    rw [s4] at a1 a5
    obtain ⟨g1, g2, g3, ⟨g4, g5, g6, g7, g8⟩, -⟩ := hgr
    rw [q1]
    have hlen := h1.1.len r0 r1
    have wQ : Qn (eT (pPN r p1 (cG p1 e) (cE0 p1 e))) = Qn (cTd p1 e) := by
      have w : Qn (eT (pPN r p1 (cG p1 e) (cE0 p1 e))) = Qn (sBeh (pCmpX p1 e) (pCmpS p1 e)) := rfl
      rw [w, s1]
      unfold Qn
      rw [s5, s5, s5, s5]
    have wP : sg (eT (pPN r p1 (cG p1 e) (cE0 p1 e))) 0 11 = sg (cTd p1 e) 0 11 := by
      have w : sg (eT (pPN r p1 (cG p1 e) (cE0 p1 e))) 0 11 = sg (sBeh (pCmpX p1 e) (pCmpS p1 e)) 0 11 := rfl
      rw [w, s1]
      exact s6 0 11 (by omega)
    rw [wP] at a8
    generalize hG : pPN r p1 (cG p1 e) (cE0 p1 e) = e3 at *
    have e7 : e3.1 7 2 = e.1 7 2 := g1 _ _ (by omega) (by omega) (by omega) (by omega) (by omega) (by omega) (by omega) (by omega)
    have e8 : e3.1 8 2 = e.1 8 2 := g1 _ _ (by omega) (by omega) (by omega) (by omega) (by omega) (by omega) (by omega) (by omega)
    have e16 : e3.1 4 16 = e.1 4 16 := g1 _ _ (by omega) (by omega) (by omega) (by omega) (by omega) (by omega) (by omega) (by omega)
    have f6 : ∀ i : Int, 0 ≤ i → i < 30 → e3.1 (7000 + i) 6 = e.1 (7000 + i) 6 := fun i i0 i1 => g1 _ _ (by omega) (by omega) (by omega) (by omega) (by omega) (by omega) (by omega) (by omega)
    have ht3 : 0 ≤ e3.1 4 14 ∧ e3.1 4 14 < 1000000 := by
      rw [g1 _ _ (by omega) (by omega) (by omega) (by omega) (by omega) (by omega) (by omega) (by omega)]
      exact ht
    have kd : ∀ j : Int, hN e r ≤ j → j < hN e3 r → ek (eH e3 r j) ≠ 7 ∧ ek (eH e3 r j) ≠ 4 := fun j j0 j1 => by
      by_cases cj : j = hN e r + (sn (cTd p1 e)).length
      · rw [cj, g7]
        exact ⟨by decide, by decide⟩
      · have hlt' : (j - hN e r).toNat < (sn (cTd p1 e)).length := by omega
        obtain ⟨⟨⟨w0, -⟩, -⟩, w1, -, -⟩ := g6 _ _ (List.getElem?_eq_getElem hlt')
        rw [show hN e r + (((j - hN e r).toNat : Nat) : Int) = j by omega] at w1
        omega
    have hcs : ccr e3 r = ccr e r ∧ csr e3 r = csr e r := by
      have u1 := cs_gap (E := eH e3 r) (hN e r).toNat ((hN e3 r).toNat - (hN e r).toNat) fun j j0 j1 => kd j (by omega) (by omega)
      rw [show (hN e r).toNat + ((hN e3 r).toNat - (hN e r).toNat) = (hN e3 r).toNat by omega] at u1
      have u2 := cts_to (E := eH e r) (E' := eH e3 r) (hN e r).toNat fun i i0 i1 => g5 i i0 (by omega)
      exact ⟨u1.1.trans u2.2.2.2.2.2, u1.2.trans u2.1⟩
    have fr : QQ r 0 (hN0 e r - hN0 e3 r) 0 0 e e3 := QQ.fr2 e7 e8 e16 t2 (fun i i0 i1 => f6 i i0 (by omega)) (fun p p0 p1 => g1 _ _ (by omega) (by omega) (by omega) (by omega) (by omega) (by omega) (by omega) (by omega)) (fun i _ _ => g2 _) (fun i i0 i1 => by
      by_cases ci : i = r
      · rw [ci]; exact hcs
      · obtain ⟨v1, v2⟩ := g3 i i0 i1 ci
        unfold ccr csr
        rw [v1, v2]
        exact ⟨rfl, rfl⟩)
    have v1 : hN0 e r = hN e r := if_pos r1
    have v2 : hN0 e3 r = hN e3 r := if_pos (by omega)
    have t5 := t3 fun z hz => by
      obtain ⟨i, hi⟩ := List.getElem?_of_mem hz
      have := (g6 i z hi).1.1.1
      omega
    have hO := q4.2.2.2.2.2.2.2.2.1.2 r r0 (by omega)
    unfold OQ at hO
    have b2 : (if e3.1 68 30 = r then (0 : Int) else 1) ≤ 1 := by split <;> decide
    have hpos := csg_m (E := eH e r) ((hN e r).toNat - (sg (cTd p1 e) 0 11).toNat) (sg (cTd p1 e) 0 11).toNat
    rw [show (sg (cTd p1 e) 0 11).toNat + ((hN e r).toNat - (sg (cTd p1 e) 0 11).toNat) = (hN e r).toNat by omega] at hpos
    have hQ0 : 0 ≤ Qn (cTd p1 e) := by unfold Qn; omega
    have haQ : aQ p1 e = Qn (cTd p1 e) + (csr e r - csg (eH e r) (sg (cTd p1 e) 0 11).toNat) := by unfold aQ; rw [hr]
    have hcsr : csr e r = csg (eH e r) (hN e r).toNat := rfl
    have haP : aP e3 r = aQ p1 e := by
      have u2 := (cts_to (E := eH e r) (E' := eH e3 r) (sg (cTd p1 e) 0 11).toNat fun i i0 i1 => g5 i i0 (by omega)).1
      have u3 : csg (eH e3 r) (hN e3 r).toNat = csr e r := hcs.2
      unfold aP
      rw [wQ, wP, u2, u3, haQ]
    obtain ⟨⟨z1, z4⟩, c, z2, z3⟩ := qq_carL2 (P := aQ p1 e) r0 (by omega) (sn (cTd p1 e)).length (hN e r) e3 a1 a2 a3 ht3 (fun _ => ⟨by rw [e7]; exact r1, (f6 r r0 (by omega)).trans hs, hlen.1, by omega⟩) a5 (fun j j0 j1 => by
      rw [show j = hN e r + (sn (cTd p1 e)).length by omega]
      exact Or.inr g7) fun _ => ⟨a7, by rw [wP]; exact a8, a9, Int.le_of_eq haP⟩
    rw [opL_R (sn (cTd p1 e)) (hN e r) fun m z hz => (g6 m z hz).2.1] at z3
    rw [ntg_R (sn (cTd p1 e)) (hN e r) fun m z hz => (g6 m z hz).2.1] at z4
    have e11 : e3.1 4 11 = e.1 4 11 := g1 _ _ (by omega) (by omega) (by omega) (by omega) (by omega) (by omega) (by omega) (by omega)
    have hgx := q4.2.2.2.2.2.2.2.1
    rw [e7] at z1 z2 z3
    have b1 : (0 : Int) ≤ (if (pCarL r (sn (cTd p1 e)).length (hN e r) e3).1 68 30 = r then (0 : Int) else 1) := by split <;> decide
    refine ⟨z1, by omega, by omega, ⟨by omega, by omega, by omega⟩, ⟨by omega, by rw [z4, e11]⟩, c, z2, (fr.tr z3).mono (by omega) (by omega) (by omega) (by omega)⟩
  · have hE := k2 hbe
    obtain ⟨z1, z2, z3, z4⟩ := e0_g (k := p1) (e := e)
    rw [hE]
    have pa : ∀ a u : Int, a ≠ 16 → a ≠ 11 → (a ≠ 9000 + p1 ∨ u ≠ 5) → (a ≠ 7000 + r ∨ (u ≠ 6 ∧ u ≠ 7)) → (eS (eS (cE0 p1 e) (7000 + r) 6 6) (7000 + r) 7 (sg (sBeh (pCmpX p1 e) (pCmpS p1 e)) 0 31)).1 a u = e.1 a u := fun a u h1 h2 h3 h4 => by
      rw [es_pt, if_neg (by omega), es_pt, if_neg (by omega)]
      exact z1 _ _ h1 h2 h3
    refine ⟨pa, z2, z3, ?_⟩
    exact QQ.fr r0 (pa _ _ (by omega) (by omega) (by omega) (by omega)) (pa _ _ (by omega) (by omega) (by omega) (by omega)) (pa _ _ (by omega) (by omega) (by omega) (by omega)) (pa _ _ (by omega) (by omega) (by omega) (by omega)) (fun i i0 i1 => by
      by_cases ci : i = r
      · rw [ci]; exact Or.inr (Or.inl hs)
      · exact Or.inl (pa _ _ (by omega) (by omega) (by omega) (by omega))) (fun p p0 p1' => Or.inl (pa _ _ (by omega) (by omega) (by omega) (by omega))) (fun i i0 i1 => by
      have := z3 (73000 + i)
      show (eL (cE0 p1 e) (73000 + i)).length ≤ _
      rw [this]
      exact Nat.le_refl _) fun i i0 i1 => ⟨pa _ _ (by omega) (by omega) (by omega) (by omega), z2 i⟩
end QQK
