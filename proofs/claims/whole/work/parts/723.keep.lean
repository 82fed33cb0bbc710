/-! THE ENGINE: what a new command leaves as it was. -/
section KEP
variable {m m' M2 m0 : MM} {ow ow' : Int → Int} {ad ad' ad1 : Int → Int → Int} {e e' e1 e2 : ES} {D : Int → Prop} {a b c i j k o r v w n h N B t y z p q lim c2 c3 : Int} {x : CX} {l : List Int} {E : Int → Ev} {s : TS} {f : Int → Int}
/-- what stays for a run whose new commands are carried out -/
def KpL (r : Int) (e e' : ES) : Prop := MO e e' ∧ ((e.1 7 2 ≤ e'.1 7 2 ∧ e.1 8 2 ≤ e'.1 8 2) ∧ ∀ c i : Int, LvA e c i → LvA e' c i) ∧ eT e' = eT e ∧ (TmO e r → TmO e' r) ∧ (¬ Dead e r → ¬ Dead e' r) ∧ (TyO e → TyO e') ∧ (hN e r ≤ hN e' r ∧ ∀ i : Int, i < hN e r → eH e' r i = eH e r i) ∧ (e.1 4 11 ≤ e'.1 4 11 ∧ e'.1 4 11 ≤ e.1 4 11 + 1) ∧ e'.1 4 14 = e.1 4 14
theorem KpL.rf : KpL r e e := ⟨MO.rf, ⟨⟨Int.le_refl _, Int.le_refl _⟩, fun _ _ h => h⟩, rfl, id, id, id, ⟨Int.le_refl _, fun _ _ => rfl⟩, ⟨Int.le_refl _, by omega⟩, rfl⟩
/-- a change that is told in its parts -/
theorem KpL.of (hc : ∀ a : Int, (a = 9 ∨ a = 10 ∨ (49 ≤ a ∧ a ≤ 61)) → e'.1 a 2 = e.1 a 2) (h1 : MO e e') (h2 : e.1 7 2 ≤ e'.1 7 2 ∧ e.1 8 2 ≤ e'.1 8 2) (h3 : eT e' = eT e) (h4 : ∀ c, (c = 73000 + r ∨ c = 74000 + r) → eL e' c = eL e c) (h5 : e'.1 (7000 + r) 6 = e.1 (7000 + r) 6) (h6 : TyO e → TyO e') (h7 : hN e r ≤ hN e' r ∧ ∀ i : Int, i < hN e r → eH e' r i = eH e r i) (h8 : e'.1 4 11 = e.1 4 11) (h9 : e'.1 4 14 = e.1 4 14) : KpL r e e' := by
  refine ⟨h1, ⟨h2, fun c i hv => hv.mono h2.1 h2.2 (by rw [hc 9 (by omega)]; omega) (by rw [hc 10 (by omega)]; omega) (fun t ht => by have := isT_b ht; rw [hc (t + 1) (by omega)]; omega)⟩, h3, fun g => ?_, fun g => ?_, h6, h7, ⟨by omega, by omega⟩, h9⟩
  · unfold TmO at g ⊢
    rw [h4 _ (Or.inl rfl), h4 _ (Or.inr rfl)]
    exact g
  · unfold Dead at g ⊢
    rw [h5]
    exact g
theorem arr_hN (i0 : 0 ≤ i) (j0 : 0 ≤ j) (j1 : j < 1000) : hN e j ≤ hN (pArr i k p q e) j ∧ ∀ u : Int, u < hN e j → eH (pArr i k p q e) j u = eH e j u := by
  by_cases c : j = i
  · subst c
    refine ⟨by rw [arr_N i0]; omega, fun u hu => ?_⟩
    show (if j = j then Ev1 (eH (pOrd j k e) j) ((pOrd j k e).1 (71000 + j) 1) _ else _) u = _
    rw [if_pos rfl]
    unfold hN at hu
    rw [ord_7 (by omega) (by omega)]
    unfold Ev1
    rw [if_neg (by omega)]
    show (pOrd j k e).2.1 j u = e.2.1 j u
    rw [ord_2]
  · refine ⟨?_, fun u _ => by rw [arr_h c]⟩
    unfold hN
    rw [arr_a (by omega) (by omega) (by omega) (by omega) (by omega)]
    omega
theorem TyO.arr (h : TyO e) (i0 : 0 ≤ i) (i1 : i < 1000) (h7 : e.1 7 2 ≤ 1000) : TyO (pArr i k p q e) := h.sf (arr_cl i0 i1 h7).2
theorem arr_kp (i0 : 0 ≤ i) (i1 : i < 1000) (r0 : 0 ≤ r) (r1 : r < 1000) (h7 : e.1 7 2 ≤ 1000) : KpL r e (pArr i k p q e) := by
  have ha : ∀ a u : Int, a < 71000 → a ≠ 68 → a ≠ 3 → (a ≠ 4 ∨ u ≠ 16) → (pArr i k p q e).1 a u = e.1 a u := fun a u h1 h2 h3 h4 => arr_a h2 h3 (by omega) (by omega) h4
  exact KpL.of (fun a h => ha _ _ (by omega) (by omega) (by omega) (by omega)) (arr_mo i0 i1) ⟨by rw [ha _ _ (by decide) (by decide) (by decide) (by decide)]; omega, by rw [ha _ _ (by decide) (by decide) (by decide) (by decide)]; omega⟩ arr_T (fun c _ => arr_l) (ha _ _ (by omega) (by omega) (by omega) (by omega)) (fun h => h.arr i0 i1 h7) (arr_hN i0 r0 r1) (ha _ _ (by decide) (by decide) (by decide) (by decide)) (ha _ _ (by decide) (by decide) (by decide) (by decide))
theorem makA_kp (i0 : 0 ≤ r) (i1 : r < 1000) (h7 : e.1 7 2 ≤ 1000) (h8 : 0 ≤ e.1 8 2) : KpL r e (pMakA r o k q e) := by
  unfold pMakA
  split
  · rename_i c
    have ha : ∀ (f : Int → Int) (a u : Int), (a ≠ 8 ∧ (a < 8000 ∨ 71000 ≤ a)) → (pNew 8 f e).1 a u = e.1 a u := fun f a u h => pNew_a (by omega) (by omega)
    refine KpL.of (fun a h => ha _ _ _ (by omega)) (new_mo (by decide) (by decide) h8 (by omega)) ⟨by rw [ha _ _ _ (by omega)]; omega, by rw [pNew_n]; omega⟩ rfl (fun c _ => rfl) (ha _ _ _ (by omega)) (fun h i j0 j1 => ?_) ⟨?_, fun _ _ => rfl⟩ (ha _ _ _ (by omega)) (ha _ _ _ (by omega))
    · rw [ha _ _ _ (by omega)] at j1
      rw [ha _ _ _ (by omega), ha _ _ _ (by omega)]
      exact h i j0 j1
    · unfold hN
      rw [ha _ _ _ (by omega)]
      omega
  · exact arr_kp i0 i1 i0 i1 h7
theorem addT_kp (i0 : 0 ≤ r) (i1 : r < 1000) (hm : TmO e r) (o0 : 0 ≤ o) (o1 : o < 524288) : KpL r e (pAddT r o v e) := by
  have ha : ∀ a u : Int, a ≠ 3 → (pAddT r o v e).1 a u = e.1 a u := fun a u h => addT_1 h
  have l3 : eL (pAddT r o v e) (73000 + r) = eL e (73000 + r) ++ [o] := by
    unfold pAddT
    rw [eLs_a (by omega)]
    exact (eLs_e : eL (eLs e (73000 + r) (eL e (73000 + r) ++ [o])) (73000 + r) = _)
  have l4 : eL (pAddT r o v e) (74000 + r) = eL e (74000 + r) ++ [v] := eLs_e
  refine ⟨addT_mo hm.1 i0 i1, ⟨⟨by rw [ha _ _ (by decide)]; omega, by rw [ha _ _ (by decide)]; omega⟩, fun c i hv => hv.mono (by rw [ha _ _ (by decide)]; omega) (by rw [ha _ _ (by decide)]; omega) (by rw [ha _ _ (by decide)]; omega) (by rw [ha _ _ (by decide)]; omega) (fun t ht => by have := isT_b ht; rw [ha _ _ (by omega)]; omega)⟩, rfl, fun g => ?_, fun g => ?_, fun h i j0 j1 => ?_, ⟨?_, fun _ _ => rfl⟩, ⟨by rw [ha _ _ (by decide)]; omega, by rw [ha _ _ (by decide)]; omega⟩, ha _ _ (by decide)⟩
  · unfold TmO
    rw [l3, l4, List.length_append, List.length_append, g.1]
    refine ⟨rfl, fun u hu => ?_⟩
    rcases List.mem_append.mp hu with hh | hh
    · exact g.2 u hh
    · rw [List.mem_singleton.mp hh]
      exact ⟨o0, o1⟩
  · unfold Dead at g ⊢
    rw [ha _ _ (by omega)]
    exact g
  · rw [ha _ _ (by decide)] at j1
    rw [ha _ _ (by omega), ha _ _ (by omega)]
    exact h i j0 j1
  · unfold hN
    rw [ha _ _ (by omega)]
    omega
theorem start_l (h1 : c ≠ 73000 + e.1 7 2) (h2 : c ≠ 74000 + e.1 7 2) (h3 : c ≠ 75000 + e.1 7 2) : eL (pStart t n v p o e) c = eL e c := by
  unfold pStart
  rw [arr_l]
  exact pNewRun_l h1 h2 h3
theorem start_h (h : j ≠ e.1 7 2) : eH (pStart t n v p o e) j = eH e j := by
  unfold pStart
  rw [arr_h h]
  rfl
theorem chi_kp (i0 : 0 ≤ r) (i1 : r < e.1 7 2) (h7 : e.1 7 2 ≤ 30) (t0 : 0 ≤ t) (t1 : t < 4) (o0 : 0 ≤ o) (o1 : o < 524288) : KpL r e (pChi r o t q e) := by
  unfold pChi
  split
  · rename_i c
    have n0 : 0 ≤ e.1 7 2 := by omega
    have ha : ∀ a u : Int, (a = 4 → u ≠ 16) → (a = 4 ∨ (8 ≤ a ∧ a ≤ 61) ∨ (7000 ≤ a ∧ a < 7000 + e.1 7 2) ∨ (71000 ≤ a ∧ a < 71000 + e.1 7 2)) → (pStart t (e.1 (7000 + r) 2) q r o e).1 a u = e.1 a u := fun a u h1 h2 => start_a n0 (by omega) (by omega) (by omega) (by omega) (by omega) (by omega) (by omega)
    refine KpL.of (fun a h => ha _ _ (by omega) (by omega)) (start_mo n0 c.1) ⟨by rw [start_n n0]; omega, by rw [ha _ _ (by omega) (by omega)]; omega⟩ start_T (fun c hc => start_l (by omega) (by omega) (by omega)) (ha _ _ (by omega) (by omega)) (fun h => h.start t0 t1 o0 o1 n0 c.1) ⟨?_, fun _ _ => by rw [start_h (by omega)]⟩ (ha _ _ (by decide) (by omega)) (ha _ _ (by decide) (by omega))
    unfold hN
    rw [ha _ _ (by omega) (by omega)]
    omega
  · exact arr_kp i0 (by omega) i0 (by omega) (by omega)
theorem qt_kp (r0 : 0 ≤ r) : KpL r e (pQT r q e) := by
  have ha : ∀ a u : Int, (a ≠ 4 ∨ u ≠ 11) → (pQT r q e).1 a u = e.1 a u := fun a u h => by
    have e0 : (if (eL e 14).length < 51200 then eLs e 14 (eL e 14 ++ [r * 1000 + q]) else e).1 = e.1 := by split <;> rfl
    unfold pQT
    by_cases c : a = 4
    · subst c
      rw [eS_j (h.resolve_left fun hh => hh rfl), e0]
    · rw [eS_a c, e0]
  have h11 : (pQT r q e).1 4 11 = e.1 4 11 + 1 := eS_e
  have hl : ∀ c, c ≠ 14 → eL (pQT r q e) c = eL e c := fun c hc => by
    unfold pQT
    show (if (eL e 14).length < 51200 then eLs e 14 (eL e 14 ++ [r * 1000 + q]) else e).2.2.1 c = _
    split
    · exact eLs_a hc
    · rfl
  have hh : eH (pQT r q e) r = eH e r := by
    unfold pQT
    show (if (eL e 14).length < 51200 then eLs e 14 (eL e 14 ++ [r * 1000 + q]) else e).2.1 r = _
    split <;> rfl
  have hT2 : eT (pQT r q e) = eT e := by
    unfold pQT
    show (if (eL e 14).length < 51200 then eLs e 14 (eL e 14 ++ [r * 1000 + q]) else e).2.2.2.1 = _
    split <;> rfl
  refine ⟨qt_mo, ⟨⟨by rw [ha _ _ (by decide)]; omega, by rw [ha _ _ (by decide)]; omega⟩, fun c i hv => hv.mono (by rw [ha _ _ (by decide)]; omega) (by rw [ha _ _ (by decide)]; omega) (by rw [ha _ _ (by decide)]; omega) (by rw [ha _ _ (by decide)]; omega) (fun t ht => by have := isT_b ht; rw [ha _ _ (by omega)]; omega)⟩, hT2, fun g => ?_, fun g => ?_, fun h i j0 j1 => ?_, ⟨?_, fun _ _ => by rw [hh]⟩, ⟨by rw [h11]; omega, by rw [h11]; omega⟩, ha _ _ (by decide)⟩
  · unfold TmO at g ⊢
    rw [hl _ (by omega), hl _ (by omega)]
    exact g
  · unfold Dead at g ⊢
    rw [ha _ _ (by omega)]
    exact g
  · rw [ha _ _ (by decide)] at j1
    rw [ha _ _ (by omega), ha _ _ (by omega)]
    exact h i j0 j1
  · unfold hN
    rw [ha _ _ (by omega)]
    omega
theorem KpL.tr (h : KpL r e e1) (k : KpL r e1 e2) (h11 : e2.1 4 11 ≤ e.1 4 11 + 1) : KpL r e e2 :=
  ⟨h.1.tr k.1, ⟨⟨Int.le_trans h.2.1.1.1 k.2.1.1.1, Int.le_trans h.2.1.1.2 k.2.1.1.2⟩, fun c i hv => k.2.1.2 c i (h.2.1.2 c i hv)⟩, k.2.2.1.trans h.2.2.1, fun g => k.2.2.2.1 (h.2.2.2.1 g), fun g => k.2.2.2.2.1 (h.2.2.2.2.1 g), fun g => k.2.2.2.2.2.1 (h.2.2.2.2.2.1 g), ⟨Int.le_trans h.2.2.2.2.2.2.1.1 k.2.2.2.2.2.2.1.1, fun i hi => (k.2.2.2.2.2.2.1.2 i (Int.lt_of_lt_of_le hi h.2.2.2.2.2.2.1.1)).trans (h.2.2.2.2.2.2.1.2 i hi)⟩, ⟨Int.le_trans h.2.2.2.2.2.2.2.1.1 k.2.2.2.2.2.2.2.1.1, h11⟩, k.2.2.2.2.2.2.2.2.trans h.2.2.2.2.2.2.2.2⟩
theorem drTL_T (r0 : 0 ≤ r) : ∀ (n : Nat) (k : Int) (e : ES), (pDrTL r v n k e).2.1 = e.2.1 ∧ (pDrTL r v n k e).2.2.2 = e.2.2.2 ∧ (TmO e r → k < (eL e (73000 + r)).length → TmO (pDrTL r v n k e) r) := by
  intro n
  induction n with
  | zero => intro k e; exact ⟨rfl, rfl, fun g _ => g⟩
  | succ n ih =>
    intro k e
    unfold pDrTL
    split
    · exact ⟨rfl, rfl, fun g _ => g⟩
    · rename_i c0
      split
      · obtain ⟨h1, h2, h3⟩ := ih (k - 1) (eLs (eLs e (73000 + r) ((eL e (73000 + r)).eraseIdx k.toNat)) (74000 + r) ((eL e (74000 + r)).eraseIdx k.toNat))
        refine ⟨h1, h2, fun g hk => h3 ?_ ?_⟩
        · have l3 : eL (eLs (eLs e (73000 + r) ((eL e (73000 + r)).eraseIdx k.toNat)) (74000 + r) ((eL e (74000 + r)).eraseIdx k.toNat)) (73000 + r) = (eL e (73000 + r)).eraseIdx k.toNat := by
            rw [eLs_a (by omega)]
            exact eLs_e
          have l4 : eL (eLs (eLs e (73000 + r) ((eL e (73000 + r)).eraseIdx k.toNat)) (74000 + r) ((eL e (74000 + r)).eraseIdx k.toNat)) (74000 + r) = (eL e (74000 + r)).eraseIdx k.toNat := eLs_e
          unfold TmO
          rw [l3, l4, List.length_eraseIdx, List.length_eraseIdx, g.1]
          exact ⟨rfl, fun u hu => g.2 u (List.mem_of_mem_eraseIdx hu)⟩
        · rw [eLs_a (by omega), eLs_e, List.length_eraseIdx, if_pos (by omega)]
          omega
      · obtain ⟨h1, h2, h3⟩ := ih (k - 1) e
        exact ⟨h1, h2, fun g hk => h3 g (by omega)⟩
theorem set_kp4 (i0 : 0 ≤ i) (i1 : i < 1000) (r0 : 0 ≤ r) : KpL r e (eS e (7000 + i) 4 v) := by
  have h := par_cl (e := e) (v := v) i0 i1
  refine KpL.of (fun a h => eS_a (by omega)) h.1 ⟨by rw [h.2.1 7 (by decide) (by decide)]; omega, by rw [h.2.1 8 (by decide) (by decide)]; omega⟩ rfl (fun _ _ => rfl) ?_ (fun g => g.sf h.2) ⟨?_, fun _ _ => rfl⟩ (eS_a (by omega)) (eS_a (by omega))
  · by_cases c : r = i
    · subst c
      exact eS_j (by decide)
    · exact eS_a (by omega)
  · unfold hN
    by_cases c : 71000 + r = 7000 + i
    · omega
    · rw [eS_a c]
      omega
theorem drC_kp (r0 : 0 ≤ r) (r1 : r < 1000) : ∀ (n : Nat) (i : Int) (e : ES), 0 ≤ i → e.1 7 2 ≤ 1000 → KpL r e (pDrCL r v n i e) ∧ (pDrCL r v n i e).1 4 11 = e.1 4 11 := by
  intro n
  induction n with
  | zero => intro i e _ _; exact ⟨KpL.rf, rfl⟩
  | succ n ih =>
    intro i e i0 h7
    unfold pDrCL
    split
    · rename_i c
      split
      · have s1 : KpL r e (if e.1 (7000 + i) 6 = 0 then (pCan i e).2 else e) ∧ (if e.1 (7000 + i) 6 = 0 then (pCan i e).2 else e).1 4 11 = e.1 4 11 := by
          split
          · unfold pCan
            split
            · exact ⟨KpL.rf, rfl⟩
            · exact ⟨arr_kp i0 (by omega) r0 r1 h7, arr_a (by omega) (by omega) (by omega) (by omega) (by omega)⟩
          · exact ⟨KpL.rf, rfl⟩
        have s2 : KpL r (if e.1 (7000 + i) 6 = 0 then (pCan i e).2 else e) (eS (if e.1 (7000 + i) 6 = 0 then (pCan i e).2 else e) (7000 + i) 4 (-1)) := set_kp4 i0 (by omega) r0
        have s3 : (eS (if e.1 (7000 + i) 6 = 0 then (pCan i e).2 else e) (7000 + i) 4 (-1)).1 4 11 = e.1 4 11 := by rw [eS_a (by omega)]; exact s1.2
        have s4 := s1.1.tr s2 (by rw [s3]; omega)
        have h := drC_1 (e := e) i0 (by omega) h7
        obtain ⟨k1, k2⟩ := ih (i + 1) _ (by omega) (by rw [h.2.1 7 (by decide) (by decide)]; exact h7)
        exact ⟨s4.tr k1 (by rw [k2, s3]; omega), k2.trans s3⟩
      · exact ih _ _ (by omega) h7
    · exact ⟨KpL.rf, rfl⟩
theorem drop_kp (r0 : 0 ≤ r) (r1 : r < 1000) (h7 : e.1 7 2 ≤ 1000) (h8 : e.1 8 2 ≤ 1000) (hm : TmO e r) : KpL r e (pDrop r v e) := by
  obtain ⟨a1, a2, a3⟩ := drA_a (r := r) (v := v) 61 0 e (by decide) h8
  have k1 : KpL r e (pDrAL r v 61 0 e) := KpL.of (fun a h => a3 _ _ (by omega)) a1 ⟨by rw [a3 _ _ (by omega)]; omega, by rw [a3 _ _ (by omega)]; omega⟩ (congrArg (fun z => z.2.2.1) a2) (fun c _ => congrArg (fun z => z.2.1 c) a2) (a3 _ _ (by omega)) (fun g => g.sf (drA_cl h8 h7).2) ⟨by unfold hN; rw [a3 _ _ (by omega)]; omega, fun _ _ => by show (pDrAL r v 61 0 e).2.1 r _ = e.2.1 r _; rw [a2]⟩ (a3 _ _ (by omega)) (a3 _ _ (by omega))
  have hm1 := k1.2.2.2.1 hm
  obtain ⟨b1, b2, b3⟩ := drTL_T (r := r) (v := v) r0 ((eL (pDrAL r v 61 0 e) (73000 + r)).length + 1 + 1) ((eL (pDrAL r v 61 0 e) (73000 + r)).length - 1) (pDrAL r v 61 0 e)
  have b0 : (pDrT r v (pDrAL r v 61 0 e)).1 = (pDrAL r v 61 0 e).1 := drT_1
  have k2 : KpL r (pDrAL r v 61 0 e) (pDrT r v (pDrAL r v 61 0 e)) := by
    refine ⟨drT_mo, ⟨⟨by rw [b0]; omega, by rw [b0]; omega⟩, fun c i hv => by unfold LvA at hv ⊢; rw [b0]; exact hv⟩, congrArg (fun z => z.1) b2, fun g => b3 g (by omega), fun g => ?_, fun g i i0 i1 => ?_, ⟨by unfold hN; rw [b0]; omega, fun _ _ => by show (pDrT r v (pDrAL r v 61 0 e)).2.1 r _ = _; exact congrFun (congrFun b1 r) _⟩, ⟨by rw [b0]; omega, by rw [b0]; omega⟩, by rw [b0]⟩
    · unfold Dead at g ⊢
      rw [b0]
      exact g
    · rw [b0] at i1 ⊢
      exact g i i0 i1
  have n2 : (pDrT r v (pDrAL r v 61 0 e)).1 7 2 = e.1 7 2 := by rw [b0, a3 _ _ (by omega)]
  obtain ⟨k3, k4⟩ := drC_kp (v := v) r0 r1 31 0 (pDrT r v (pDrAL r v 61 0 e)) (by decide) (by rw [n2]; exact h7)
  have e11 : (pDrT r v (pDrAL r v 61 0 e)).1 4 11 = e.1 4 11 := by rw [b0, a3 _ _ (by omega)]
  exact (k1.tr k2 (by rw [e11]; omega)).tr k3 (by show (pDrCL r v 31 0 (pDrT r v (pDrAL r v 61 0 e))).1 4 11 ≤ _; rw [k4, e11]; omega)
end KEP
