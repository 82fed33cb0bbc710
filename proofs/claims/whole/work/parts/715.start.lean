/-! THE ENGINE: a run is begun; what only grows. -/
section STA
variable {m m' M2 : MM} {ow ow' : Int → Int} {ad ad' : Int → Int → Int} {e e' e1 e2 : ES} {D : Int → Prop} {a b c i j k o r v n h N B t x y z p tn par pe inp p1 p2 p3 p4 p5 p6 kd ln : Int} {l : List Int} {E : Int → Ev} {s : TS} {f : Int → Int}
/-- what holds all the time -/
def BDl (e : ES) : Prop := (0 ≤ e.1 4 14 ∧ e.1 4 14 < 1000000) ∧ 0 ≤ e.1 4 16 ∧ 0 ≤ e.1 3 0 ∧ (0 ≤ e.1 7 2 ∧ e.1 7 2 ≤ 1000) ∧ (∀ i : Int, 0 ≤ i → i < e.1 7 2 → hN e i ≤ e.1 3 0) ∧ 0 ≤ e.1 3 1 ∧ ∀ c i : Int, (c = 73 ∨ c = 74 ∨ c = 75) → 0 ≤ i → i < e.1 7 2 → ((eL e (1000 * c + i)).length : Int) ≤ e.1 3 1
/-- what the counts come to at most -/
def BDf (e : ES) : Prop := e.1 4 16 ≤ 1048576 ∧ e.1 3 0 ≤ 268435456 ∧ e.1 3 1 < 268435456
/-- what only grows -/
def MO (e e' : ES) : Prop := (e.1 4 16 ≤ e'.1 4 16 ∧ e.1 3 0 ≤ e'.1 3 0 ∧ e.1 3 1 ≤ e'.1 3 1) ∧ (BDl e → BDl e')
theorem MO.rf : MO e e := ⟨⟨Int.le_refl _, Int.le_refl _, Int.le_refl _⟩, id⟩
theorem MO.tr (h : MO e e1) (k : MO e1 e2) : MO e e2 := ⟨⟨Int.le_trans h.1.1 k.1.1, Int.le_trans h.1.2.1 k.1.2.1, Int.le_trans h.1.2.2 k.1.2.2⟩, fun g => k.2 (h.2 g)⟩
theorem BDf.of (h : BDf e') (k : MO e e') : BDf e := ⟨Int.le_trans k.1.1 h.1, Int.le_trans k.1.2.1 h.2.1, Int.lt_of_le_of_lt k.1.2.2 h.2.2⟩
theorem ord_3 : (pOrd i k e).1 3 0 = e.1 3 0 + 1 := by unfold pOrd; rw [gh_a (by decide)]; exact eS_e
theorem ord_31 : (pOrd i k e).1 3 1 = e.1 3 1 := by
  unfold pOrd
  rw [gh_a (by decide)]
  unfold pOrd0
  rw [eS_j (by decide)]
  split
  · rw [eS_a (by decide), eS_a (by decide)]
  · rfl
theorem put_3 (i0 : 0 ≤ i) : (pPut i k x y t o e).1 3 0 = e.1 3 0 + 1 := by
  unfold pPut
  show (eS (eS (pOrd i k e) (76000 + i) _ _) (71000 + i) 1 _).1 3 0 = _
  rw [eS_a (by omega), eS_a (by omega), ord_3]
theorem put_31 (i0 : 0 ≤ i) : (pPut i k x y t o e).1 3 1 = e.1 3 1 := by
  unfold pPut
  show (eS (eS (pOrd i k e) (76000 + i) _ _) (71000 + i) 1 _).1 3 1 = _
  rw [eS_a (by omega), eS_a (by omega), ord_31]
theorem arr_3 (i0 : 0 ≤ i) : (pArr i k x y e).1 3 0 = e.1 3 0 + 1 := by
  unfold pArr
  rw [eS_a (by decide), put_3 i0]
theorem arr_31 (i0 : 0 ≤ i) : (pArr i k x y e).1 3 1 = e.1 3 1 := by
  unfold pArr
  rw [eS_a (by decide), put_31 i0]
theorem arr_16 : (pArr i k x y e).1 4 16 = e.1 4 16 + 1 := eS_e
theorem arr_l : eL (pArr i k x y e) c = eL e c := by
  show eL (pPut i k x y (e.1 4 14) (e.1 4 16) e) c = _
  exact put_l
theorem put_mo (i0 : 0 ≤ i) (i1 : i < 1000) : MO e (pPut i k x y t o e) := by
  have e4 : ∀ u, (pPut i k x y t o e).1 4 u = e.1 4 u := fun u => put_a (by decide) (by decide) (by omega) (by omega)
  have e7 : (pPut i k x y t o e).1 7 2 = e.1 7 2 := put_a (by decide) (by decide) (by omega) (by omega)
  refine ⟨⟨by rw [e4]; omega, by rw [put_3 i0]; omega, by rw [put_31 i0]; omega⟩, fun ⟨g1, g2, g3, g4, g5, g6, g7⟩ => ⟨by rw [e4]; exact g1, by rw [e4]; exact g2, by rw [put_3 i0]; omega, by rw [e7]; exact g4, fun j j0 j1 => ?_, by rw [put_31 i0]; exact g6, fun c j hc j0 j1 => ?_⟩⟩
  · rw [e7] at j1
    have := g5 j j0 j1
    rw [put_3 i0]
    by_cases c1 : j = i
    · subst c1
      rw [put_N i0]
      omega
    · rw [put_Na c1 j0 (by omega) i0]
      omega
  · rw [e7] at j1
    rw [put_31 i0, put_l]
    exact g7 c j hc j0 j1
theorem arr_mo (i0 : 0 ≤ i) (i1 : i < 1000) : MO e (pArr i k x y e) := by
  obtain ⟨h1, h3⟩ := put_mo (e := e) (k := k) (x := x) (y := y) (t := e.1 4 14) (o := e.1 4 16) i0 i1
  refine ⟨⟨by rw [arr_16]; omega, by rw [arr_3 i0]; omega, by rw [arr_31 i0]; omega⟩, fun g => ?_⟩
  obtain ⟨k1, k2, k3, k4, k5, k6, k7⟩ := h3 g
  have g2 := g.2.1
  unfold pArr
  refine ⟨by rw [eS_j (by decide)]; exact k1, by rw [eS_e]; omega, by rw [eS_a (by decide)]; exact k3, by rw [eS_a (by decide)]; exact k4, fun j j0 j1 => ?_, by rw [eS_a (by decide)]; exact k6, fun c j hc j0 j1 => ?_⟩
  · rw [eS_a (by decide)] at j1
    unfold hN
    rw [eS_a (by omega), eS_a (by decide)]
    exact k5 j j0 j1
  · rw [eS_a (by decide)] at j1
    rw [eS_a (by decide)]
    exact k7 c j hc j0 j1
theorem BDl.bd (h : BDl e) (i0 : 0 ≤ i) (hf : BDf (pArr i k x y e)) : BD e := by
  obtain ⟨g1, g2, g3, g4, g5, -⟩ := h
  obtain ⟨f1, f2, -⟩ := hf
  rw [arr_16] at f1
  rw [arr_3 i0] at f2
  exact ⟨g1, ⟨g2, by omega⟩, ⟨g3, by omega⟩, g5⟩
/-- a scalar that none of these look at -/
theorem set_mo (h4 : a ≠ 4 ∨ (j ≠ 14 ∧ j ≠ 16)) (h3 : a ≠ 3) (h7 : a ≠ 7) (h71 : a < 71000 ∨ 73000 ≤ a) : MO e (eS e a j v) := by
  have e4 : ∀ u, (u = 14 ∨ u = 16) → (eS e a j v).1 4 u = e.1 4 u := fun u hu => by
    by_cases c : a = 4
    · subst c; rw [eS_j (by omega)]
    · rw [eS_a (Ne.symm c)]
  have e7 : (eS e a j v).1 7 2 = e.1 7 2 := eS_a (Ne.symm h7)
  have e3 : ∀ u, (eS e a j v).1 3 u = e.1 3 u := fun u => eS_a (Ne.symm h3)
  refine ⟨⟨by rw [e4 16 (by omega)]; omega, by rw [e3]; omega, by rw [e3]; omega⟩, fun ⟨g1, g2, g3, g4, g5, g6, g7⟩ => ⟨by rw [e4 14 (by omega)]; exact g1, by rw [e4 16 (by omega)]; exact g2, by rw [e3]; exact g3, by rw [e7]; exact g4, fun i j0 j1 => ?_, by rw [e3]; exact g6, fun c i hc j0 j1 => ?_⟩⟩
  · rw [e7] at j1
    unfold hN
    rw [eS_a (by omega), e3]
    exact g5 i j0 j1
  · rw [e7] at j1
    rw [e3]
    exact g7 c i hc j0 j1
/-- a row that none of these look at, or that is shorter -/
theorem row_mo (h : (l.length : Int) ≤ (eL e c).length ∨ c < 73000 ∨ 76000 ≤ c) : MO e (eLs e c l) := by
  refine ⟨⟨Int.le_refl _, Int.le_refl _, Int.le_refl _⟩, fun ⟨g1, g2, g3, g4, g5, g6, g7⟩ => ⟨g1, g2, g3, g4, g5, g6, fun c' i hc j0 j1 => ?_⟩⟩
  have g := g7 c' i hc j0 j1
  by_cases c1 : 1000 * c' + i = c
  · rw [c1] at g ⊢
    rw [eLs_e]
    rcases h with h | h
    · exact Int.le_trans h g
    · have hb : i ≤ 1000 := Int.le_trans (Int.le_of_lt j1) g4.2
      have hi : i < 1000 := by
        have : i < e.1 7 2 := j1
        omega
      omega
  · rw [eLs_a c1]
    exact g
/-- one more in a row: it is counted -/
theorem rowadd_mo (h : c < 76000) : MO e (eS (eLs e c (eL e c ++ [v])) 3 1 (e.1 3 1 + 1)) := by
  have e4 : ∀ a u, a ≠ 3 → (eS (eLs e c (eL e c ++ [v])) 3 1 (e.1 3 1 + 1)).1 a u = e.1 a u := fun a u ha => eS_a ha
  have e30 : (eS (eLs e c (eL e c ++ [v])) 3 1 (e.1 3 1 + 1)).1 3 0 = e.1 3 0 := eS_j (by decide)
  have e31 : (eS (eLs e c (eL e c ++ [v])) 3 1 (e.1 3 1 + 1)).1 3 1 = e.1 3 1 + 1 := eS_e
  refine ⟨⟨by rw [e4 _ _ (by decide)]; omega, by rw [e30]; omega, by rw [e31]; omega⟩, fun ⟨g1, g2, g3, g4, g5, g6, g7⟩ => ⟨by rw [e4 _ _ (by decide)]; exact g1, by rw [e4 _ _ (by decide)]; exact g2, by rw [e30]; exact g3, by rw [e4 _ _ (by decide)]; exact g4, fun i j0 j1 => ?_, by rw [e31]; omega, fun c' i hc j0 j1 => ?_⟩⟩
  · rw [e4 _ _ (by decide)] at j1
    unfold hN
    rw [e4 _ _ (by omega), e30]
    exact g5 i j0 j1
  · rw [e4 _ _ (by decide)] at j1
    have g := g7 c' i hc j0 j1
    rw [e31]
    show (((if 1000 * c' + i = c then eL e c ++ [v] else eL e (1000 * c' + i)).length : Nat) : Int) ≤ _
    by_cases c1 : 1000 * c' + i = c
    · rw [if_pos c1, List.length_append, ← c1]
      simp only [List.length_cons, List.length_nil]
      omega
    · rw [if_neg c1]
      omega
theorem same_mo (h : e'.1 = e.1) (h2 : e'.2.2.1 = e.2.2.1) : MO e e' := by
  unfold MO BDl hN eL
  rw [h, h2]
  exact ⟨⟨Int.le_refl _, Int.le_refl _, Int.le_refl _⟩, id⟩
theorem newrun_mo (h0 : 0 ≤ e.1 7 2) (h1 : e.1 7 2 < 30) : MO e (pNewRun t tn v par pe e) := by
  have e4 : ∀ u, (pNewRun t tn v par pe e).1 4 u = e.1 4 u := fun u => pNewRun_1 (by decide) (by omega) (by omega)
  have e3 : ∀ u, (pNewRun t tn v par pe e).1 3 u = e.1 3 u := fun u => pNewRun_1 (by decide) (by omega) (by omega)
  refine ⟨⟨by rw [e4]; omega, by rw [e3]; omega, by rw [e3]; omega⟩, fun ⟨g1, g2, g3, g4, g5, g6, g7⟩ => ⟨by rw [e4]; exact g1, by rw [e4]; exact g2, by rw [e3]; exact g3, by rw [pNewRun_n]; omega, fun j j0 j1 => ?_, by rw [e3]; exact g6, fun c j hc j0 j1 => ?_⟩⟩
  · rw [pNewRun_n] at j1
    by_cases c1 : j = e.1 7 2
    · unfold hN
      rw [c1, pNewRun_h h0, e3]
      exact g3
    · unfold hN
      rw [pNewRun_1 (by omega) (by omega) (by omega), e3]
      exact g5 j j0 (by omega)
  · rw [pNewRun_n] at j1
    rw [e3]
    by_cases c1 : j = e.1 7 2
    · rw [c1, pNewRun_r hc]
      exact g6
    · rw [pNewRun_l (by omega) (by omega) (by omega)]
      exact g7 c j hc j0 (by omega)
/-- a run begins -/
def pStart (t tn inp par pe : Int) (e : ES) : ES := pArr (e.1 7 2) 0 inp 0 (pNewRun t tn (e.1 (48 + 4 * t + 1) 2 - 1) par pe e)
theorem start_mo (h0 : 0 ≤ e.1 7 2) (h1 : e.1 7 2 < 30) : MO e (pStart t tn inp par pe e) := (newrun_mo h0 h1).tr (arr_mo h0 (by omega))
theorem start_n (h0 : 0 ≤ e.1 7 2) : (pStart t tn inp par pe e).1 7 2 = e.1 7 2 + 1 := by
  unfold pStart
  rw [arr_a (by decide) (by decide) (by omega) (by omega) (Or.inl (by decide)), pNewRun_n]
theorem start_a {u : Int} (h0 : 0 ≤ e.1 7 2) (h1 : a ≠ 68) (h2 : a ≠ 3) (h3 : a ≠ 76000 + e.1 7 2) (h4 : a ≠ 71000 + e.1 7 2) (h5 : a ≠ 4 ∨ u ≠ 16) (h6 : a ≠ 7) (h7 : a ≠ 7000 + e.1 7 2) : (pStart t tn inp par pe e).1 a u = e.1 a u := by
  unfold pStart
  rw [arr_a h1 h2 h3 h4 h5, pNewRun_1 h6 h7 h4]
theorem AG.tr {ad1 ad2 : Int → Int → Int} (h : AG e ad ad1) (k : AG e1 ad1 ad2) (hv : ∀ c i, LvA e c i → LvA e1 c i) : AG e ad ad2 := fun c i hh => by rw [k c i (hv c i hh), h c i hh]
theorem LvA.mono (h : LvA e c i) (h7 : e.1 7 2 ≤ e1.1 7 2) (h8 : e.1 8 2 ≤ e1.1 8 2) (h9 : e.1 9 2 ≤ e1.1 9 2) (h10 : e.1 10 2 ≤ e1.1 10 2) (hT : ∀ t, isT t → e.1 (t + 1) 2 ≤ e1.1 (t + 1) 2) : LvA e1 c i := by
  unfold LvA at h ⊢
  rcases h with h | h | h | h | h | h
  · exact Or.inl ⟨h.1, h.2.1, by omega⟩
  · exact Or.inr (Or.inl ⟨h.1, h.2.1, by omega⟩)
  · exact Or.inr (Or.inr (Or.inl ⟨h.1, h.2.1, by omega⟩))
  · exact Or.inr (Or.inr (Or.inr (Or.inl ⟨h.1, h.2.1, by omega⟩)))
  · have := hT c h.1
    exact Or.inr (Or.inr (Or.inr (Or.inr (Or.inl ⟨h.1, h.2.1, by omega⟩))))
  · exact Or.inr (Or.inr (Or.inr (Or.inr (Or.inr h))))
theorem CE.start (C : CE m ow ad e) (hl : BDl e) (hn : e.1 7 2 < 30) (t0 : 0 ≤ t) (t1 : t < 4) (v0 : 0 ≤ inp) (v1 : inp < 1000) (hf : BDf (pStart t tn inp par pe e)) : ∃ m' ad', fm_X11_startRun t tn inp par pe m = some (ad' 7 (e.1 7 2), m') ∧ CX1 m' ad' (pStart t tn inp par pe e) ∧ AG e ad ad' := by
  have n0 := C.cn.1.1
  have ht := isT_4 t0 t1
  have hc := C.cn.2.2.2.2 _ ht
  obtain ⟨m1, ad1, g1, ⟨ow1, C1⟩, g3⟩ := C.addRun (p1 := t) (p2 := tn) (p3 := e.1 (48 + 4 * t + 1) 2 - 1) (p4 := par) (p5 := pe) hn
  have d7 : e.1 7 2 < (pNewRun t tn (e.1 (48 + 4 * t + 1) 2 - 1) par pe e).1 7 2 := by rw [pNewRun_n]; omega
  have hl1 := (newrun_mo (t := t) (tn := tn) (v := e.1 (48 + 4 * t + 1) 2 - 1) (par := par) (pe := pe) n0 hn).2 hl
  have nd : ¬ Dead (pNewRun t tn (e.1 (48 + 4 * t + 1) 2 - 1) par pe e) (e.1 7 2) := fun hh => hh.1 (by rw [pNewRun_f n0]; rfl)
  obtain ⟨m2, k1, k2⟩ := C1.arr (k := 0) (x := inp) (y := 0) n0 d7 nd (hl1.bd n0 hf) (by decide) (by decide) v0 (by omega) (by decide) (by decide)
  refine ⟨m2, ad1, ?_, k2, g3⟩
  unfold fm_X11_startRun
  rw [bp_t (fmod_e (by omega) (by omega) (by decide) (by decide)), Int.emod_eq_of_lt t0 t1, gd_t ⟨t0, t1⟩, lx_p, (ar5 C.fix t0 t1).1, gd_t (C.tk ht), lx_p, ty0 C.fix ht, gd_t (C.vk ht), bp_t (C.ver ht).size, lx_p, w32_id (by omega) (by omega), bd_t g1, bd_t k1]
def pcBegin (p1 p2 p3 : Int) (e : ES) : (Int ⊕ Nat) × ES :=
  if 0 ≤ p1 ∧ p1 < 4 then
    if 0 ≤ p2 ∧ p2 < 3 then
      if 0 ≤ p3 ∧ p3 < 1000 then
        if 0 < e.1 (48 + 4 * p1 + 1) 2 ∧ e.1 7 2 < 30 then (.inl (e.1 7 2), pStart p1 p2 p3 (-1) 0 e) else rT 2 e
      else rT 1 e
    else rT 0 e
  else rT 0 e
theorem c_begin (C : CE m ow ad e) (hl : BDl e) (hf : BDf (pcBegin p1 p2 p3 e).2) : OKc e ad (fm_X11_begin p1 p2 p3 m) (pcBegin p1 p2 p3 e) := by
  unfold pcBegin at hf
  unfold fm_X11_begin pcBegin
  rw [typeAt_e C.fix]
  have n0 := C.cn.1.1
  by_cases c1 : 0 ≤ p1 ∧ p1 < 4
  · rw [if_pos c1] at hf
    rw [if_pos c1, if_pos c1, bx_l rfl, chkTen]
    by_cases c2 : 0 ≤ p2 ∧ p2 < 3
    · rw [if_pos c2] at hf
      rw [if_pos c2, if_pos c2, bx_l rfl, chkVal]
      by_cases c3 : 0 ≤ p3 ∧ p3 < 1000
      · rw [if_pos c3] at hf
        have ht := isT_4 c1.1 c1.2
        have hc := C.cn.2.2.2.2 _ ht
        rw [if_pos c3, if_pos c3, bx_l rfl, gd_t (C.tk ht), lx_p, ty0 C.fix ht, gd_t (C.vk ht), bp_t (C.ver ht).empty]
        by_cases c4 : e.1 (48 + 4 * p1 + 1) 2 = 0
        · rw [if_pos c4, if_neg (by decide), if_neg (by omega)]; exact OKc.thr C
        · rw [if_neg c4, if_pos rfl, bp_t (C.size (by decide) (by decide))]
          by_cases c5 : e.1 7 2 < 30
          · rw [if_pos ⟨by omega, c5⟩] at hf
            rw [if_pos c5, if_pos ⟨by omega, c5⟩]
            obtain ⟨m1, ad1, g1, ⟨ow1, C1⟩, g3⟩ := C.start (tn := p2) (par := -1) (pe := 0) hl c5 c1.1 c1.2 c3.1 c3.2 hf
            have d7 : e.1 7 2 < (pStart p1 p2 p3 (-1) 0 e).1 7 2 := by rw [start_n n0]; omega
            have hnum := (C1.run n0 d7).2.2.2.2.1
            rw [bd_t g1, gd_t (C1.rk n0 d7), lx_p, C1.rf n0 d7 (by decide) (by decide), hnum]
            exact ⟨m1, ad1, rfl, ⟨ow1, C1⟩, g3⟩
          · rw [if_neg c5, if_neg (fun h => c5 h.2)]; exact OKc.thr C
      · rw [if_neg c3, if_neg c3, bx_r rfl]; exact OKc.thr C
    · rw [if_neg c2, if_neg c2, bx_r rfl]; exact OKc.thr C
  · rw [if_neg c1, if_neg c1, bx_r rfl]; exact OKc.thr C
def pcSchedule (p1 p2 p3 p4 : Int) (e : ES) : (Int ⊕ Nat) × ES :=
  if 0 ≤ p1 ∧ p1 < 4 then
    if 0 ≤ p2 ∧ p2 < 3 then
      if p3 < 1 ∨ 50 < p3 ∨ p4 < 0 ∨ 3 < p4 then rT 1 e
      else if 0 < e.1 (48 + 4 * p1 + 1) 2 ∧ e.1 10 2 < 4 then (.inl (e.1 10 2), pNew 10 (fSch p1 p2 p3 p4 (e.1 4 14 + e.1 4 15)) e) else rT 2 e
    else rT 0 e
  else rT 0 e
theorem c_schedule (C : CE m ow ad e) (hW : WB e) : OKc e ad (fm_X11_schedule p1 p2 p3 p4 m) (pcSchedule p1 p2 p3 p4 e) := by
  unfold fm_X11_schedule pcSchedule
  rw [typeAt_e C.fix]
  have n0 := C.cn.2.2.2.1
  have h163 := C.fix.1
  by_cases c1 : 0 ≤ p1 ∧ p1 < 4
  · rw [if_pos c1, if_pos c1, bx_l rfl, chkTen]
    by_cases c2 : 0 ≤ p2 ∧ p2 < 3
    · rw [if_pos c2, if_pos c2, bx_l rfl]
      by_cases d1 : p3 < 1
      · rw [if_pos d1, if_pos (Or.inl d1)]; exact OKc.thr C
      rw [if_neg d1]
      by_cases d2 : 50 < p3
      · rw [if_pos d2, if_pos (Or.inr (Or.inl d2))]; exact OKc.thr C
      rw [if_neg d2]
      by_cases d3 : p4 < 0
      · rw [if_pos d3, if_pos (Or.inr (Or.inr (Or.inl d3)))]; exact OKc.thr C
      rw [if_neg d3]
      by_cases d4 : 3 < p4
      · rw [if_pos d4, if_pos (Or.inr (Or.inr (Or.inr d4)))]; exact OKc.thr C
      rw [if_neg d4, if_neg (show ¬ (p3 < 1 ∨ 50 < p3 ∨ p4 < 0 ∨ 3 < p4) by omega)]
      have ht := isT_4 c1.1 c1.2
      have hc := C.cn.2.2.2.2 _ ht
      rw [gd_t (C.tk ht), lx_p, ty0 C.fix ht, gd_t (C.vk ht), bp_t (C.ver ht).empty]
      by_cases c4 : e.1 (48 + 4 * p1 + 1) 2 = 0
      · rw [if_pos c4, if_neg (by decide), if_neg (by omega)]; exact OKc.thr C
      · rw [if_neg c4, if_pos rfl, bp_t (C.size (by decide) (by decide))]
        by_cases c5 : e.1 10 2 < 4
        · rw [if_pos c5, if_pos ⟨by omega, c5⟩]
          obtain ⟨M2, m1, ad1, g1, g2, ⟨ow1, C1⟩, g3⟩ := C.addSch (p1 := p1) (p2 := p2) (p3 := p3) (p4 := p4) (p5 := e.1 4 14 + e.1 4 15) c5
          have hb := hW.bd.1
          have hg := hW.glo.1
          have q : ∀ j, mnew m 8 9 4 j = m 4 j := fun j => mn_o (by omega) (by decide)
          have hs := C1.size (c := 10) (by decide) (by decide)
          rw [pNew_n] at hs
          rw [nw_t, lx_p, q, lx_p, q, C.g4 (by decide) (by decide), C.g4 (by decide) (by decide), w32_id (by omega) (by omega), bd_t g1, bd_t g2, bp_t hs, w32_id (by omega) (by omega)]
          exact ⟨m1, ad1, by rw [show e.1 10 2 + 1 - 1 = e.1 10 2 by omega], ⟨ow1, C1⟩, g3⟩
        · rw [if_neg c5, if_neg (fun h => c5 h.2)]; exact OKc.thr C
    · rw [if_neg c2, if_neg c2, bx_r rfl]; exact OKc.thr C
  · rw [if_neg c1, if_neg c1, bx_r rfl]; exact OKc.thr C
end STA
