/-! THE ENGINE: what is not written stays as it was: the one lemma by which all changes go. -/
section EN2
variable {m m' : MM} {ow ow' : Int → Int} {ad ad' : Int → Int → Int} {e e' : ES} {D : Int → Prop} {a b c i j o r v n h N B t : Int} {l : List Int} {E : Int → Ev} {s : TS}
/-- addresses of what there is -/
def LvA (e : ES) (c i : Int) : Prop := ((c = 7 ∨ c = 71 ∨ c = 72 ∨ c = 73 ∨ c = 74 ∨ c = 75) ∧ 0 ≤ i ∧ i < e.1 7 2) ∨ (c = 8 ∧ 0 ≤ i ∧ i < e.1 8 2) ∨ (c = 9 ∧ 0 ≤ i ∧ i < e.1 9 2) ∨ (c = 10 ∧ 0 ≤ i ∧ i < e.1 10 2) ∨ (isT c ∧ 0 ≤ i ∧ i ≤ e.1 (c + 1) 2) ∨ c = 0
theorem FD.at (f : FD m m' ow D) (h1 : 4 ≤ a) (h2 : a < m 0 0) (h3 : ow a = o) (h4 : ¬ D o) : m' a j = m a j := f.2 a j h1 h2 (by rw [h3]; exact h4)
theorem KGl.fr (h : KGl m ow e o) (f : FD m m' ow D) (ho : ¬ D o) (h4 : 4 ≤ o) (h5 : o < m 0 0) (hw : ∀ a, a < m 0 0 → ow' a = ow a) (he : ∀ j, e'.1 o j = e.1 o j) : KGl m' ow' e' o := by
  refine ⟨by rw [hw o h5]; exact h.1, fun j hj => ?_⟩
  rw [f.at h4 h5 h.1 ho, he]
  exact h.2 j hj
theorem Mfp.lt (h : CR m m s B) (ha : Mfp m a) : 4 ≤ a ∧ a < m 0 0 := by
  rcases ha with g | ⟨r, hr, g⟩
  · exact ⟨(g.kd h.1).1, (g.kd h.1).2.2.1⟩
  · obtain ⟨L, hR, -⟩ := h.2.2.2.2
    exact Fp.lt (hR r hr).1.1 g
theorem KMac.fr (h : KMac m ow ad e) (f : FD m m' ow D) (hF : Fix m') (ho : ¬ D 16) (hw : ∀ a, a < m 0 0 → ow' a = ow a) (hA : ∀ c i, LvA e c i → ad' c i = ad c i) (he : ∀ j, e'.1 16 j = e.1 16 j) (hm : e'.2.2.2 = e.2.2.2) (h7 : e.1 7 2 ≤ e'.1 7 2) : KMac m' ow' ad' e' := by
  obtain ⟨g1, g2, g3, g4⟩ := h
  have k : ∀ a j : Int, Mfp m a → m' a j = m a j := fun a j ha => f.at (Mfp.lt g1 ha).1 (Mfp.lt g1 ha).2 (g2 a ha) ho
  obtain ⟨c1, c2⟩ := g1.fr hF f.1 fun a j ha _ => k a j ha
  have c16 : Mfp m 16 := Or.inl (Or.inl rfl)
  have eT' : eT e' = eT e := congrArg (fun z => z.1) hm
  have eB' : eB e' = eB e := congrArg (fun z => z.2) hm
  refine ⟨by rw [eT', eB']; exact c1, fun a ha => ?_, ?_, by rw [he]; omega⟩
  · have hb := (c2 a).mp ha
    rw [hw a (Mfp.lt g1 hb).2]
    exact g2 a hb
  · rw [k 16 7 c16, he, g3]
    split
    · rfl
    · rw [hA 7 _ (Or.inl ⟨Or.inl rfl, by omega, g4⟩)]
theorem lst_eq {f g : Int → Int} (h : ∀ i : Int, 0 ≤ i → i < n → f i = g i) : lsq n f = lsq n g := by
  unfold lsq
  refine List.map_congr_left fun i hi => h _ (Int.natCast_nonneg i) ?_
  have := List.mem_range.mp hi
  omega
theorem KLst.fr {f g : Int → Int} (h : KLst m ow e c f) (k : FD m m' ow D) (ho : ¬ D c) (hw : ∀ a, a < m 0 0 → ow' a = ow a) (he : e'.1 c 2 = e.1 c 2) (hA : ∀ i, 0 ≤ i → i < e.1 c 2 → g i = f i) : KLst m' ow' e' c g := by
  obtain ⟨g1, g2, g3, g4⟩ := h
  have q : ∀ j, m' c j = m c j := fun j => k.at g1.1.1 g1.1.2 g3 ho
  have q2 : m c 1 ≠ 1 → 4 ≤ m c 1 ∧ m c 1 < m 0 0 := fun hn => by
    rcases g1.2.2.2.2 with h5 | h5
    · exact absurd h5.1 hn
    · exact ⟨h5.1.1, h5.1.2.1⟩
  refine ⟨?_, by rw [he]; exact g2, by rw [hw c g1.1.2]; exact g3, fun hn => ?_⟩
  · rw [he, lst_eq (g := f) hA]
    exact g1.fr k.1 (fun j _ => q j) fun hn j _ => k.at (q2 hn).1 (q2 hn).2 (g4 hn) ho
  · rw [q] at hn ⊢
    rw [hw _ (q2 hn).2]
    exact g4 hn
theorem KTyp.fr (h : KTyp m ow ad e t) (f : FD m m' ow D) (ho : ¬ D t) (h4 : 4 ≤ t) (h5 : t < m 0 0) (ht : isT t) (hw : ∀ a, a < m 0 0 → ow' a = ow a) (hA : ∀ c i, LvA e c i → ad' c i = ad c i) (he : ∀ j, e'.1 t j = e.1 t j) (hc : e'.1 (t + 1) 2 = e.1 (t + 1) 2) (h0 : 0 ≤ e.1 (t + 1) 2) : KTyp m' ow' ad' e' t := by
  obtain ⟨g1, g2, g3⟩ := h
  refine ⟨by rw [hw t h5]; exact g1, ?_, ?_⟩
  · rw [f.at h4 h5 g1 ho, hc, hA t _ (Or.inr (Or.inr (Or.inr (Or.inr (Or.inl ⟨ht, h0, Int.le_refl _⟩)))))]
    exact g2
  · rw [f.at h4 h5 g1 ho, he]
    exact g3
theorem KRow.fr (h : KRow m ow ad e c i) (f : FD m m' ow D) (ho : ¬ D (1000 * c + i)) (hw : ∀ a, a < m 0 0 → ow' a = ow a) (hA : ad' c i = ad c i) (he : eL e' (1000 * c + i) = eL e (1000 * c + i)) : KRow m' ow' ad' e' c i := by
  obtain ⟨g1, g2, g3⟩ := h
  have q : ∀ a j : Int, Fp m (ad c i) a → m' a j = m a j := fun a j ha => f.at (Fp.lt g1.1 ha).1 (Fp.lt g1.1 ha).2 (g2 a ha) ho
  obtain ⟨k1, k2⟩ := g1.fr f.1 fun a j ha _ => q a j ha
  unfold KRow
  rw [hA, he]
  refine ⟨k1, fun a ha => ?_, by rw [q _ _ (Or.inl rfl)]; exact g3⟩
  have hb := (k2 a).mp ha
  rw [hw a (Fp.lt g1.1 hb).2]
  exact g2 a hb
theorem KRun.fr (h : KRun m ow ad e i) (f : FD m m' ow D) (ho : ¬ D (7000 + i)) (hw : ∀ a, a < m 0 0 → ow' a = ow a) (hA : ad' 7 i = ad 7 i ∧ ad' 71 i = ad 71 i ∧ ad' 73 i = ad 73 i ∧ ad' 74 i = ad 74 i ∧ ad' 75 i = ad 75 i) (he : ∀ j, e'.1 (7000 + i) j = e.1 (7000 + i) j) : KRun m' ow' ad' e' i := by
  obtain ⟨g1, g2, g3, g4, g5, g6, g7, g8, g9⟩ := h
  obtain ⟨a1, a2, a3, a4, a5⟩ := hA
  have q : ∀ j, m' (ad 7 i) j = m (ad 7 i) j := fun j => f.at g1.1 g1.2.1 g3 ho
  unfold KRun
  rw [a1, a2, a3, a4, a5]
  exact ⟨f.1.ok g1, g2, by rw [hw _ g1.2.1]; exact g3, fun j j0 j1 => by rw [q, he]; exact g4 j j0 j1, by rw [he]; exact g5, by rw [q]; exact g6, by rw [q]; exact g7, by rw [q]; exact g8, by rw [q]; exact g9⟩
theorem KHis.fr (h : KHis m ow ad e i) (f : FD m m' ow D) (ho : ¬ D (71000 + i)) (hz : ∀ o, Fz e o → ¬ D o ∧ Fz e' o) (hw : ∀ a, a < m 0 0 → ow' a = ow a) (hA : ad' 71 i = ad 71 i ∧ ad' 72 i = ad 72 i) (he : ∀ j, e'.1 (71000 + i) j = e.1 (71000 + i) j) (hh : eH e' i = eH e i) : KHis m' ow' ad' e' i := by
  obtain ⟨⟨g1, g2⟩, g3, g4, g5, g6, g7⟩ := h
  obtain ⟨a1, a2⟩ := hA
  have hc := g3.1.1
  obtain ⟨l, hr, -⟩ := g3.1.2.2
  rw [g4] at hr
  have q : ∀ j, m' (ad 71 i) j = m (ad 71 i) j := fun j => f.at hc.1 hc.2.1 g2 ho
  have q2 : ∀ a j : Int, Fp m (ad 72 i) a → m' a j = m a j := fun a j ha => by
    refine f.2 a j (Fp.lt hr.1 ha).1 (Fp.lt hr.1 ha).2 ?_
    rcases Fp.split hr.1 ha with k | k
    · rw [g6 a k]; exact ho
    · exact (hz _ (g7 a k)).1
  obtain ⟨o1, o2⟩ := Op.fr hr f.1 fun a j ha _ => q2 a j ha
  unfold KHis
  rw [a1, a2]
  refine ⟨⟨g1, by rw [hw _ hc.2.1]; exact g2⟩, ?_, by rw [q]; exact g4, g5, fun a ha => ?_, fun a ha => ?_⟩
  · rw [he, hh]
    exact g3.fr f.1 (fun j _ => q j) fun a j ha _ => q2 a j (by rw [← g4]; exact ha)
  · have hb := (o1 a).mp ha
    rw [hw a (Fp.lt hr.1 (Op.fp hr.1 hb)).2]
    exact g6 a hb
  · have hb := (o2 a).mp ha
    have hl : a < m 0 0 := by
      obtain ⟨k, k0, k1, k2⟩ := hb
      have h9 := hr.1.2.2.2.2.2.2.2.2 k k0 (by have := hr.1.2.2.2.2.2.1; omega)
      have h6 := hr.1.2.2.2.2.2.2.1
      rcases h9 with ⟨_, h9⟩ | ⟨_, h9⟩
      · omega
      · rw [k2]; exact h9.1.2.1
    rw [hw a hl]
    exact (hz _ (g7 a hb)).2
theorem KAct.fr (h : KAct m ow ad e i) (f : FD m m' ow D) (ho : ¬ D (8000 + i)) (hw : ∀ a, a < m 0 0 → ow' a = ow a) (hA : ad' 8 i = ad 8 i) (hA7 : ∀ i, 0 ≤ i → i < e.1 7 2 → ad' 7 i = ad 7 i) (he : ∀ j, e'.1 (8000 + i) j = e.1 (8000 + i) j) (h7 : e.1 7 2 ≤ e'.1 7 2) : KAct m' ow' ad' e' i := by
  obtain ⟨g1, g2, g3, g4, g5, g6⟩ := h
  have q : ∀ j, m' (ad 8 i) j = m (ad 8 i) j := fun j => f.at g1.1 g1.2.1 g3 ho
  unfold KAct
  rw [hA, he, hA7 _ g4.1 g4.2]
  exact ⟨f.1.ok g1, g2, by rw [hw _ g1.2.1]; exact g3, ⟨g4.1, by omega⟩, by rw [q]; exact g5, fun j j0 j1 => by rw [q, he]; exact g6 j j0 j1⟩
theorem KTsk.fr (h : KTsk m ow ad e i) (f : FD m m' ow D) (ho : ¬ D (9000 + i)) (hw : ∀ a, a < m 0 0 → ow' a = ow a) (hA : ad' 9 i = ad 9 i) (hA7 : ∀ i, 0 ≤ i → i < e.1 7 2 → ad' 7 i = ad 7 i) (he : ∀ j, e'.1 (9000 + i) j = e.1 (9000 + i) j) (h7 : e.1 7 2 ≤ e'.1 7 2) : KTsk m' ow' ad' e' i := by
  obtain ⟨g1, g2, g3, g4, g5, g6⟩ := h
  have q : ∀ j, m' (ad 9 i) j = m (ad 9 i) j := fun j => f.at g1.1 g1.2.1 g3 ho
  unfold KTsk
  rw [hA, he, hA7 _ g4.1 g4.2]
  exact ⟨f.1.ok g1, g2, by rw [hw _ g1.2.1]; exact g3, ⟨g4.1, by omega⟩, by rw [q]; exact g5, fun j hj => by rw [q, he]; exact g6 j hj⟩
theorem KSch.fr (h : KSch m ow ad e i) (f : FD m m' ow D) (ho : ¬ D (10000 + i)) (hw : ∀ a, a < m 0 0 → ow' a = ow a) (hA : ad' 10 i = ad 10 i) (he : ∀ j, e'.1 (10000 + i) j = e.1 (10000 + i) j) : KSch m' ow' ad' e' i := by
  obtain ⟨g1, g2, g3, g6⟩ := h
  have q : ∀ j, m' (ad 10 i) j = m (ad 10 i) j := fun j => f.at g1.1 g1.2.1 g3 ho
  unfold KSch
  rw [hA]
  exact ⟨f.1.ok g1, g2, by rw [hw _ g1.2.1]; exact g3, fun j j0 j1 => by rw [q, he]; exact g6 j j0 j1⟩
/-- a change of D alone -/
def Chg (m m' : MM) (ow ow' : Int → Int) (ad ad' : Int → Int → Int) (e e' : ES) (D : Int → Prop) : Prop := FD m m' ow D ∧ Fix m' ∧ m' 1 (-2) = 0 ∧ (∀ a, a < m 0 0 → ow' a = ow a) ∧ (∀ c i, LvA e c i → ad' c i = ad c i) ∧ (∀ a j, ¬ D a → e'.1 a j = e.1 a j) ∧ (∀ c, ¬ D c → eL e' c = eL e c) ∧ (∀ i, ¬ D (71000 + i) → eH e' i = eH e i) ∧ (¬ D 16 → e'.2.2.2 = e.2.2.2) ∧ ∀ o, Fz e o → ¬ D o ∧ Fz e' o
/-- what is new belongs to D -/
def New (e e' : ES) (D : Int → Prop) : Prop := e.1 7 2 ≤ e'.1 7 2 ∧ (∀ i, e.1 7 2 ≤ i → i < e'.1 7 2 → D (7000 + i) ∧ D (71000 + i) ∧ D (73000 + i) ∧ D (74000 + i) ∧ D (75000 + i)) ∧ (∀ i, e.1 8 2 ≤ i → i < e'.1 8 2 → D (8000 + i)) ∧ (∀ i, e.1 9 2 ≤ i → i < e'.1 9 2 → D (9000 + i)) ∧ (∀ i, e.1 10 2 ≤ i → i < e'.1 10 2 → D (10000 + i)) ∧ ∀ t, isT t → (¬ D t → e'.1 (t + 1) 2 = e.1 (t + 1) 2) ∧ ∀ i, e.1 (t + 1) 2 < i → i ≤ e'.1 (t + 1) 2 → D (1000 * t + i)
theorem isT_b (h : isT t) : 48 ≤ t ∧ t ≤ 60 := by unfold isT at h; omega
theorem RHi.sm {q cu cu' : Int} (h : RHi m r N q b cu) (k : SmT m m' r) (s0 : 0 ≤ m r 1) (hc : cu ≤ cu') : RHi m' r N q b cu' := by
  obtain ⟨L, h1, h2, h3, h4⟩ := h
  exact ⟨L, k.hp s0 h1, by omega, h3, by rw [k.len]; exact h4⟩
/-- a history that is not changed -/
theorem CE.smh (C : CE m ow ad e) (f : FD m m' ow D) (i0 : 0 ≤ i) (i1 : i < e.1 7 2) (i2 : i < 1000) (hD : ¬ D (71000 + i)) : SmT m m' (ad 72 i) ∧ 0 ≤ m (ad 72 i) 1 := by
  obtain ⟨⟨g1, g2⟩, g3, g4, g5, g6, g7⟩ := (C.2 (71000 + i)).2.2.2.2.2.2.2.1 i i0 i1 i2 rfl
  obtain ⟨l, hr, -⟩ := g3.1.2.2
  rw [g4] at hr
  refine ⟨SmT.op hr f.1 fun a j ha _ => ?_, hr.1.2.2.2.2.1⟩
  exact f.2 a j (Fp.lt hr.1 (Op.fp hr.1 ha)).1 (Fp.lt hr.1 (Op.fp hr.1 ha)).2 (by rw [g6 a ha]; exact hD)
theorem CE.cap (C : CE m ow ad e) (hv : LvR e c i) : Cap m (ad c i) (cpK c) := (C.1.2.2.2.2.2.1 (1000 * c + i)).1 c i hv rfl
theorem CE.capM (C : CE m ow ad e) (hr : Mrow r) : Cap m r (mcK r) := (C.1.2.2.2.2.2.1 16).2 rfl r hr
theorem CE.hst (C : CE m ow ad e) : RMh m ad e := C.1.2.2.2.2.2.2.1
/-- no history is changed -/
theorem CE.rmh (C : CE m ow ad e) (f : FD m m' ow D) (hA : ∀ i : Int, 0 ≤ i → i < e.1 7 2 → ad' 72 i = ad 72 i) (hD : ∀ i : Int, 0 ≤ i → i < e.1 7 2 → ¬ D (71000 + i)) (h7 : e'.1 7 2 = e.1 7 2) (hN : ∀ i : Int, 0 ≤ i → i < e.1 7 2 → e'.1 (71000 + i) 1 = e.1 (71000 + i) 1) (h9 : ∀ i : Int, 0 ≤ i → i < e.1 7 2 → e.1 (7000 + i) 9 ≤ e'.1 (7000 + i) 9) (h3 : e.1 3 0 ≤ e'.1 3 0) : RMh m' ad' e' := by
  obtain ⟨q, b, k1, k2, k3⟩ := C.hst
  refine ⟨q, b, k1, by omega, fun i i0 i1 i2 => ?_⟩
  rw [h7] at i1
  rw [hA i i0 i1, hN i i0 i1]
  have h := C.smh f i0 i1 i2 (hD i i0 i1)
  exact (k3 i i0 i1 i2).sm h.1 h.2 (h9 i i0 i1)
theorem CE.chg (C : CE m ow ad e) (h : Chg m m' ow ow' ad ad' e e' D) (hn : New e e' D) (hc : CN e') (h5 : ¬ D 5) (hr : (∀ o, D o → RmX m' ad' e' o) ∧ RMh m' ad' e') (new : ∀ o, D o → Kx m' ow' ad' e' o) : CE m' ow' ad' e' := by
  obtain ⟨⟨c1, c2, c3, c4, c5, c6⟩, K⟩ := C
  obtain ⟨f, hF, h1, hw, hA, he, hl, hh, hm, hz⟩ := h
  obtain ⟨n7, n7', n8, n9, n10, nT⟩ := hn
  have h163 := c1.1
  have lv : ∀ c i : Int, LvR e' c i → ¬ D (1000 * c + i) → LvR e c i ∧ LvA e c i := fun c i hv hD => by
    rcases hv with hv | ⟨h2, h3, h4, h5⟩ | ⟨h2, h3, h4, h5⟩
    · exact ⟨Or.inl hv, Or.inr (Or.inr (Or.inr (Or.inr (Or.inr hv.1))))⟩
    · have h6 : i ≤ e.1 (c + 1) 2 := by
        by_cases hi : i ≤ e.1 (c + 1) 2
        · exact hi
        · exact absurd ((nT c h2).2 i (by omega) h4) hD
      exact ⟨Or.inr (Or.inl ⟨h2, h3, h6, h5⟩), Or.inr (Or.inr (Or.inr (Or.inr (Or.inl ⟨h2, h3, h6⟩))))⟩
    · have h6 : i < e.1 7 2 := by
        by_cases hi : i < e.1 7 2
        · exact hi
        · have := n7' i (by omega) h4
          exfalso
          rcases h2 with rfl | rfl | rfl
          · exact hD this.2.2.1
          · exact hD this.2.2.2.1
          · exact hD this.2.2.2.2
      exact ⟨Or.inr (Or.inr ⟨h2, h3, h6, h5⟩), Or.inl ⟨by omega, h3, h6⟩⟩
  obtain ⟨r1, -, ⟨⟨z1, z2⟩, z3, z4, z5⟩⟩ := c6
  have k46 : ∀ j, m' 46 j = m 46 j := fun j => f.2 46 j (by decide) (by omega) (by rw [z1]; exact h5)
  have k47 : ∀ j, m' 47 j = m 47 j := fun j => f.2 47 j (by decide) (by omega) (by rw [z2]; exact h5)
  have hz' : KZ m' ow' := by
    refine ⟨⟨by rw [hw 46 (by omega)]; exact z1, by rw [hw 47 (by omega)]; exact z2⟩, by rw [k46]; exact z3, by rw [k46]; exact z4, ?_⟩
    unfold FR at z5 ⊢
    rw [k46]
    rw [z3] at z5 ⊢
    exact ⟨by rw [k47]; exact z5.1, fun i i0 => by rw [k47]; exact z5.2 i i0⟩
  have hx : ∀ o, RmX m' ad' e' o := fun o => by
    by_cases hD : D o
    · exact hr.1 o hD
    refine ⟨fun c i hv ho => ?_, fun ho r hR => ?_⟩
    · obtain ⟨v1, v2⟩ := lv c i hv (ho ▸ hD)
      obtain ⟨g1, g2, g3⟩ := (K o).2.2.2.2.2.1 c i v1 ho
      rw [hA c i v2]
      exact (SmT.fr g1 f.1 fun a j ha _ => f.at (Fp.lt g1.1 ha).1 (Fp.lt g1.1 ha).2 (g2 a ha) (ho ▸ hD)).cap ((r1 o).1 c i v1 ho)
    · subst ho
      obtain ⟨g1, g2, -⟩ := (K 16).1 rfl
      obtain ⟨L, hL, -⟩ := g1.2.2.2.2
      exact (SmT.fr (hL r hR).1 f.1 fun a j ha _ => f.at (Fp.lt (hL r hR).1.1 ha).1 (Fp.lt (hL r hR).1.1 ha).2 (g2 a (Or.inr ⟨r, hR, ha⟩)) hD).cap ((r1 16).2 rfl r hR)
  refine ⟨⟨hF, h1, fun a a0 a1 => by rw [hw a (by omega)]; exact c3 a a0 a1, ⟨by rw [hw 162 (by omega)]; exact c4.1, by rw [hA 0 14 (Or.inr (Or.inr (Or.inr (Or.inr (Or.inr rfl)))))]; exact c4.2⟩, hc, hx, hr.2, hz'⟩, fun o => ?_⟩
  by_cases hD : D o
  · exact new o hD
  obtain ⟨k1, k2, k3, k4, k5, k6, k7, k8, k9, k10, k11⟩ := K o
  have a7 : ∀ i, 0 ≤ i → i < e.1 7 2 → ad' 7 i = ad 7 i := fun i i0 i1 => hA 7 i (Or.inl ⟨by omega, i0, i1⟩)
  refine ⟨fun ho => ?_, fun ho => ?_, fun ho => ?_, fun ho => ?_, fun ho => ?_, fun c i hv ho => ?_, fun i i0 i1 i2 ho => ?_, fun i i0 i1 i2 ho => ?_, fun i i0 i1 i2 ho => ?_, fun i i0 i1 i2 ho => ?_, fun i i0 i1 i2 ho => ?_⟩
  · exact (k1 ho).fr f hF (ho ▸ hD) hw hA (fun j => he 16 j (ho ▸ hD)) (hm (ho ▸ hD)) n7
  · exact (k2 ho).fr f hD (by omega) (by omega) hw fun j => he o j hD
  · have hb := isT_b ho
    exact (k3 ho).fr f hD (by omega) (by omega) ho hw hA (fun j => he o j hD) ((nT o ho).1 hD) (c5.2.2.2.2 o ho).1
  · refine (k4 ho).fr f hD hw (he o 2 hD) fun i i0 i1 => hA _ i (Or.inr (Or.inr (Or.inr (Or.inr (Or.inl ⟨ho, i0, ?_⟩)))))
    rw [show o - 1 + 1 = o by omega]
    omega
  · refine (k5 ho).fr f hD hw (he o 2 hD) fun i i0 i1 => hA _ i ?_
    have h4 : o = 7 ∨ o = 8 ∨ o = 9 ∨ o = 10 := by omega
    rcases h4 with rfl | rfl | rfl | rfl
    · exact Or.inl ⟨by omega, i0, i1⟩
    · exact Or.inr (Or.inl ⟨rfl, i0, i1⟩)
    · exact Or.inr (Or.inr (Or.inl ⟨rfl, i0, i1⟩))
    · exact Or.inr (Or.inr (Or.inr (Or.inl ⟨rfl, i0, i1⟩)))
  · have hv0 : LvR e c i ∧ LvA e c i := lv c i hv (ho ▸ hD)
    exact (k6 c i hv0.1 ho).fr f (ho ▸ hD) hw (hA c i hv0.2) (hl _ (ho ▸ hD))
  · have h6 : i < e.1 7 2 := by
      by_cases hi : i < e.1 7 2
      · exact hi
      · exact absurd (n7' i (by omega) i1).1 (ho ▸ hD)
    have hv : ∀ c, (c = 7 ∨ c = 71 ∨ c = 72 ∨ c = 73 ∨ c = 74 ∨ c = 75) → ad' c i = ad c i := fun c hc => hA c i (Or.inl ⟨hc, i0, h6⟩)
    exact (k7 i i0 h6 i2 ho).fr f (ho ▸ hD) hw ⟨hv 7 (by omega), hv 71 (by omega), hv 73 (by omega), hv 74 (by omega), hv 75 (by omega)⟩ fun j => he _ j (ho ▸ hD)
  · have h6 : i < e.1 7 2 := by
      by_cases hi : i < e.1 7 2
      · exact hi
      · exact absurd (n7' i (by omega) i1).2.1 (ho ▸ hD)
    have hv : ∀ c, (c = 7 ∨ c = 71 ∨ c = 72 ∨ c = 73 ∨ c = 74 ∨ c = 75) → ad' c i = ad c i := fun c hc => hA c i (Or.inl ⟨hc, i0, h6⟩)
    exact (k8 i i0 h6 i2 ho).fr f (ho ▸ hD) hz hw ⟨hv 71 (by omega), hv 72 (by omega)⟩ (fun j => he _ j (ho ▸ hD)) (hh i (ho ▸ hD))
  · have h6 : i < e.1 8 2 := by
      by_cases hi : i < e.1 8 2
      · exact hi
      · exact absurd (n8 i (by omega) i1) (ho ▸ hD)
    exact (k9 i i0 h6 i2 ho).fr f (ho ▸ hD) hw (hA 8 i (Or.inr (Or.inl ⟨rfl, i0, h6⟩))) a7 (fun j => he _ j (ho ▸ hD)) n7
  · have h6 : i < e.1 9 2 := by
      by_cases hi : i < e.1 9 2
      · exact hi
      · exact absurd (n9 i (by omega) i1) (ho ▸ hD)
    exact (k10 i i0 h6 i2 ho).fr f (ho ▸ hD) hw (hA 9 i (Or.inr (Or.inr (Or.inl ⟨rfl, i0, h6⟩)))) a7 (fun j => he _ j (ho ▸ hD)) n7
  · have h6 : i < e.1 10 2 := by
      by_cases hi : i < e.1 10 2
      · exact hi
      · exact absurd (n10 i (by omega) i1) (ho ▸ hD)
    exact (k11 i i0 h6 i2 ho).fr f (ho ▸ hD) hw (hA 10 i (Or.inr (Or.inr (Or.inr (Or.inl ⟨rfl, i0, h6⟩))))) fun j => he _ j (ho ▸ hD)
end EN2
