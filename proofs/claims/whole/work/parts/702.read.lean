/-! THE ENGINE: what is there, read; what holds of a code, made from what is asked of it. -/
section EN3
variable {m m' : MM} {ow ow' : Int → Int} {ad ad' : Int → Int → Int} {e e' : ES} {D : Int → Prop} {a b c i j k o r v n h N B t x y : Int} {l : List Int} {E : Int → Ev} {s : TS} {f : Int → Int}
theorem lst_len : (lsq n f).length = n.toNat := by
  unfold lsq
  rw [List.length_map, List.length_range]
theorem lst_get (h0 : 0 ≤ i) (h1 : i < n) : (lsq n f)[i.toNat]? = some (f i) := by
  unfold lsq
  rw [List.getElem?_map, List.getElem?_range (by omega)]
  show some (f ((i.toNat : Nat) : Int)) = _
  rw [show ((i.toNat : Nat) : Int) = i by omega]
theorem lst_app (h0 : 0 ≤ n) : lsq (n + 1) f = lsq n f ++ [f n] := by
  unfold lsq
  rw [show (n + 1).toNat = n.toNat + 1 by omega, List.range_succ, List.map_append]
  show _ ++ [f ((n.toNat : Nat) : Int)] = _
  rw [show ((n.toNat : Nat) : Int) = n by omega]
theorem KLst.size (h : KLst m ow e c f) : fm_Jx4a65c_size_8abf5 c m = some (e.1 c 2) := by
  rw [li_size h.1, lst_len]
  congr 1
  have := h.2.1
  omega
theorem KLst.get (h : KLst m ow e c f) (h0 : 0 ≤ i) (h1 : i < e.1 c 2) : fm_Jx4a65c_get_915e3 c i m = some (f i) := by
  have g := li_get (i := i.toNat) h.1 (lst_get h0 h1)
  rw [show ((i.toNat : Nat) : Int) = i by omega] at g
  exact g
theorem KLst.empty (h : KLst m ow e c f) : fm_Jx4a65c_isEmpty_aae02 c m = some (if e.1 c 2 = 0 then 1 else 0) := by
  rw [li_empty h.1]
  have h2 := h.2.1
  by_cases c1 : e.1 c 2 = 0
  · rw [if_pos c1, if_pos (List.eq_nil_of_length_eq_zero (by rw [lst_len, c1]; rfl))]
  · rw [if_neg c1, if_neg fun hh => by have := congrArg List.length hh; rw [lst_len] at this; simp only [List.length_nil] at this; omega]
theorem CE.fix (C : CE m ow ad e) : Fix m := C.1.1
theorem CE.cn (C : CE m ow ad e) : CN e := C.1.2.2.2.2.1
theorem CE.run (C : CE m ow ad e) (i0 : 0 ≤ i) (i1 : i < e.1 7 2) : KRun m ow ad e i := (C.2 (7000 + i)).2.2.2.2.2.2.1 i i0 i1 (by have := C.cn.1; omega) rfl
theorem CE.his (C : CE m ow ad e) (i0 : 0 ≤ i) (i1 : i < e.1 7 2) : KHis m ow ad e i := (C.2 (71000 + i)).2.2.2.2.2.2.2.1 i i0 i1 (by have := C.cn.1; omega) rfl
theorem CE.act (C : CE m ow ad e) (i0 : 0 ≤ i) (i1 : i < e.1 8 2) : KAct m ow ad e i := (C.2 (8000 + i)).2.2.2.2.2.2.2.2.1 i i0 i1 (by have := C.cn.2.1; omega) rfl
theorem CE.tsk (C : CE m ow ad e) (i0 : 0 ≤ i) (i1 : i < e.1 9 2) : KTsk m ow ad e i := (C.2 (9000 + i)).2.2.2.2.2.2.2.2.2.1 i i0 i1 (by have := C.cn.2.2.1; omega) rfl
theorem CE.sch (C : CE m ow ad e) (i0 : 0 ≤ i) (i1 : i < e.1 10 2) : KSch m ow ad e i := (C.2 (10000 + i)).2.2.2.2.2.2.2.2.2.2 i i0 i1 (by have := C.cn.2.2.2.1; omega) rfl
theorem CE.row (C : CE m ow ad e) (h : LvR e c i) : KRow m ow ad e c i := (C.2 (1000 * c + i)).2.2.2.2.2.1 c i h rfl
theorem CE.lst (C : CE m ow ad e) (h0 : 7 ≤ c) (h1 : c ≤ 10) : KLst m ow e c (ad c) := (C.2 c).2.2.2.2.1 ⟨h0, h1⟩
theorem CE.ver (C : CE m ow ad e) (h : isT t) : KLst m ow e (t + 1) (ad t) := by
  have := (C.2 (t + 1)).2.2.2.1 (by rw [show t + 1 - 1 = t by omega]; exact h)
  rw [show t + 1 - 1 = t by omega] at this
  exact this
theorem CE.typ (C : CE m ow ad e) (h : isT t) : KTyp m ow ad e t := (C.2 t).2.2.1 h
theorem CE.mac (C : CE m ow ad e) : KMac m ow ad e := (C.2 16).1 rfl
theorem CE.glo (C : CE m ow ad e) (h : o = 4 ∨ (11 ≤ o ∧ o ≤ 13) ∨ (64 ≤ o ∧ o ≤ 67)) : KGl m ow e o := (C.2 o).2.1 h
theorem CE.g4 (C : CE m ow ad e) (h0 : 11 ≤ j) (h1 : j ≤ 17) : m 4 j = e.1 4 j := (C.glo (Or.inl rfl)).2 j (Or.inl ⟨rfl, h0, h1⟩)
theorem CE.g3 (C : CE m ow ad e) (o0 : 11 ≤ o) (o1 : o ≤ 13) (h0 : 0 ≤ j) (h1 : j < 3) : m o j = e.1 o j := (C.glo (Or.inr (Or.inl ⟨o0, o1⟩))).2 j (Or.inr (Or.inl ⟨o0, o1, h0, h1⟩))
theorem CE.gk (C : CE m ow ad e) (o0 : 64 ≤ o) (o1 : o ≤ 67) (h0 : 0 ≤ j) (h1 : j < 5) : m o j = e.1 o j := (C.glo (Or.inr (Or.inr ⟨o0, o1⟩))).2 j (Or.inr (Or.inr ⟨o0, o1, h0, h1⟩))
theorem CE.size (C : CE m ow ad e) (h0 : 7 ≤ c) (h1 : c ≤ 10) : fm_Jx4a65c_size_8abf5 c m = some (e.1 c 2) := (C.lst h0 h1).size
theorem CE.get (C : CE m ow ad e) (h0 : 7 ≤ c) (h1 : c ≤ 10) (i0 : 0 ≤ i) (i1 : i < e.1 c 2) : fm_Jx4a65c_get_915e3 c i m = some (ad c i) := (C.lst h0 h1).get i0 i1
theorem CE.rf (C : CE m ow ad e) (i0 : 0 ≤ i) (i1 : i < e.1 7 2) (j0 : 0 ≤ j) (j1 : j ≤ 15) : m (ad 7 i) j = e.1 (7000 + i) j := (C.run i0 i1).2.2.2.1 j j0 j1
theorem CE.rk (C : CE m ow ad e) (i0 : 0 ≤ i) (i1 : i < e.1 7 2) : okc m (ad 7 i) 7 := (C.run i0 i1).1
theorem CE.rinj (C : CE m ow ad e) (i0 : 0 ≤ i) (i1 : i < e.1 7 2) (k0 : 0 ≤ k) (k1 : k < e.1 7 2) (h : ad 7 i = ad 7 k) : i = k := by
  have h1 := (C.run i0 i1).2.2.1
  have h2 := (C.run k0 k1).2.2.1
  rw [h, h2] at h1
  omega
/-- the history of a run -/
theorem KHis.hc (h : KHis m ow ad e i) (x : CX) (h0 : x.1 0 = e.1 (71000 + i) 1) (h1 : x.2.1 = eH e i) : HC m (ad 71 i) (x.1 0) x.2.1 := by
  rw [h0, h1]
  exact h.2.1.1
theorem KHis.nop (h : KHis m ow ad e i) : ¬ Op m (ad 72 i) (ad 71 i) ∧ ¬ Sh m (ad 72 i) (ad 71 i) := by
  obtain ⟨⟨g1, g2⟩, g3, g4, g5, g6, g7⟩ := h
  have hc := g3.1.1
  obtain ⟨l, hr, -⟩ := g3.1.2.2
  rw [g4] at hr
  have hk : ¬ Fp m (ad 72 i) (ad 71 i) := fun hh => by
    have h3 := hc.2.2
    rcases Fp.old hr.1 hh with g | g | g
    · have := g.2.2; omega
    · have := g.2.2; omega
    · have := g.1.2.2; omega
  refine ⟨fun hh => hk (Op.fp hr.1 hh), fun hh => ?_⟩
  obtain ⟨k, k0, k1, k2⟩ := hh
  have h6 := hr.1.2.2.2.2.2.1
  have h7 := hr.1.2.2.2.2.2.2.1
  rcases hr.1.2.2.2.2.2.2.2.2 k k0 (by omega) with ⟨_, h9⟩ | ⟨_, h9⟩
  · omega
  · have h3 := h9.1.2.2
    have h4 := hc.2.2
    rw [k2] at h4
    omega
theorem Kx.of7 (h : KRun m ow ad e i) (i0 : 0 ≤ i) (i1 : i < 1000) : Kx m ow ad e (7000 + i) := by
  unfold Kx
  refine ⟨fun ho => ?_, fun ho => ?_, fun ho => ?_, fun ho => ?_, fun ho => ?_, fun c k hv ho => ?_, fun k k0 k1 k2 ho => ?_, fun k k0 k1 k2 ho => ?_, fun k k0 k1 k2 ho => ?_, fun k k0 k1 k2 ho => ?_, fun k k0 k1 k2 ho => ?_⟩
  all_goals first
    | (have e1 : k = i := by omega
       rw [e1]; exact h)
    | (exfalso; (try simp only [isT, LvR] at *); omega)
theorem Kx.of71 (h : KHis m ow ad e i) (i0 : 0 ≤ i) (i1 : i < 1000) : Kx m ow ad e (71000 + i) := by
  unfold Kx
  refine ⟨fun ho => ?_, fun ho => ?_, fun ho => ?_, fun ho => ?_, fun ho => ?_, fun c k hv ho => ?_, fun k k0 k1 k2 ho => ?_, fun k k0 k1 k2 ho => ?_, fun k k0 k1 k2 ho => ?_, fun k k0 k1 k2 ho => ?_, fun k k0 k1 k2 ho => ?_⟩
  all_goals first
    | (have e1 : k = i := by omega
       rw [e1]; exact h)
    | (exfalso; (try simp only [isT, LvR] at *); omega)
theorem Kx.of8 (h : KAct m ow ad e i) (i0 : 0 ≤ i) (i1 : i < 1000) : Kx m ow ad e (8000 + i) := by
  unfold Kx
  refine ⟨fun ho => ?_, fun ho => ?_, fun ho => ?_, fun ho => ?_, fun ho => ?_, fun c k hv ho => ?_, fun k k0 k1 k2 ho => ?_, fun k k0 k1 k2 ho => ?_, fun k k0 k1 k2 ho => ?_, fun k k0 k1 k2 ho => ?_, fun k k0 k1 k2 ho => ?_⟩
  all_goals first
    | (have e1 : k = i := by omega
       rw [e1]; exact h)
    | (exfalso; (try simp only [isT, LvR] at *); omega)
theorem Kx.of9 (h : KTsk m ow ad e i) (i0 : 0 ≤ i) (i1 : i < 1000) : Kx m ow ad e (9000 + i) := by
  unfold Kx
  refine ⟨fun ho => ?_, fun ho => ?_, fun ho => ?_, fun ho => ?_, fun ho => ?_, fun c k hv ho => ?_, fun k k0 k1 k2 ho => ?_, fun k k0 k1 k2 ho => ?_, fun k k0 k1 k2 ho => ?_, fun k k0 k1 k2 ho => ?_, fun k k0 k1 k2 ho => ?_⟩
  all_goals first
    | (have e1 : k = i := by omega
       rw [e1]; exact h)
    | (exfalso; (try simp only [isT, LvR] at *); omega)
theorem Kx.of10 (h : KSch m ow ad e i) (i0 : 0 ≤ i) (i1 : i < 1000) : Kx m ow ad e (10000 + i) := by
  unfold Kx
  refine ⟨fun ho => ?_, fun ho => ?_, fun ho => ?_, fun ho => ?_, fun ho => ?_, fun c k hv ho => ?_, fun k k0 k1 k2 ho => ?_, fun k k0 k1 k2 ho => ?_, fun k k0 k1 k2 ho => ?_, fun k k0 k1 k2 ho => ?_, fun k k0 k1 k2 ho => ?_⟩
  all_goals first
    | (have e1 : k = i := by omega
       rw [e1]; exact h)
    | (exfalso; (try simp only [isT, LvR] at *); omega)
theorem Kx.ofR (hv : LvR e c i) (h : KRow m ow ad e c i) : Kx m ow ad e (1000 * c + i) := by
  unfold Kx
  refine ⟨fun ho => ?_, fun ho => ?_, fun ho => ?_, fun ho => ?_, fun ho => ?_, fun c' k hv' ho => ?_, fun k k0 k1 k2 ho => ?_, fun k k0 k1 k2 ho => ?_, fun k k0 k1 k2 ho => ?_, fun k k0 k1 k2 ho => ?_, fun k k0 k1 k2 ho => ?_⟩
  all_goals first
    | (have e1 : c' = c ∧ k = i := by (simp only [LvR] at hv hv'; omega)
       rw [e1.1, e1.2]; exact h)
    | (exfalso; (try simp only [isT, LvR] at *); omega)
theorem Kx.of16 (h : KMac m ow ad e) : Kx m ow ad e 16 := by
  unfold Kx
  refine ⟨fun _ => h, fun ho => ?_, fun ho => ?_, fun ho => ?_, fun ho => ?_, fun c' k hv' ho => ?_, fun k k0 k1 k2 ho => ?_, fun k k0 k1 k2 ho => ?_, fun k k0 k1 k2 ho => ?_, fun k k0 k1 k2 ho => ?_, fun k k0 k1 k2 ho => ?_⟩
  all_goals (exfalso; (try simp only [isT, LvR] at *); omega)
theorem Kx.ofG (ho : o = 4 ∨ (11 ≤ o ∧ o ≤ 13) ∨ (64 ≤ o ∧ o ≤ 67)) (h : KGl m ow e o) : Kx m ow ad e o := by
  unfold Kx
  refine ⟨fun ho => ?_, fun _ => h, fun ho => ?_, fun ho => ?_, fun ho => ?_, fun c' k hv' ho => ?_, fun k k0 k1 k2 ho => ?_, fun k k0 k1 k2 ho => ?_, fun k k0 k1 k2 ho => ?_, fun k k0 k1 k2 ho => ?_, fun k k0 k1 k2 ho => ?_⟩
  all_goals (exfalso; (try simp only [isT, LvR] at *); omega)
theorem Kx.ofT (ho : isT o) (h : KTyp m ow ad e o) : Kx m ow ad e o := by
  unfold Kx
  refine ⟨fun ho => ?_, fun ho => ?_, fun _ => h, fun ho => ?_, fun ho => ?_, fun c' k hv' ho => ?_, fun k k0 k1 k2 ho => ?_, fun k k0 k1 k2 ho => ?_, fun k k0 k1 k2 ho => ?_, fun k k0 k1 k2 ho => ?_, fun k k0 k1 k2 ho => ?_⟩
  all_goals (exfalso; (try simp only [isT, LvR] at *); omega)
theorem Kx.ofV (ho : isT t) (h : KLst m ow e (t + 1) (ad t)) : Kx m ow ad e (t + 1) := by
  unfold Kx
  refine ⟨fun ho => ?_, fun ho => ?_, fun ho => ?_, fun _ => by rw [show t + 1 - 1 = t by omega]; exact h, fun ho => ?_, fun c' k hv' ho => ?_, fun k k0 k1 k2 ho => ?_, fun k k0 k1 k2 ho => ?_, fun k k0 k1 k2 ho => ?_, fun k k0 k1 k2 ho => ?_, fun k k0 k1 k2 ho => ?_⟩
  all_goals (exfalso; (try simp only [isT, LvR] at *); omega)
theorem Kx.ofL (h0 : 7 ≤ o) (h1 : o ≤ 10) (h : KLst m ow e o (ad o)) : Kx m ow ad e o := by
  unfold Kx
  refine ⟨fun ho => ?_, fun ho => ?_, fun ho => ?_, fun ho => ?_, fun _ => h, fun c' k hv' ho => ?_, fun k k0 k1 k2 ho => ?_, fun k k0 k1 k2 ho => ?_, fun k k0 k1 k2 ho => ?_, fun k k0 k1 k2 ho => ?_, fun k k0 k1 k2 ho => ?_⟩
  all_goals (exfalso; (try simp only [isT, LvR] at *); omega)
theorem Kx.of0 (ho : o < 4 ∨ o = 68 ∨ o = 162 ∨ o = 99 ∨ 76000 ≤ o) : Kx m ow ad e o := by
  unfold Kx
  refine ⟨fun ho => ?_, fun ho => ?_, fun ho => ?_, fun ho => ?_, fun ho => ?_, fun c' k hv' ho => ?_, fun k k0 k1 k2 ho => ?_, fun k k0 k1 k2 ho => ?_, fun k k0 k1 k2 ho => ?_, fun k k0 k1 k2 ho => ?_, fun k k0 k1 k2 ho => ?_⟩
  all_goals (exfalso; (try simp only [isT, LvR] at *); omega)
/-- one code's change -/
theorem CE.one (C : CE m ow ad e) (f : FD m m' ow (fun a => a = o)) (hF : Fix m') (h1 : m' 1 (-2) = 0) (hw : ∀ a, a < m 0 0 → ow' a = ow a) (he : ∀ a j, a ≠ o → e'.1 a j = e.1 a j) (hl : ∀ c, c ≠ o → eL e' c = eL e c) (hh : ∀ i, 71000 + i ≠ o → eH e' i = eH e i) (hm : o ≠ 16 → e'.2.2.2 = e.2.2.2) (hz0 : ¬ Fz e o) (hd : ∀ i : Int, 0 ≤ i → i < e.1 7 2 → o = 7000 + i → Dead e i → Dead e' i) (hc : ∀ c : Int, (7 ≤ c ∧ c ≤ 10) ∨ isT (c - 1) → e'.1 c 2 = e.1 c 2) (h5 : o ≠ 5) (hr : RmX m' ad e' o ∧ RMh m' ad e') (new : Kx m' ow' ad e' o) : CE m' ow' ad e' := by
  have c7 := hc 7 (by omega)
  have c8 := hc 8 (by omega)
  have c9 := hc 9 (by omega)
  have c10 := hc 10 (by omega)
  have cT : ∀ t, isT t → e'.1 (t + 1) 2 = e.1 (t + 1) 2 := fun t ht => hc (t + 1) (Or.inr (by rw [show t + 1 - 1 = t by omega]; exact ht))
  have cn := C.cn
  refine CE.chg (D := fun a => a = o) C ⟨f, hF, h1, hw, fun _ _ _ => rfl, he, hl, hh, fun h16 => hm (fun h => h16 h.symm), fun o' hz => ⟨fun e1 => hz0 (e1 ▸ hz), ?_⟩⟩ ⟨by omega, fun i i0 i1 => by omega, fun i i0 i1 => by omega, fun i i0 i1 => by omega, fun i i0 i1 => by omega, fun t ht => ⟨fun _ => cT t ht, fun i i0 i1 => by have := cT t ht; omega⟩⟩ ?_ (fun hh => h5 hh.symm) ⟨fun o' ho => ho ▸ hr.1, hr.2⟩ fun o' ho => ho ▸ new
  · obtain ⟨i, i0, i1, i2, i3⟩ := hz
    refine ⟨i, i0, by omega, i2, ?_⟩
    by_cases c1 : o = 7000 + i
    · exact hd i i0 i1 c1 i3
    · unfold Dead at i3 ⊢
      rw [he _ _ (fun hh => c1 hh.symm)]
      exact i3
  · obtain ⟨n1, n2, n3, n4, n5⟩ := cn
    exact ⟨by omega, by omega, by omega, by omega, fun t ht => by have := cT t ht; have := n5 t ht; omega⟩
/-- a code that has no row: nothing of the room changes -/
def NR (o : Int) : Prop := o ≠ 5 ∧ o ≠ 14 ∧ o ≠ 16 ∧ (o < 48000 ∨ 76000 ≤ o)
theorem RmX.of0 (h : NR o) : RmX m ad e o := by
  refine ⟨fun c i hv ho => ?_, fun ho => absurd ho h.2.2.1⟩
  obtain ⟨h1, h2, h3, h4⟩ := h
  exfalso
  simp only [LvR] at hv
  omega
theorem CE.one0 (C : CE m ow ad e) (f : FD m m' ow (fun a => a = o)) (hF : Fix m') (h1 : m' 1 (-2) = 0) (hw : ∀ a, a < m 0 0 → ow' a = ow a) (he : ∀ a j, a ≠ o → e'.1 a j = e.1 a j) (hl : ∀ c, c ≠ o → eL e' c = eL e c) (hh : ∀ i, 71000 + i ≠ o → eH e' i = eH e i) (hm : o ≠ 16 → e'.2.2.2 = e.2.2.2) (hz0 : ¬ Fz e o) (hd : ∀ i : Int, 0 ≤ i → i < e.1 7 2 → o = 7000 + i → Dead e i → Dead e' i) (hc : ∀ c : Int, (7 ≤ c ∧ c ≤ 10) ∨ isT (c - 1) → e'.1 c 2 = e.1 c 2) (hn : NR o) (h9 : ∀ i : Int, 0 ≤ i → i < e.1 7 2 → o = 7000 + i → e.1 o 9 ≤ e'.1 o 9) (h3 : o = 3 → e.1 o 0 ≤ e'.1 o 0) (new : Kx m' ow' ad e' o) : CE m' ow' ad e' := by
  have hn' := hn
  obtain ⟨n1, n2, n3, n4⟩ := hn'
  refine CE.one C f hF h1 hw he hl hh hm hz0 hd hc n1 ⟨RmX.of0 hn, C.rmh f (fun _ _ _ => rfl) (fun i i0 i1 hh => ?_) (hc 7 (by omega)) (fun i i0 i1 => he _ _ ?_) (fun i i0 i1 => ?_) ?_⟩ new
  · have := C.cn.1
    omega
  · have := C.cn.1
    omega
  · by_cases c1 : o = 7000 + i
    · have := h9 i i0 i1 c1
      rw [c1] at this
      exact this
    · rw [he _ _ (fun hh => c1 hh.symm)]
      exact Int.le_refl _
  · by_cases c1 : o = 3
    · have := h3 c1
      rw [c1] at this
      exact this
    · rw [he _ _ (fun hh => c1 hh.symm)]
      exact Int.le_refl _
end EN3
