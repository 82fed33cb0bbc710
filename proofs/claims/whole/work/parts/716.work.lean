/-! THE ENGINE: what is due for a run: activities, timers. -/
section WRK
variable {m m' M2 : MM} {ow ow' : Int → Int} {ad ad' : Int → Int → Int} {e e' e1 e2 : ES} {D : Int → Prop} {a b c i j k o r v n h N B t x y z p tn par pe inp fr p1 p2 p3 p4 p5 p6 kd ln : Int} {l : List Int} {E : Int → Ev} {s : TS} {f : Int → Int}
/-- a run's activities are over -/
def pEndA (r : Int) : Nat → Int → ES → ES
  | 0, _, e => e
  | n + 1, i, e => if i < e.1 8 2 then pEndA r n (i + 1) (if e.1 (8000 + i) 0 = r then eS e (8000 + i) 5 2 else e) else e
/-- its activities and timers are over -/
def pEnd (r : Int) (e : ES) : ES := eLs (eLs (pEndA r 61 0 e) (73000 + r) []) (74000 + r) []
theorem set8_n (h : 0 ≤ i) : (eS e (8000 + i) j v).1 8 2 = e.1 8 2 ∧ (eS e (8000 + i) j v).1 7 2 = e.1 7 2 := ⟨eS_a (by omega), eS_a (by omega)⟩
theorem endA_mo : ∀ (n : Nat) (i : Int) (e : ES), 0 ≤ i → e.1 8 2 ≤ 1000 → MO e (pEndA r n i e) := by
  intro n
  induction n with
  | zero => intro i e _ _; exact MO.rf
  | succ n ih =>
    intro i e i0 h8
    unfold pEndA
    split
    · rename_i c
      split
      · exact (set_mo (j := 5) (v := 2) (Or.inl (by omega)) (by omega) (by omega) (Or.inl (by omega))).tr (ih _ _ (by omega) (by rw [(set8_n i0).1]; exact h8))
      · exact ih _ _ (by omega) h8
    · exact MO.rf
/-- what the activities' end leaves -/
theorem endA_a : ∀ (n : Nat) (i : Int) (e : ES), 0 ≤ i → (pEndA r n i e).2 = e.2 ∧ ∀ a u, (a < 8000 ∨ 8000 + e.1 8 2 ≤ a ∨ u ≠ 5) → (pEndA r n i e).1 a u = e.1 a u := by
  intro n
  induction n with
  | zero => intro i e _; exact ⟨rfl, fun _ _ _ => rfl⟩
  | succ n ih =>
    intro i e i0
    unfold pEndA
    split
    · rename_i c
      split
      · obtain ⟨h1, h2⟩ := ih (i + 1) (eS e (8000 + i) 5 2) (by omega)
        rw [(set8_n i0).1] at h2
        refine ⟨h1, fun a u hh => ?_⟩
        rw [h2 a u hh]
        by_cases ca : a = 8000 + i
        · rw [ca, eS_j (by omega)]
        · exact eS_a ca
      · exact ih _ _ (by omega)
    · exact ⟨rfl, fun _ _ _ => rfl⟩
theorem endA_l (hr : 0 ≤ r) {K : MM → Option (Int × MM)} : ∀ (n f : Nat) (i : Int) (m : MM) (ow : Int → Int) (e : ES), CE m ow ad e → r < e.1 7 2 → 0 ≤ i → i ≤ e.1 8 2 → e.1 8 2 - i < n → n ≤ f → ∃ m', fl_X11_endWork_2 (ad 7 r) K f i m = K m' ∧ CX1 m' ad (pEndA r n i e) := by
  intro n
  induction n with
  | zero => intro f i m ow e C r1 i0 i9 h1 h2; omega
  | succ n ih =>
    intro f i m ow e C r1 i0 i9 h1 h2
    obtain ⟨f, rfl⟩ : ∃ g, f = g + 1 := ⟨f - 1, by omega⟩
    unfold fl_X11_endWork_2 pEndA
    rw [bp_t (C.size (by decide) (by decide))]
    have n8 := C.cn.2.1
    by_cases c1 : i < e.1 8 2
    · obtain ⟨q1, q2, q3⟩ := C.arun i0 c1
      have ha := C.run q2 q3
      have hr4 := (C.run hr r1).2.1
      rw [if_pos c1, if_pos c1, bp_t (C.get (by decide) (by decide) i0 c1), gd_t (C.act i0 c1).1, lx_p, q1, gd_t (Or.inr (Or.inr (by have := ha.2.1; omega))), gd_t (Or.inr (Or.inr (by omega)))]
      by_cases c2 : e.1 (8000 + i) 0 = r
      · rw [if_pos (by rw [c2]), if_pos c2, up_t, lx_p, w32_id (by omega) (by omega)]
        have C1 := C.s8 (v := 2) i0 c1 (j := 5) (by decide) (by decide)
        have hs := set8_n (e := e) (j := 5) (v := 2) i0
        exact ih f (i + 1) _ ow _ C1 (by rw [hs.2]; exact r1) (by omega) (by rw [hs.1]; omega) (by rw [hs.1]; omega) (by omega)
      · rw [if_neg (fun hh => c2 (C.rinj q2 q3 hr r1 hh)), if_neg c2, lx_p, w32_id (by omega) (by omega)]
        exact ih f (i + 1) m ow e C r1 (by omega) (by omega) (by omega) (by omega)
    · rw [if_neg c1, if_neg c1]
      exact ⟨m, rfl, ow, C⟩
theorem CE.lv7 (C : CE m ow ad e) (hc : c = 73 ∨ c = 74 ∨ c = 75) (i0 : 0 ≤ i) (i1 : i < e.1 7 2) : LvR e c i := Or.inr (Or.inr ⟨hc, i0, i1, by have := C.cn.1; omega⟩)
theorem CE.endw (C : CE m ow ad e) (i0 : 0 ≤ i) (i1 : i < e.1 7 2) : ∃ m', fm_X11_endWork (ad 7 i) m = some (0, m') ∧ CX1 m' ad (pEnd i e) := by
  have n8 := C.cn.2.1
  obtain ⟨m1, g1, ow1, C1⟩ := endA_l (ad := ad) (r := i) i0 (K := fun m_83 =>
gd (okc m_83 (ad 7 i) 7) <| lx (m_83 (ad 7 i) 17) fun x_92 =>
gd (okc m_83 x_92 6) <| bd (fm_X5_cut x_92 0 m_83) fun x_98 m_99 =>
lx (m_99 (ad 7 i) 18) fun x_113 =>
gd (okc m_99 x_113 6) <| bd (fm_X5_cut x_113 0 m_99) fun x_119 m_120 =>
some (0, m_120)) 61 BIG 0 m ow e C i1 (by decide) (by omega) (by omega) (Nat.le_of_lt (BIG_g (by decide)))
  have a7 := (endA_a (r := i) 61 0 e (by decide)).2 7 2 (by omega)
  have d7 : i < (pEndA i 61 0 e).1 7 2 := by rw [a7]; exact i1
  obtain ⟨m2, k1, ow2, C2⟩ := C1.cut (n := 0) (C1.lv7 (c := 73) (by omega) i0 d7) (by decide)
  obtain ⟨m3, q1, ow3, C3⟩ := C2.cut (n := 0) (C2.lv7 (c := 74) (i := i) (by omega) i0 d7) (by decide)
  refine ⟨m3, ?_, ow3, ?_⟩
  · unfold fm_X11_endWork
    rw [g1, gd_t (C1.rk i0 d7), lx_p, (C1.run i0 d7).2.2.2.2.2.2.1, gd_t (C1.okr (C1.lv7 (c := 73) (by omega) i0 d7)).1, bd_t k1, lx_p, (C2.run i0 d7).2.2.2.2.2.2.2.1, gd_t (C2.okr (C2.lv7 (c := 74) (by omega) i0 d7)).1, bd_t q1]
  · exact C3
theorem end_mo (h8 : e.1 8 2 ≤ 1000) : MO e (pEnd i e) := (endA_mo 61 0 e (by decide) h8).tr ((row_mo (Or.inl (by simp only [List.length_nil]; omega))).tr (row_mo (Or.inl (by simp only [List.length_nil]; omega))))
theorem end_a {u : Int} (h : a < 8000 ∨ 8000 + e.1 8 2 ≤ a ∨ u ≠ 5) : (pEnd i e).1 a u = e.1 a u := (endA_a (r := i) 61 0 e (by decide)).2 a u h
/-- children part from a parent, those that events from one on have begun -/
def pParL (r fr : Int) : Nat → Int → ES → ES
  | 0, _, e => e
  | n + 1, i, e => if i < e.1 7 2 then pParL r fr n (i + 1) (if e.1 (7000 + i) 4 = r ∧ fr ≤ e.1 (7000 + i) 5 then eS e (7000 + i) 4 (-1) else e) else e
def pPar (r fr : Int) (e : ES) : ES := pParL r fr 31 0 e
theorem set7_n (h : 0 ≤ i) : (eS e (7000 + i) j v).1 8 2 = e.1 8 2 ∧ (eS e (7000 + i) j v).1 7 2 = e.1 7 2 := ⟨eS_a (by omega), eS_a (by omega)⟩
theorem parL_mo : ∀ (n : Nat) (i : Int) (e : ES), 0 ≤ i → e.1 7 2 ≤ 1000 → MO e (pParL r fr n i e) := by
  intro n
  induction n with
  | zero => intro i e _ _; exact MO.rf
  | succ n ih =>
    intro i e i0 h8
    unfold pParL
    split
    · rename_i c
      split
      · exact (set_mo (j := 4) (v := -1) (Or.inl (by omega)) (by omega) (by omega) (Or.inl (by omega))).tr (ih _ _ (by omega) (by rw [(set7_n i0).2]; exact h8))
      · exact ih _ _ (by omega) h8
    · exact MO.rf
theorem parL_a : ∀ (n : Nat) (i : Int) (e : ES), 0 ≤ i → (pParL r fr n i e).2 = e.2 ∧ ∀ a u, (a < 7000 ∨ 7000 + e.1 7 2 ≤ a ∨ u ≠ 4) → (pParL r fr n i e).1 a u = e.1 a u := by
  intro n
  induction n with
  | zero => intro i e _; exact ⟨rfl, fun _ _ _ => rfl⟩
  | succ n ih =>
    intro i e i0
    unfold pParL
    split
    · rename_i c
      split
      · obtain ⟨h1, h2⟩ := ih (i + 1) (eS e (7000 + i) 4 (-1)) (by omega)
        rw [(set7_n i0).2] at h2
        refine ⟨h1, fun a u hh => ?_⟩
        rw [h2 a u hh]
        by_cases ca : a = 7000 + i
        · rw [ca, eS_j (by omega)]
        · exact eS_a ca
      · exact ih _ _ (by omega)
    · exact ⟨rfl, fun _ _ _ => rfl⟩
theorem parL_l : ∀ (n f : Nat) (i : Int) (m : MM) (ow : Int → Int) (e : ES), CE m ow ad e → 0 ≤ i → i ≤ e.1 7 2 → e.1 7 2 - i < n → n ≤ f → ∃ m', fl_X11_partFromChildren_2 r fr f i m = some (0, m') ∧ CX1 m' ad (pParL r fr n i e) := by
  intro n
  induction n with
  | zero => intro f i m ow e C i0 i9 h1 h2; omega
  | succ n ih =>
    intro f i m ow e C i0 i9 h1 h2
    obtain ⟨f, rfl⟩ : ∃ g, f = g + 1 := ⟨f - 1, by omega⟩
    unfold fl_X11_partFromChildren_2 pParL
    rw [bp_t (C.size (by decide) (by decide))]
    have n7 := C.cn.1
    by_cases c1 : i < e.1 7 2
    · rw [if_pos c1, if_pos c1, bp_t (C.get (by decide) (by decide) i0 c1), gd_t (C.rk i0 c1), lx_p, C.rf i0 c1 (by decide) (by decide)]
      by_cases c2 : e.1 (7000 + i) 4 = r
      · rw [if_pos c2, lx_p, C.rf i0 c1 (by decide) (by decide)]
        by_cases c3 : e.1 (7000 + i) 5 < fr
        · rw [if_pos c3, if_neg (show ¬ (e.1 (7000 + i) 4 = r ∧ fr ≤ e.1 (7000 + i) 5) from fun hh => by omega), lx_p, w32_id (by omega) (by omega)]
          exact ih f (i + 1) m ow e C (by omega) (by omega) (by omega) (by omega)
        · rw [if_neg c3, if_pos (show e.1 (7000 + i) 4 = r ∧ fr ≤ e.1 (7000 + i) 5 from ⟨c2, by omega⟩), up_t, lx_p, w32_id (by omega) (by omega)]
          have C1 := C.s7 (v := -1) i0 c1 (j := 4) (by decide) (by decide) (fun hh => by omega)
          have hs := set7_n (e := e) (j := 4) (v := -1) i0
          exact ih f (i + 1) _ ow _ C1 (by omega) (by rw [hs.2]; omega) (by rw [hs.2]; omega) (by omega)
      · rw [if_neg c2, if_neg (show ¬ (e.1 (7000 + i) 4 = r ∧ fr ≤ e.1 (7000 + i) 5) from fun hh => c2 hh.1), lx_p, w32_id (by omega) (by omega)]
        exact ih f (i + 1) m ow e C (by omega) (by omega) (by omega) (by omega)
    · rw [if_neg c1, if_neg c1]
      exact ⟨m, rfl, ow, C⟩
theorem CE.parts (C : CE m ow ad e) : ∃ m', fm_X11_partFromChildren r fr m = some (0, m') ∧ CX1 m' ad (pPar r fr e) := by
  have n7 := C.cn.1
  exact parL_l 31 BIG 0 m ow e C (by decide) (by omega) (by omega) (Nat.le_of_lt (BIG_g (by decide)))
theorem par_mo (h7 : e.1 7 2 ≤ 1000) : MO e (pPar r fr e) := parL_mo 31 0 e (by decide) h7
theorem par_a {u : Int} (h : a < 7000 ∨ 7000 + e.1 7 2 ≤ a ∨ u ≠ 4) : (pPar r fr e).1 a u = e.1 a u := (parL_a (r := r) (fr := fr) 31 0 e (by decide)).2 a u h
/-- a timer -/
def pAddT (i ev due : Int) (e : ES) : ES := eLs (eS (eLs e (73000 + i) (eL e (73000 + i) ++ [ev])) 3 1 (e.1 3 1 + 1)) (74000 + i) (eL e (74000 + i) ++ [due])
theorem addT_1 {u : Int} (h : a ≠ 3) : (pAddT i o v e).1 a u = e.1 a u := eS_a h
theorem addT_mo (hl : (eL e (73000 + i)).length = (eL e (74000 + i)).length) (i0 : 0 ≤ i) (i1 : i < 1000) : MO e (pAddT i o v e) := by
  obtain ⟨h1, h2⟩ := rowadd_mo (e := e) (c := 73000 + i) (v := o) (by omega)
  refine ⟨h1, fun g => ?_⟩
  obtain ⟨g1, g2, g3, g4, g5, g6, g7⟩ := h2 g
  have g31 : (eS (eLs e (73000 + i) (eL e (73000 + i) ++ [o])) 3 1 (e.1 3 1 + 1)).1 3 1 = e.1 3 1 + 1 := eS_e
  have n7 : (eS (eLs e (73000 + i) (eL e (73000 + i) ++ [o])) 3 1 (e.1 3 1 + 1)).1 7 2 = e.1 7 2 := eS_a (by decide)
  refine ⟨g1, g2, g3, g4, g5, g6, fun c j hc j0 j1 => ?_⟩
  show (((if 1000 * c + j = 74000 + i then eL e (74000 + i) ++ [v] else eL (eS (eLs e (73000 + i) (eL e (73000 + i) ++ [o])) 3 1 (e.1 3 1 + 1)) (1000 * c + j)).length : Nat) : Int) ≤ (eS (eLs e (73000 + i) (eL e (73000 + i) ++ [o])) 3 1 (e.1 3 1 + 1)).1 3 1
  by_cases c1 : 1000 * c + j = 74000 + i
  · rw [if_pos c1, List.length_append, g31]
    simp only [List.length_cons, List.length_nil]
    have j1' : j < e.1 7 2 := by rw [← n7]; exact j1
    have g := g.2.2.2.2.2.2 c j hc j0 j1'
    rw [c1] at g
    omega
  · rw [if_neg c1]
    exact g7 c j hc j0 j1
theorem CE.addT (C : CE m ow ad e) (i0 : 0 ≤ i) (i1 : i < e.1 7 2) (hl : BDl e) (hf : BDf (pAddT i o v e)) (hT9 : (eL e (73000 + i)).length < 512 ∧ (eL e (74000 + i)).length < 512) : ∃ m', fm_X6_addTimer (ad 7 i) o v m = some (0, m') ∧ CX1 m' ad (pAddT i o v e) := by
  have b3 := hl.2.2.2.2.2.2 73 i (by omega) i0 i1
  have b4 := hl.2.2.2.2.2.2 74 i (by omega) i0 i1
  have hf3 := hf.2.2
  have hn7 := C.cn.1
  have e31 : (pAddT i o v e).1 3 1 = e.1 3 1 + 1 := (eS_e : (eS (eLs e (73000 + i) (eL e (73000 + i) ++ [o])) 3 1 (e.1 3 1 + 1)).1 3 1 = _)
  rw [e31] at hf3
  obtain ⟨m1, g1, ow1, C1⟩ := C.add (v := o) (C.lv7 (c := 73) (by omega) i0 i1) (by show ((eL e (73000 + i)).length : Int) < 64 * 8; omega)
  have C1' := C1.gS (o := 3) (j := 1) (v := e.1 3 1 + 1) (by omega)
  have d7 : i < (eS (eLs e (1000 * 73 + i) (eL e (1000 * 73 + i) ++ [o])) 3 1 (e.1 3 1 + 1)).1 7 2 := by rw [eS_a (by decide)]; exact i1
  have e74 : eL (eS (eLs e (1000 * 73 + i) (eL e (1000 * 73 + i) ++ [o])) 3 1 (e.1 3 1 + 1)) (1000 * 74 + i) = eL e (1000 * 74 + i) := eLs_a (by omega)
  obtain ⟨m2, k1, ow2, C2⟩ := C1'.add (v := v) (C1'.lv7 (c := 74) (by omega) i0 d7) (by rw [e74]; show ((eL e (74000 + i)).length : Int) < 64 * 8; omega)
  rw [e74] at C2
  refine ⟨m2, ?_, ow2, C2⟩
  unfold fm_X6_addTimer
  rw [lx_p, (C.run i0 i1).2.2.2.2.2.2.1, gd_t (C.okr (C.lv7 (c := 73) (by omega) i0 i1)).1, bd_t g1, lx_p, (C1'.run i0 d7).2.2.2.2.2.2.2.1, gd_t (C1'.okr (C1'.lv7 (c := 74) (by omega) i0 d7)).1, bd_t k1]
/-- a run's timers of an event are there no more -/
def pDrTL (r ev : Int) : Nat → Int → ES → ES
  | 0, _, e => e
  | n + 1, k, e => if k < 0 then e else pDrTL r ev n (k - 1) (if (eL e (73000 + r)).getD k.toNat 0 = ev then eLs (eLs e (73000 + r) ((eL e (73000 + r)).eraseIdx k.toNat)) (74000 + r) ((eL e (74000 + r)).eraseIdx k.toNat) else e)
def pDrT (r ev : Int) (e : ES) : ES := pDrTL r ev ((eL e (73000 + r)).length + 1 + 1) ((eL e (73000 + r)).length - 1) e
theorem drTL_1 : ∀ (n : Nat) (k : Int) (e : ES), (pDrTL r v n k e).1 = e.1 := by
  intro n
  induction n with
  | zero => intro k e; rfl
  | succ n ih =>
    intro k e
    unfold pDrTL
    split
    · rfl
    · rw [ih]
      split <;> rfl
theorem drTL_mo : ∀ (n : Nat) (k : Int) (e : ES), MO e (pDrTL r v n k e) := by
  intro n
  induction n with
  | zero => intro k e; exact MO.rf
  | succ n ih =>
    intro k e
    unfold pDrTL
    split
    · exact MO.rf
    · split
      · refine ((row_mo (Or.inl ?_)).tr (row_mo (Or.inl ?_))).tr (ih _ _)
        · have := List.length_eraseIdx_le (eL e (73000 + r)) k.toNat
          omega
        · rw [eLs_a (by omega)]
          have := List.length_eraseIdx_le (eL e (74000 + r)) k.toNat
          omega
      · exact ih _ _
theorem drTL_l (r0 : 0 ≤ r) : ∀ (n f : Nat) (k : Int) (m : MM) (ow : Int → Int) (e : ES), CE m ow ad e → r < e.1 7 2 → (eL e (73000 + r)).length = (eL e (74000 + r)).length → (∀ v ∈ eL e (73000 + r), 0 ≤ v ∧ v < 524288) → k < (eL e (73000 + r)).length → -1 ≤ k ∧ k < 268435456 → k + 1 < n → n ≤ f → ∃ m', fl_X6_dropTimer_10 (ad 7 r) v f k m = some (0, m') ∧ CX1 m' ad (pDrTL r v n k e) := by
  intro n
  induction n with
  | zero =>
    intro f k m ow e C r1 hl hv k1 k2 h1 h2
    omega
  | succ n ih =>
    intro f k m ow e C r1 hl hv k1 k2 h1 h2
    obtain ⟨f, rfl⟩ : ∃ g, f = g + 1 := ⟨f - 1, by omega⟩
    unfold fl_X6_dropTimer_10 pDrTL
    by_cases c0 : k < 0
    · rw [if_pos c0, if_pos c0]
      exact ⟨m, rfl, ow, C⟩
    · have hw := C.rat (n := k) (C.lv7 (c := 73) (by omega) r0 r1) (by omega)
      have lt := C.lv7 (c := 73) (i := r) (by omega) r0 r1
      have hg : (eL e (73000 + r)).getD k.toNat 0 ∈ eL e (73000 + r) := by
        rw [List.getD_eq_getElem?_getD, List.getElem?_eq_getElem (by omega)]
        exact List.getElem_mem _
      have hb := hv _ hg
      have hat : fm_X5_at (ad 73 r) k m = some ((eL e (73000 + r)).getD k.toNat 0) := by
        unfold fm_X5_at
        rw [bp_t hw]
        congr 1
        exact w32_id (by show _ ≤ (eL e (73000 + r)).getD k.toNat 0; omega) (by show (eL e (73000 + r)).getD k.toNat 0 < _; omega)
      rw [if_neg c0, if_neg c0, lx_p, (C.run r0 r1).2.2.2.2.2.2.1, gd_t (C.okr lt).1, bp_t hat]
      by_cases c2 : (eL e (73000 + r)).getD k.toNat 0 = v
      · rw [if_pos c2, if_pos c2]
        obtain ⟨m1, g1, ow1, C1⟩ := C.rem (p := k.toNat) lt (by show k.toNat < (eL e (73000 + r)).length; omega)
        rw [show ((k.toNat : Nat) : Int) = k by omega] at g1
        have e74 : eL (eLs e (1000 * 73 + r) ((eL e (1000 * 73 + r)).eraseIdx k.toNat)) (1000 * 74 + r) = eL e (1000 * 74 + r) := eLs_a (by omega)
        have lt4 := C1.lv7 (c := 74) (i := r) (by omega) r0 r1
        obtain ⟨m2, k1', ow2, C2⟩ := C1.rem (p := k.toNat) lt4 (by rw [e74]; show k.toNat < (eL e (74000 + r)).length; omega)
        rw [show ((k.toNat : Nat) : Int) = k by omega] at k1'
        rw [e74] at C2
        rw [bd_t g1, lx_p, (C1.run r0 r1).2.2.2.2.2.2.2.1, gd_t (C1.okr lt4).1, bd_t k1', lx_p, w32_id (by omega) (by omega), show k + -1 = k - 1 from rfl]
        have l3 : eL (eLs (eLs e (73000 + r) ((eL e (73000 + r)).eraseIdx k.toNat)) (74000 + r) ((eL e (74000 + r)).eraseIdx k.toNat)) (73000 + r) = (eL e (73000 + r)).eraseIdx k.toNat := by
          rw [eLs_a (by omega)]
          exact eLs_e
        have l4 : eL (eLs (eLs e (73000 + r) ((eL e (73000 + r)).eraseIdx k.toNat)) (74000 + r) ((eL e (74000 + r)).eraseIdx k.toNat)) (74000 + r) = (eL e (74000 + r)).eraseIdx k.toNat := eLs_e
        refine ih f (k - 1) m2 ow2 _ C2 r1 ?_ ?_ ?_ (by omega) (by omega) (by omega)
        · rw [l3, l4, List.length_eraseIdx, List.length_eraseIdx, hl]
        · rw [l3]
          exact fun v hv' => hv v (List.mem_of_mem_eraseIdx hv')
        · rw [l3, List.length_eraseIdx, if_pos (by omega)]
          omega
      · rw [if_neg c2, if_neg c2, lx_p, w32_id (by omega) (by omega), show k + -1 = k - 1 from rfl]
        exact ih f (k - 1) m ow e C r1 hl hv (by omega) (by omega) (by omega) (by omega)
theorem CE.drT (C : CE m ow ad e) (r0 : 0 ≤ r) (r1 : r < e.1 7 2) (hl : (eL e (73000 + r)).length = (eL e (74000 + r)).length) (hv : ∀ v ∈ eL e (73000 + r), 0 ≤ v ∧ v < 524288) (hb : (eL e (73000 + r)).length < 268435456) : ∃ m', fm_X6_dropTimer (ad 7 r) v m = some (0, m') ∧ CX1 m' ad (pDrT r v e) := by
  have lt := C.lv7 (c := 73) (i := r) (by omega) r0 r1
  have hs : m (ad 73 r) 2 = ((eL e (73000 + r)).length : Int) := (C.okr lt).2
  obtain ⟨m1, g1, g2⟩ := drTL_l (ad := ad) (v := v) r0 ((eL e (73000 + r)).length + 1 + 1) BIG ((eL e (73000 + r)).length - 1) m ow e C r1 hl hv (by omega) (by omega) (by omega) (Nat.le_of_lt (BIG_g (by omega)))
  refine ⟨m1, ?_, ?_⟩
  · unfold fm_X6_dropTimer
    rw [lx_p, (C.run r0 r1).2.2.2.2.2.2.1, gd_t (C.okr lt).1, lx_p, hs, lx_p, w32_id (by omega) (by omega), g1]
  · exact g2
theorem drT_1 : (pDrT r v e).1 = e.1 := drTL_1 _ _ _
theorem drT_mo : MO e (pDrT r v e) := drTL_mo _ _ _
end WRK
