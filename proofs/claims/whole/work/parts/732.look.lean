/-! THE ENGINE: a tick looks at an activity, and at a schedule. -/
section LOK
variable {m m' M2 m0 : MM} {ow ow' : Int → Int} {ad ad' ad1 : Int → Int → Int} {e e' e1 e2 : ES} {D : Int → Prop} {a b c i j k o r v w h N B t y z q lim c2 c3 p p1 p2 p3 : Int} {n : Nat} {x : CX} {l : List Int} {E : Int → Ev} {s S : TS} {f : Int → Int}
/-- a limit is reached -/
abbrev late (e : ES) (l b : Int) : Prop := 0 < l ∧ l ≤ e.1 4 14 - b
theorem late_e (C : CE m ow ad e) (ht : 0 ≤ e.1 4 14 ∧ e.1 4 14 < 1000000) (hq : 0 ≤ q ∧ q < 1000000) : fm_X11_isReached p q m = some (if late e p q then 1 else 0) := by
  have e14 : m 4 14 = e.1 4 14 := C.g4 (by decide) (by decide)
  unfold fm_X11_isReached
  by_cases c1 : 0 < p
  · rw [if_pos c1, lx_p, e14, w32_id (by omega) (by omega)]
    by_cases c2 : e.1 4 14 - q < p
    · rw [if_pos c2, if_neg (fun h => by have := h.2; omega)]
    · rw [if_neg c2, if_pos ⟨c1, by omega⟩]
  · rw [if_neg c1, if_neg (fun h => c1 h.1)]
def pLookA (p : Int) (e : ES) : ES :=
  if e.1 (8000 + p) 5 = 0 ∧ e.1 (8000 + p) 6 = 0 then
    (if late e (e.1 (64 + e.1 (8000 + p) 2) 2) (e.1 (8000 + p) 4) then pArr (e.1 (8000 + p) 0) 2 (e.1 (8000 + p) 1) 0 (eS e (8000 + p) 5 2) else e)
  else if e.1 (8000 + p) 5 = 1 ∧ (late e (e.1 (64 + e.1 (8000 + p) 2) 3) (e.1 (8000 + p) 8) ∨ late e (e.1 (64 + e.1 (8000 + p) 2) 4) (e.1 (8000 + p) 9)) then pMiss p 0 e
  else e
theorem CE.lookA (C : CE m ow ad e) (hb : BD e) (hG : WGlo e) (hA : WAct e p) (hlv : e.1 (8000 + p) 5 ≠ 2 → ¬ Dead e (e.1 (8000 + p) 0)) (i0 : 0 ≤ p) (i1 : p < e.1 8 2) : ∃ m', fm_X11_lookAtActivity (ad 8 p) m = some (0, m') ∧ CX1 m' ad (pLookA p e) := by
  have hA' := hA
  obtain ⟨a1, a2, a3, a4, a5, a6, a7, a8, a9, a10⟩ := hA'
  have n8 := C.cn.2.1
  have n7 := C.cn.1
  have hbt := hb.1
  have kk := C.kk a2.1 a2.2
  have f4 : m (ad 8 p) 4 = e.1 (8000 + p) 4 := C.af i0 i1 (by decide) (by decide)
  have f5 : m (ad 8 p) 5 = e.1 (8000 + p) 5 := C.af i0 i1 (by decide) (by decide)
  have f6 : m (ad 8 p) 6 = e.1 (8000 + p) 6 := C.af i0 i1 (by decide) (by decide)
  have f8 : m (ad 8 p) 8 = e.1 (8000 + p) 8 := C.af i0 i1 (by decide) (by decide)
  have f9 : m (ad 8 p) 9 = e.1 (8000 + p) 9 := C.af i0 i1 (by decide) (by decide)
  have u2 : m (64 + e.1 (8000 + p) 2) 2 = e.1 (64 + e.1 (8000 + p) 2) 2 := C.gk (by omega) (by omega) (by decide) (by decide)
  have u3 : m (64 + e.1 (8000 + p) 2) 3 = e.1 (64 + e.1 (8000 + p) 2) 3 := C.gk (by omega) (by omega) (by decide) (by decide)
  have u4 : m (64 + e.1 (8000 + p) 2) 4 = e.1 (64 + e.1 (8000 + p) 2) 4 := C.gk (by omega) (by omega) (by decide) (by decide)
  have part69 : ¬ (e.1 (8000 + p) 5 = 0 ∧ e.1 (8000 + p) 6 = 0) → ∃ m', fj_X11_lookAtActivity_69 (ad 8 p) (64 + e.1 (8000 + p) 2) m = some (0, m') ∧ CX1 m' ad (pLookA p e) := fun cn => by
    have miss : e.1 (8000 + p) 5 = 1 → ∃ m', fj_X11_lookAtActivity_107 (ad 8 p) m = some (0, m') ∧ CX1 m' ad (pMiss p 0 e) := fun c1 => by
      obtain ⟨m1, g1, g2⟩ := C.miss (v := 0) hb hG hA (hlv (by omega)) i0 i1
      refine ⟨m1, ?_, g2⟩
      unfold fj_X11_lookAtActivity_107
      rw [bd_t g1]
    unfold fj_X11_lookAtActivity_69 pLookA
    rw [if_neg cn, gd_t (C.act i0 i1).1, lx_p, f5]
    by_cases c1 : e.1 (8000 + p) 5 = 1
    · rw [if_pos c1, gd_t kk, lx_p, u3, lx_p, f8, bp_t (late_e C hbt a8)]
      by_cases c2 : late e (e.1 (64 + e.1 (8000 + p) 2) 3) (e.1 (8000 + p) 8)
      · rw [if_pos c2, if_neg (show ¬ (1 : Int) = 0 by decide), if_pos (show e.1 (8000 + p) 5 = 1 ∧ (late e (e.1 (64 + e.1 (8000 + p) 2) 3) (e.1 (8000 + p) 8) ∨ late e (e.1 (64 + e.1 (8000 + p) 2) 4) (e.1 (8000 + p) 9)) from ⟨c1, Or.inl c2⟩)]
        exact miss c1
      · rw [if_neg c2, if_pos (show (0 : Int) = 0 from rfl), lx_p, u4, lx_p, f9, bp_t (late_e C hbt a9)]
        by_cases c3 : late e (e.1 (64 + e.1 (8000 + p) 2) 4) (e.1 (8000 + p) 9)
        · rw [if_pos c3, if_neg (show ¬ (1 : Int) = 0 by decide), if_pos (show e.1 (8000 + p) 5 = 1 ∧ (late e (e.1 (64 + e.1 (8000 + p) 2) 3) (e.1 (8000 + p) 8) ∨ late e (e.1 (64 + e.1 (8000 + p) 2) 4) (e.1 (8000 + p) 9)) from ⟨c1, Or.inr c3⟩)]
          exact miss c1
        · rw [if_neg c3, if_pos (show (0 : Int) = 0 from rfl), if_neg (fun h => h.2.elim c2 c3)]
          exact ⟨m, rfl, ow, C⟩
    · rw [if_neg c1, if_neg (fun h => c1 h.1)]
      exact ⟨m, rfl, ow, C⟩
  unfold fm_X11_lookAtActivity
  rw [gd_t (C.act i0 i1).1, lx_p, C.af i0 i1 (by decide) (by decide), bp_t (fmod_e (by omega) (by omega) (by decide) (by decide)), Int.emod_eq_of_lt a2.1 a2.2, gd_t a2, lx_p, (ar5 C.fix a2.1 a2.2).2, lx_p, f5]
  by_cases c1 : e.1 (8000 + p) 5 = 0
  · rw [if_pos c1, lx_p, f6]
    by_cases c2 : e.1 (8000 + p) 6 = 0
    · unfold pLookA
      rw [if_pos c2, if_pos (show e.1 (8000 + p) 5 = 0 ∧ e.1 (8000 + p) 6 = 0 from ⟨c1, c2⟩), gd_t kk, lx_p, u2, lx_p, f4, bp_t (late_e C hbt a4)]
      by_cases c3 : late e (e.1 (64 + e.1 (8000 + p) 2) 2) (e.1 (8000 + p) 4)
      · have C1 := C.s8 (v := 2) i0 i1 (j := 5) (by decide) (by decide)
        have d8 : p < (eS e (8000 + p) 5 2).1 8 2 := by rw [eS_a (by omega)]; exact i1
        obtain ⟨q1, q2, q3⟩ := C1.arun i0 d8
        rw [eS_j (by decide)] at q1 q2 q3
        have q9 := (C.arun i0 i1).2.2
        obtain ⟨m1, g1, g2⟩ := C1.arr (k := 2) (x := e.1 (8000 + p) 1) (y := 0) q2 q3 (fun hh => hlv (by omega) ((Dead.set (Or.inl (by omega))).mp hh)) (hb.set (by omega) (by omega) (by omega) (fun i _ _ => by omega)) (by decide) (by decide) a1.1 a1.2 (by decide) (by decide)
        refine ⟨m1, ?_, ?_⟩
        · rw [if_pos c3, if_neg (show ¬ (1 : Int) = 0 by decide), up_t, lx_p, q1, lx_p, C1.af i0 d8 (by decide) (by decide), eS_j (by decide), bd_t g1]
        · rw [if_pos c3]
          exact g2
      · rw [if_neg c3, if_pos (show (0 : Int) = 0 from rfl), if_neg c3]
        exact ⟨m, rfl, ow, C⟩
    · rw [if_neg c2]
      exact part69 fun h => c2 h.2
  · rw [if_neg c1]
    exact part69 fun h => c1 h.1
/-- the run that a schedule started last is open -/
abbrev lastO (e : ES) (s : Int) : Prop := (0 ≤ e.1 (10000 + s) 6 ∧ e.1 (10000 + s) 6 < e.1 7 2) ∧ e.1 (7000 + e.1 (10000 + s) 6) 6 = 0
theorem lastO_e (C : CE m ow ad e) (i0 : 0 ≤ p) (i1 : p < e.1 10 2) : fm_X11_lastIsOpen (ad 10 p) m = some (if lastO e p then 1 else 0) := by
  have e6 : m (ad 10 p) 6 = e.1 (10000 + p) 6 := C.sf i0 i1 (by decide) (by decide)
  unfold fm_X11_lastIsOpen
  rw [gd_t (C.sch i0 i1).1, lx_p, e6]
  by_cases c1 : e.1 (10000 + p) 6 < 0
  · rw [if_pos c1, if_neg (fun h => by have := h.1.1; omega)]
  · rw [if_neg c1, bp_t (C.size (c := 7) (by decide) (by decide))]
    by_cases c2 : e.1 (10000 + p) 6 < e.1 7 2
    · rw [if_pos c2, bp_t (C.get (c := 7) (by decide) (by decide) (by omega) c2), gd_t (C.rk (by omega) c2), lx_p, C.rf (by omega) c2 (j := 6) (by decide) (by decide)]
      by_cases c3 : e.1 (7000 + e.1 (10000 + p) 6) 6 = 0
      · rw [if_pos c3, if_pos ⟨⟨by omega, c2⟩, c3⟩]
      · rw [if_neg c3, if_neg (fun h => c3 h.2)]
    · rw [if_neg c2, if_neg (fun h => c2 h.1.2)]
/-- a schedule starts a run -/
def pStF (p v : Int) (e : ES) : ES := if e.1 7 2 < 30 then eS (pStart (e.1 (10000 + p) 0) (e.1 (10000 + p) 1) v (-1) 0 e) (10000 + p) 6 (e.1 7 2) else e
/-- a schedule comes by a point -/
def pMeet (p v : Int) (e : ES) : ES :=
  if ¬ lastO e p ∨ e.1 (10000 + p) 3 = 3 then pStF p v e
  else if e.1 (10000 + p) 3 = 1 then (if e.1 (10000 + p) 7 = 0 then eS (eS e (10000 + p) 7 1) (10000 + p) 8 v else e)
  else if e.1 (10000 + p) 3 = 2 then pStF p v (pCan (e.1 (10000 + p) 6) e).2
  else e
/-- what a step of a schedule leaves -/
def MT (p : Int) (e e' : ES) : Prop := MO e e' ∧ (∀ c : Int, 8 ≤ c → c ≤ 10 → e'.1 c 2 = e.1 c 2) ∧ (e.1 7 2 ≤ e'.1 7 2 ∧ (e.1 7 2 ≤ 30 → e'.1 7 2 ≤ 30)) ∧ (∀ u : Int, u ≠ 6 → u ≠ 7 → u ≠ 8 → e'.1 (10000 + p) u = e.1 (10000 + p) u) ∧ (0 ≤ e.1 (10000 + p) 8 ∧ e.1 (10000 + p) 8 ≤ 999 → 0 ≤ e'.1 (10000 + p) 8 ∧ e'.1 (10000 + p) 8 ≤ 999) ∧ (e'.1 4 14 = e.1 4 14 ∧ e'.1 4 15 = e.1 4 15) ∧ ∀ t, isT t → e'.1 (t + 1) 2 = e.1 (t + 1) 2
theorem MT.rf : MT p e e := ⟨MO.rf, fun _ _ _ => rfl, ⟨Int.le_refl _, id⟩, fun _ _ _ _ => rfl, id, ⟨rfl, rfl⟩, fun _ _ => rfl⟩
theorem MT.tr (h : MT p e e1) (k : MT p e1 e2) : MT p e e2 := ⟨h.1.tr k.1, fun c h1 h2 => (k.2.1 c h1 h2).trans (h.2.1 c h1 h2), ⟨Int.le_trans h.2.2.1.1 k.2.2.1.1, fun g => k.2.2.1.2 (h.2.2.1.2 g)⟩, fun u h1 h2 h3 => (k.2.2.2.1 u h1 h2 h3).trans (h.2.2.2.1 u h1 h2 h3), fun g => k.2.2.2.2.1 (h.2.2.2.2.1 g), ⟨k.2.2.2.2.2.1.1.trans h.2.2.2.2.2.1.1, k.2.2.2.2.2.1.2.trans h.2.2.2.2.2.1.2⟩, fun t ht => (k.2.2.2.2.2.2 t ht).trans (h.2.2.2.2.2.2 t ht)⟩
theorem MT.set (hp : 0 ≤ p) (hp2 : p < 1000) (hj : j = 6 ∨ j = 7 ∨ (j = 8 ∧ 0 ≤ v ∧ v ≤ 999)) : MT p e (eS e (10000 + p) j v) := by
  refine ⟨set_mo (Or.inl (by omega)) (by omega) (by omega) (Or.inl (by omega)), fun c h1 h2 => eS_a (by omega), ?_, fun u h1 h2 h3 => eS_j (by omega), fun g => ?_, ⟨eS_a (by omega), eS_a (by omega)⟩, fun t ht => eS_a (by have := isT_b ht; omega)⟩
  · rw [eS_a (by omega)]
    exact ⟨Int.le_refl _, id⟩
  · by_cases c : j = 8
    · subst c
      rw [eS_e]
      omega
    · rw [eS_j (by omega)]
      exact g
theorem MT.arr (i0 : 0 ≤ i) (i1 : i < 1000) (hp : 0 ≤ p) (hp2 : p < 1000) : MT p e (pArr i k q r e) := by
  have ha : ∀ a u : Int, a < 71000 → a ≠ 68 → a ≠ 3 → (a ≠ 4 ∨ u ≠ 16) → (pArr i k q r e).1 a u = e.1 a u := fun a u h1 h2 h3 h4 => arr_a h2 h3 (by omega) (by omega) h4
  refine ⟨arr_mo i0 i1, fun c h1 h2 => ha _ _ (by omega) (by omega) (by omega) (by omega), ?_, fun u _ _ _ => ha _ _ (by omega) (by omega) (by omega) (by omega), fun g => ?_, ⟨ha _ _ (by omega) (by omega) (by omega) (by omega), ha _ _ (by omega) (by omega) (by omega) (by omega)⟩, fun t ht => ha _ _ (by have := isT_b ht; omega) (by have := isT_b ht; omega) (by have := isT_b ht; omega) (by omega)⟩
  · rw [ha _ _ (by omega) (by omega) (by omega) (by omega)]
    exact ⟨Int.le_refl _, id⟩
  · rw [ha _ _ (by omega) (by omega) (by omega) (by omega)]
    exact g
theorem MT.start (n0 : 0 ≤ e.1 7 2) (n1 : e.1 7 2 < 30) (hp : 0 ≤ p) (hp2 : p < 1000) : MT p e (pStart t y v z q e) := by
  have ha : ∀ a u : Int, (8 ≤ a ∧ a ≤ 10) ∨ (a = 4 ∧ u ≠ 16) ∨ (48 ≤ a ∧ a ≤ 61) ∨ (10000 ≤ a ∧ a < 11000) → (pStart t y v z q e).1 a u = e.1 a u := fun a u hh => start_a n0 (by omega) (by omega) (by omega) (by omega) (by omega) (by omega) (by omega)
  refine ⟨start_mo n0 n1, fun c h1 h2 => ha _ _ (by omega), ?_, fun u _ _ _ => ha _ _ (by omega), fun g => ?_, ⟨ha _ _ (by omega), ha _ _ (by omega)⟩, fun t ht => ha _ _ (by have := isT_b ht; omega)⟩
  · rw [start_n n0]
    omega
  · rw [ha _ _ (by omega)]
    exact g
theorem stF_mt (n0 : 0 ≤ e.1 7 2) (hp : 0 ≤ p) (hp2 : p < 1000) : MT p e (pStF p v e) := by
  unfold pStF
  split
  · rename_i c
    exact (MT.start n0 c hp hp2).tr (MT.set hp hp2 (Or.inl rfl))
  · exact MT.rf
theorem can_mt (i0 : 0 ≤ i) (i1 : i < 1000) (hp : 0 ≤ p) (hp2 : p < 1000) : MT p e (pCan i e).2 := by
  unfold pCan
  split
  · exact MT.rf
  · exact MT.arr i0 i1 hp hp2
theorem meet_mt (n0 : 0 ≤ e.1 7 2) (n1 : e.1 7 2 ≤ 1000) (hp : 0 ≤ p) (hp2 : p < 1000) (v0 : 0 ≤ v) (v1 : v ≤ 999) : MT p e (pMeet p v e) := by
  unfold pMeet
  by_cases c0 : lastO e p
  · by_cases c1 : e.1 (10000 + p) 3 = 3
    · rw [if_pos (Or.inr c1)]
      exact stF_mt n0 hp hp2
    · rw [if_neg (fun h => h.elim (fun g => g c0) c1)]
      split
      · split
        · exact (MT.set hp hp2 (Or.inr (Or.inl rfl))).tr (MT.set hp hp2 (Or.inr (Or.inr ⟨rfl, v0, v1⟩)))
        · exact MT.rf
      · split
        · have hm := can_mt (e := e) (i := e.1 (10000 + p) 6) (p := p) c0.1.1 (by have := c0.1.2; omega) hp hp2
          exact hm.tr (stF_mt (by have := hm.2.2.1.1; omega) hp hp2)
        · exact MT.rf
  · rw [if_pos (Or.inl c0)]
    exact stF_mt n0 hp hp2
theorem CE.stF (C : CE m ow ad e) (i0 : 0 ≤ p) (i1 : p < e.1 10 2) (t0 : 0 ≤ e.1 (10000 + p) 0) (t1 : e.1 (10000 + p) 0 < 4) (v0 : 0 ≤ v) (v1 : v ≤ 999) (hl : BDl e) (hf : BDf (pStF p v e)) : ∃ m' ad', fm_X11_startFor (ad 10 p) v m = some (0, m') ∧ CX1 m' ad' (pStF p v e) ∧ AG e ad ad' := by
  have n0 := C.cn.1.1
  have n10 := C.cn.2.2.2.1
  have s0 : m (ad 10 p) 0 = e.1 (10000 + p) 0 := C.sf i0 i1 (by decide) (by decide)
  have s1 : m (ad 10 p) 1 = e.1 (10000 + p) 1 := C.sf i0 i1 (by decide) (by decide)
  unfold fm_X11_startFor
  unfold pStF at hf ⊢
  rw [bp_t (C.size (c := 7) (by decide) (by decide))]
  by_cases c : e.1 7 2 < 30
  · rw [if_pos c] at hf ⊢
    rw [if_pos c]
    have hs := MT.set (e := pStart (e.1 (10000 + p) 0) (e.1 (10000 + p) 1) v (-1) 0 e) (p := p) (j := 6) (v := e.1 7 2) i0 (by omega) (Or.inl rfl)
    obtain ⟨m1, ad1, g1, ⟨ow1, C1⟩, g3⟩ := C.start (t := e.1 (10000 + p) 0) (tn := e.1 (10000 + p) 1) (inp := v) (par := -1) (pe := 0) hl c t0 t1 v0 (by omega) (hf.of hs.1)
    have mt := MT.start (e := e) (t := e.1 (10000 + p) 0) (y := e.1 (10000 + p) 1) (v := v) (z := -1) (q := 0) (p := p) n0 c i0 (by omega)
    have d7 : e.1 7 2 < (pStart (e.1 (10000 + p) 0) (e.1 (10000 + p) 1) v (-1) 0 e).1 7 2 := by rw [start_n n0]; omega
    have d10 : p < (pStart (e.1 (10000 + p) 0) (e.1 (10000 + p) 1) v (-1) 0 e).1 10 2 := by rw [mt.2.1 10 (by decide) (by decide)]; exact i1
    have hnum : m1 (ad1 7 (e.1 7 2)) 0 = e.1 7 2 := by
      rw [C1.rf n0 d7 (by decide) (by decide)]
      exact (C1.run n0 d7).2.2.2.2.1
    have hs10 : ad1 10 p = ad 10 p := g3 10 p (Or.inr (Or.inr (Or.inr (Or.inl ⟨rfl, i0, i1⟩))))
    have C2 := C1.s10 (v := e.1 7 2) i0 d10 (j := 6) (by decide) (by decide)
    refine ⟨_, ad1, ?_, ⟨ow1, C2⟩, g3⟩
    rw [gd_t (C.sch i0 i1).1, lx_p, s0, lx_p, s1, bd_t g1, gd_t (C1.rk n0 d7), lx_p, hnum, hs10, up_t]
  · rw [if_neg c, if_neg c]
    exact ⟨m, ad, rfl, ⟨ow, C⟩, AG.rf⟩
theorem CE.meet (C : CE m ow ad e) (i0 : 0 ≤ p) (i1 : p < e.1 10 2) (t0 : 0 ≤ e.1 (10000 + p) 0) (t1 : e.1 (10000 + p) 0 < 4) (v0 : 0 ≤ v) (v1 : v ≤ 999) (hl : BDl e) (hf : BDf (pMeet p v e)) : ∃ m' ad', fm_X11_meetPoint (ad 10 p) v m = some (0, m') ∧ CX1 m' ad' (pMeet p v e) ∧ AG e ad ad' := by
  have n7 := C.cn.1
  have n10 := C.cn.2.2.2.1
  have st : BDf (pStF p v e) → ∃ m' ad', fj_X11_meetPoint_16 (ad 10 p) v m = some (0, m') ∧ CX1 m' ad' (pStF p v e) ∧ AG e ad ad' := fun hf => by
    obtain ⟨m1, ad1, g1, g2, g3⟩ := C.stF i0 i1 t0 t1 v0 v1 hl hf
    refine ⟨m1, ad1, ?_, g2, g3⟩
    unfold fj_X11_meetPoint_16
    rw [bd_t g1]
  have s3 : m (ad 10 p) 3 = e.1 (10000 + p) 3 := C.sf i0 i1 (by decide) (by decide)
  have s6 : m (ad 10 p) 6 = e.1 (10000 + p) 6 := C.sf i0 i1 (by decide) (by decide)
  have s7' : m (ad 10 p) 7 = e.1 (10000 + p) 7 := C.sf i0 i1 (by decide) (by decide)
  unfold fm_X11_meetPoint
  unfold pMeet at hf ⊢
  rw [bp_t (lastO_e C i0 i1)]
  by_cases c0 : lastO e p
  · rw [if_pos c0, if_neg (by decide), gd_t (C.sch i0 i1).1, lx_p, s3]
    by_cases c1 : e.1 (10000 + p) 3 = 3
    · have hq : ¬ lastO e p ∨ e.1 (10000 + p) 3 = 3 := Or.inr c1
      rw [if_pos hq] at hf ⊢
      rw [if_pos c1]
      exact st hf
    · have hq : ¬ (¬ lastO e p ∨ e.1 (10000 + p) 3 = 3) := fun h => h.elim (fun g => g c0) c1
      rw [if_neg hq] at hf ⊢
      rw [if_neg c1]
      by_cases c2 : e.1 (10000 + p) 3 = 1
      · rw [if_pos c2] at hf ⊢
        rw [if_pos c2, lx_p, s7']
        by_cases c3 : e.1 (10000 + p) 7 = 0
        · rw [if_pos c3] at hf ⊢
          rw [if_pos c3, up_t, up_t]
          have C1 := C.s10 (v := 1) i0 i1 (j := 7) (by decide) (by decide)
          have d10 : p < (eS e (10000 + p) 7 1).1 10 2 := by rw [eS_a (by omega)]; exact i1
          have C2 := C1.s10 (v := v) i0 d10 (j := 8) (by decide) (by decide)
          exact ⟨_, ad, rfl, ⟨ow, C2⟩, AG.rf⟩
        · rw [if_neg c3] at hf ⊢
          rw [if_neg c3]
          exact ⟨m, ad, rfl, ⟨ow, C⟩, AG.rf⟩
      · rw [if_neg c2] at hf ⊢
        rw [if_neg c2]
        by_cases c3 : e.1 (10000 + p) 3 = 2
        · rw [if_pos c3] at hf ⊢
          rw [if_pos c3]
          obtain ⟨⟨r0, r1⟩, r6⟩ := c0
          have nd : ¬ Dead e (e.1 (10000 + p) 6) := fun hh => hh.1 r6
          have hm := can_mt (e := e) (i := e.1 (10000 + p) 6) (p := p) r0 (by omega) i0 (by omega)
          have hm2 := stF_mt (e := (pCan (e.1 (10000 + p) 6) e).2) (p := p) (v := v) (by have := hm.2.2.1.1; omega) i0 (by omega)
          obtain ⟨m1, g1, ow1, C1⟩ := C.can2 r0 r1 nd hl (hf.of hm2.1)
          have d10 : p < (pCan (e.1 (10000 + p) 6) e).2.1 10 2 := by rw [hm.2.1 10 (by decide) (by decide)]; exact i1
          have e0 : (pCan (e.1 (10000 + p) 6) e).2.1 (10000 + p) 0 = e.1 (10000 + p) 0 := hm.2.2.2.1 0 (by decide) (by decide) (by decide)
          obtain ⟨m2, ad2, k1, k2, k3⟩ := C1.stF (v := v) i0 d10 (by rw [e0]; exact t0) (by rw [e0]; exact t1) v0 v1 (hm.1.2 hl) hf
          refine ⟨m2, ad2, ?_, k2, fun c i hv => k3 c i (hv.mono hm.2.2.1.1 (by rw [hm.2.1 8 (by decide) (by decide)]; omega) (by rw [hm.2.1 9 (by decide) (by decide)]; omega) (by rw [hm.2.1 10 (by decide) (by decide)]; omega) fun t ht => by rw [hm.2.2.2.2.2.2 t ht]; omega)⟩
          rw [lx_p, s6, bp_t (C.get (c := 7) (by decide) (by decide) r0 r1), gd_t (C.rk r0 r1), bd_t g1, bd_t k1]
        · rw [if_neg c3, if_neg c3]
          exact ⟨m, ad, rfl, ⟨ow, C⟩, AG.rf⟩
  · have hq : ¬ lastO e p ∨ e.1 (10000 + p) 3 = 3 := Or.inl c0
    rw [if_pos hq] at hf ⊢
    rw [if_neg c0, if_pos (show (0 : Int) = 0 from rfl)]
    exact st hf
end LOK
