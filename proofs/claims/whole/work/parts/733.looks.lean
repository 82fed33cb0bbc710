/-! THE ENGINE: a tick looks at a schedule: all points since. -/
section LKS
variable {m m' M2 m0 : MM} {ow ow' : Int → Int} {ad ad' ad1 : Int → Int → Int} {e e' e1 e2 : ES} {D : Int → Prop} {a b c i j k o r v w h B t y z q lim c2 c3 p p1 p2 p3 N : Int} {n : Nat} {x : CX} {l : List Int} {E : Int → Ev} {s S : TS} {f : Int → Int}
theorem isPoint_e (C : CE m ow ad e) (i0 : 0 ≤ p) (i1 : p < e.1 10 2) (h2 : 1 ≤ e.1 (10000 + p) 2 ∧ e.1 (10000 + p) 2 ≤ 50) (t0 : -2000000000 ≤ t) (t1 : t < 2000000000) : fm_X7_isPoint (ad 10 p) t m = some (if t % e.1 (10000 + p) 2 = 0 then 1 else 0) := by
  have s2 : m (ad 10 p) 2 = e.1 (10000 + p) 2 := C.sf i0 i1 (by decide) (by decide)
  unfold fm_X7_isPoint
  rw [lx_p, s2, if_pos (by omega), bp_t (fmod_e (by omega) (by omega) (by omega) (by omega))]
  by_cases c : t % e.1 (10000 + p) 2 = 0
  · rw [if_pos c, if_pos c]
  · rw [if_neg c, if_neg c]
/-- one point, if it is one -/
def pPt (p t : Int) (e : ES) : ES := if t % e.1 (10000 + p) 2 = 0 ∧ e.1 (10000 + p) 5 = 0 then pMeet p (t % 1000) e else e
def pSchL (p N : Int) : Nat → Int → ES → ES
  | 0, _, e => e
  | n + 1, t, e => if N < t then e else pSchL p N n (t + 1) (pPt p t e)
theorem pt_mt (n0 : 0 ≤ e.1 7 2) (n1 : e.1 7 2 ≤ 1000) (hp : 0 ≤ p) (hp2 : p < 1000) : MT p e (pPt p t e) := by
  unfold pPt
  split
  · exact meet_mt n0 n1 hp hp2 (Int.emod_nonneg _ (by decide)) (by have := Int.emod_lt_of_pos t (show (0 : Int) < 1000 by decide); omega)
  · exact MT.rf
theorem schL_mt (hp : 0 ≤ p) (hp2 : p < 1000) : ∀ (n : Nat) (t : Int) (e : ES), 0 ≤ e.1 7 2 → e.1 7 2 ≤ 30 → MT p e (pSchL p N n t e) := by
  intro n
  induction n with
  | zero => intro t e _ _; exact MT.rf
  | succ n ih =>
    intro t e n0 n1
    unfold pSchL
    split
    · exact MT.rf
    · have h := pt_mt (e := e) (p := p) (t := t) n0 (by omega) hp hp2
      exact h.tr (ih _ _ (by have := h.2.2.1.1; omega) (h.2.2.1.2 n1))
/-- what the points of a schedule have to find -/
def SOK (p : Int) (e : ES) : Prop := (0 ≤ e.1 (10000 + p) 0 ∧ e.1 (10000 + p) 0 < 4) ∧ (1 ≤ e.1 (10000 + p) 2 ∧ e.1 (10000 + p) 2 ≤ 50) ∧ (0 ≤ e.1 (10000 + p) 8 ∧ e.1 (10000 + p) 8 ≤ 999)
theorem SOK.mt (h : SOK p e) (k : MT p e e') : SOK p e' := by
  obtain ⟨h1, h2, h3⟩ := h
  unfold SOK
  rw [k.2.2.2.1 0 (by decide) (by decide) (by decide), k.2.2.2.1 2 (by decide) (by decide) (by decide)]
  exact ⟨h1, h2, k.2.2.2.2.1 h3⟩
theorem MT.lv (h : MT p e e') (hv : LvA e c i) : LvA e' c i := hv.mono h.2.2.1.1 (by rw [h.2.1 8 (by decide) (by decide)]; omega) (by rw [h.2.1 9 (by decide) (by decide)]; omega) (by rw [h.2.1 10 (by decide) (by decide)]; omega) fun t ht => by rw [h.2.2.2.2.2.2 t ht]; omega
theorem schL_l (p0 : 0 ≤ p) (hN : N < 1900000000) {K : MM → Option (Int × MM)} : ∀ (n f : Nat) (t : Int) (m : MM) (ow : Int → Int) (ad : Int → Int → Int) (e : ES), CE m ow ad e → p < e.1 10 2 → ad 10 p = y → SOK p e → BDl e → BDf (pSchL p N n t e) → -1900000000 ≤ t → t ≤ 1900000000 → N - t < n → n < f → ∃ m' ad', fl_X11_lookAtSchedule_46 y N K f t m = K m' ∧ CX1 m' ad' (pSchL p N n t e) ∧ AG e ad ad' := by
  intro n
  induction n with
  | zero =>
    intro f t m ow ad e C p1 hy hs hl hf t0 t9 h1 h2
    obtain ⟨f, rfl⟩ : ∃ g, f = g + 1 := ⟨f - 1, by omega⟩
    unfold fl_X11_lookAtSchedule_46
    rw [if_pos (by omega)]
    exact ⟨m, ad, rfl, ⟨ow, C⟩, AG.rf⟩
  | succ n ih =>
    intro f t m ow ad e C p1 hy hs hl hf t0 t9 h1 h2
    obtain ⟨f, rfl⟩ : ∃ g, f = g + 1 := ⟨f - 1, by omega⟩
    obtain ⟨hs1, hs2, hs3⟩ := hs
    have n7 := C.cn.1
    have n10 := C.cn.2.2.2.1
    have s5 : m (ad 10 p) 5 = e.1 (10000 + p) 5 := C.sf p0 p1 (by decide) (by decide)
    unfold fl_X11_lookAtSchedule_46
    unfold pSchL at hf ⊢
    by_cases c : N < t
    · rw [if_pos c, if_pos c]
      exact ⟨m, ad, rfl, ⟨ow, C⟩, AG.rf⟩
    · rw [if_neg c] at hf ⊢
      have hpt := pt_mt (e := e) (p := p) (t := t) n7.1 (by omega) p0 (by omega)
      have hrest := schL_mt (N := N) p0 (by omega) n (t + 1) (pPt p t e) (by have := hpt.2.2.1.1; omega) (hpt.2.2.1.2 n7.2)
      have go : ∀ (m1 : MM) (ow1 : Int → Int) (ad1 : Int → Int → Int), CE m1 ow1 ad1 (pPt p t e) → AG e ad ad1 → ∃ m' ad', fl_X11_lookAtSchedule_46 y N K f (t + 1) m1 = K m' ∧ CX1 m' ad' (pSchL p N n (t + 1) (pPt p t e)) ∧ AG e ad ad' := fun m1 ow1 ad1 C1 g1 => by
        have hy1 : ad1 10 p = y := by rw [g1 10 p (Or.inr (Or.inr (Or.inr (Or.inl ⟨rfl, p0, p1⟩))))]; exact hy
        obtain ⟨m2, ad2, k1, k2, k3⟩ := ih f (t + 1) m1 ow1 ad1 _ C1 (by rw [hpt.2.1 10 (by decide) (by decide)]; exact p1) hy1 (SOK.mt ⟨hs1, hs2, hs3⟩ hpt) (hpt.1.2 hl) hf (by omega) (by omega) (by omega) (by omega)
        exact ⟨m2, ad2, k1, k2, g1.tr k3 fun c i hv => hpt.lv hv⟩
      rw [if_neg c, ← hy, gd_t (C.sch p0 p1).1, bp_t (isPoint_e C p0 p1 hs2 (by omega) (by omega)), hy]
      have hw : w32 (t + 1) = t + 1 := w32_id (by omega) (by omega)
      by_cases c1 : t % e.1 (10000 + p) 2 = 0
      · rw [if_pos c1, if_neg (show ¬ (1 : Int) = 0 by decide), lx_p, ← hy, s5]
        by_cases c2 : e.1 (10000 + p) 5 = 0
        · have hq : pPt p t e = pMeet p (t % 1000) e := if_pos ⟨c1, c2⟩
          have m0 := Int.emod_nonneg t (show (1000 : Int) ≠ 0 by decide)
          have m1 := Int.emod_lt_of_pos t (show (0 : Int) < 1000 by decide)
          obtain ⟨m1', ad1, k1, ⟨ow1, C1⟩, k3⟩ := C.meet (v := t % 1000) p0 p1 hs1.1 hs1.2 m0 (by omega) hl (by rw [← hq]; exact hf.of hrest.1)
          rw [← hq] at C1
          rw [if_pos c2, bp_t (fmod_e (by omega) (by omega) (by decide) (by decide)), bd_t k1, lx_p, hw, hy]
          exact go m1' ow1 ad1 C1 k3
        · have hq : pPt p t e = e := if_neg fun h => c2 h.2
          have C1 := C
          rw [← hq] at C1
          rw [if_neg c2, lx_p, hw, hy]
          exact go m ow ad C1 AG.rf
      · have hq : pPt p t e = e := if_neg fun h => c1 h.1
        have C1 := C
        rw [← hq] at C1
        rw [if_neg c1, if_pos (show (0 : Int) = 0 from rfl), lx_p, hw]
        exact go m ow ad C1 AG.rf
/-- the points since are looked at -/
def pLk29 (p : Int) (e : ES) : ES := eS (pSchL p (e.1 4 14 + e.1 4 15) ((e.1 4 14 + e.1 4 15 - e.1 (10000 + p) 4).toNat + 1) (e.1 (10000 + p) 4 + 1) e) (10000 + p) 4 (if e.1 (10000 + p) 4 < e.1 4 14 + e.1 4 15 then e.1 4 14 + e.1 4 15 else e.1 (10000 + p) 4)
def pLkS1 (p : Int) (e : ES) : ES := if e.1 (10000 + p) 7 ≠ 0 ∧ ¬ lastO e p then pStF p (e.1 (10000 + p) 8) (eS e (10000 + p) 7 0) else e
def pLookS (p : Int) (e : ES) : ES := pLk29 p (pLkS1 p e)
theorem lkS1_mt (n0 : 0 ≤ e.1 7 2) (hp : 0 ≤ p) (hp2 : p < 1000) : MT p e (pLkS1 p e) := by
  unfold pLkS1
  split
  · exact (MT.set hp hp2 (Or.inr (Or.inl rfl))).tr (stF_mt (by rw [eS_a (by omega)]; exact n0) hp hp2)
  · exact MT.rf
theorem set4_mo (hp : 0 ≤ p) (hp2 : p < 1000) : MO e (eS e (10000 + p) 4 v) := set_mo (Or.inl (by omega)) (by omega) (by omega) (Or.inl (by omega))
theorem lk29_e (C : CE m ow ad e) (p0 : 0 ≤ p) (p1 : p < e.1 10 2) (hs : SOK p e) (hl : BDl e) (hf : BDf (pLk29 p e)) (h15 : -20000 ≤ e.1 4 15 ∧ e.1 4 15 ≤ 20000) (h4 : -20000 ≤ e.1 (10000 + p) 4 ∧ e.1 (10000 + p) 4 < 2000000) : ∃ m' ad', fj_X11_lookAtSchedule_29 (ad 10 p) m = some (0, m') ∧ CX1 m' ad' (pLk29 p e) ∧ AG e ad ad' := by
  have n7 := C.cn.1
  have n10 := C.cn.2.2.2.1
  have hbt := hl.1
  have e14 : m 4 14 = e.1 4 14 := C.g4 (by decide) (by decide)
  have e15 : m 4 15 = e.1 4 15 := C.g4 (by decide) (by decide)
  have s4 : m (ad 10 p) 4 = e.1 (10000 + p) 4 := C.sf p0 p1 (by decide) (by decide)
  unfold pLk29 at hf ⊢
  have hmt := schL_mt (N := e.1 4 14 + e.1 4 15) p0 (by omega) ((e.1 4 14 + e.1 4 15 - e.1 (10000 + p) 4).toNat + 1) (e.1 (10000 + p) 4 + 1) e n7.1 n7.2
  unfold fj_X11_lookAtSchedule_29
  rw [lx_p, e14, lx_p, e15, lx_p, w32_id (by omega) (by omega), gd_t (C.sch p0 p1).1, lx_p, s4, lx_p, w32_id (by omega) (by omega)]
  obtain ⟨m1, ad1, g1, ⟨ow1, C1⟩, g3⟩ := schL_l (y := ad 10 p) p0 (N := e.1 4 14 + e.1 4 15) (by omega) (K := fun m_130 =>
lx (m_130 (ad 10 p) 4) fun x_139 =>
bp (fm_J9_max_7cf53 x_139 (e.1 4 14 + e.1 4 15) m_130) fun x_142 =>
up m_130 (ad 10 p) 4 x_142 fun m_150 =>
some ((0 : Int), m_150)) ((e.1 4 14 + e.1 4 15 - e.1 (10000 + p) 4).toNat + 1) BIG (e.1 (10000 + p) 4 + 1) m ow ad e C p1 rfl hs hl (hf.of (set4_mo p0 (by omega))) (by omega) (by omega) (by omega) (BIG_g (by omega))
  have d10 : p < (pSchL p (e.1 4 14 + e.1 4 15) ((e.1 4 14 + e.1 4 15 - e.1 (10000 + p) 4).toNat + 1) (e.1 (10000 + p) 4 + 1) e).1 10 2 := by rw [hmt.2.1 10 (by decide) (by decide)]; exact p1
  have hy1 : ad1 10 p = ad 10 p := g3 10 p (Or.inr (Or.inr (Or.inr (Or.inl ⟨rfl, p0, p1⟩))))
  have s4' : m1 (ad 10 p) 4 = e.1 (10000 + p) 4 := by
    rw [← hy1, C1.sf p0 d10 (by decide) (by decide)]
    exact hmt.2.2.2.1 4 (by decide) (by decide) (by decide)
  have C2 := C1.s10 (v := if e.1 (10000 + p) 4 < e.1 4 14 + e.1 4 15 then e.1 4 14 + e.1 4 15 else e.1 (10000 + p) 4) p0 d10 (j := 4) (by decide) (by decide)
  rw [hy1] at C2
  refine ⟨_, ad1, ?_, ⟨ow1, C2⟩, g3⟩
  rw [g1, lx_p, s4', bp_t max_e, up_t]
theorem CE.lookS (C : CE m ow ad e) (p0 : 0 ≤ p) (p1 : p < e.1 10 2) (hs : SOK p e) (hl : BDl e) (hf : BDf (pLookS p e)) (h15 : -20000 ≤ e.1 4 15 ∧ e.1 4 15 ≤ 20000) (h4 : -20000 ≤ e.1 (10000 + p) 4 ∧ e.1 (10000 + p) 4 < 2000000) : ∃ m' ad', fm_X11_lookAtSchedule (ad 10 p) m = some (0, m') ∧ CX1 m' ad' (pLookS p e) ∧ AG e ad ad' := by
  have n7 := C.cn.1
  have n10 := C.cn.2.2.2.1
  have s7' : m (ad 10 p) 7 = e.1 (10000 + p) 7 := C.sf p0 p1 (by decide) (by decide)
  unfold pLookS at hf ⊢
  have mt1 := lkS1_mt (e := e) (p := p) n7.1 p0 (by omega)
  have hrest : MO (pLkS1 p e) (pLk29 p (pLkS1 p e)) := (schL_mt p0 (by omega) _ _ _ (by have := mt1.2.2.1.1; omega) (mt1.2.2.1.2 n7.2)).1.tr (set4_mo p0 (by omega))
  have fin : ∀ (m1 : MM) (ow1 : Int → Int) (ad1 : Int → Int → Int), CE m1 ow1 ad1 (pLkS1 p e) → AG e ad ad1 → ∃ m' ad', fj_X11_lookAtSchedule_29 (ad 10 p) m1 = some (0, m') ∧ CX1 m' ad' (pLk29 p (pLkS1 p e)) ∧ AG e ad ad' := fun m1 ow1 ad1 C1 g1 => by
    have hy1 : ad1 10 p = ad 10 p := g1 10 p (Or.inr (Or.inr (Or.inr (Or.inl ⟨rfl, p0, p1⟩))))
    obtain ⟨m2, ad2, k1, k2, k3⟩ := lk29_e C1 p0 (by rw [mt1.2.1 10 (by decide) (by decide)]; exact p1) (hs.mt mt1) (mt1.1.2 hl) hf (by rw [mt1.2.2.2.2.2.1.2]; exact h15) (by rw [mt1.2.2.2.1 4 (by decide) (by decide) (by decide)]; exact h4)
    rw [hy1] at k1
    exact ⟨m2, ad2, k1, k2, g1.tr k3 fun c i hv => mt1.lv hv⟩
  unfold fm_X11_lookAtSchedule
  rw [gd_t (C.sch p0 p1).1, lx_p, s7']
  by_cases c1 : e.1 (10000 + p) 7 = 0
  · have hq : pLkS1 p e = e := if_neg fun h => h.1 c1
    have C1 := C
    rw [← hq] at C1
    rw [if_pos c1]
    exact fin m ow ad C1 AG.rf
  · rw [if_neg c1, bp_t (lastO_e C p0 p1)]
    by_cases c2 : lastO e p
    · have hq : pLkS1 p e = e := if_neg fun h => h.2 c2
      have C1 := C
      rw [← hq] at C1
      rw [if_pos c2, if_neg (by decide)]
      exact fin m ow ad C1 AG.rf
    · have hq : pLkS1 p e = pStF p (e.1 (10000 + p) 8) (eS e (10000 + p) 7 0) := if_pos ⟨c1, c2⟩
      have C1 := C.s10 (v := 0) p0 p1 (j := 7) (by decide) (by decide)
      have d10 : p < (eS e (10000 + p) 7 0).1 10 2 := by rw [eS_a (by omega)]; exact p1
      have s8' : mset m (ad 10 p) 7 0 (ad 10 p) 8 = e.1 (10000 + p) 8 := by
        rw [C1.sf p0 d10 (by decide) (by decide)]
        exact eS_j (by decide)
      have hf1 := hf.of hrest
      rw [hq] at hf1
      obtain ⟨m2, ad2, k1, ⟨ow2, C2⟩, k3⟩ := C1.stF (v := e.1 (10000 + p) 8) p0 d10 (by rw [eS_j (by decide)]; exact hs.1.1) (by rw [eS_j (by decide)]; exact hs.1.2) hs.2.2.1 hs.2.2.2 ((MT.set p0 (by omega) (Or.inr (Or.inl rfl))).1.2 hl) hf1
      rw [← hq] at C2
      rw [if_neg c2, if_pos rfl, up_t, lx_p, s8', bd_t k1]
      refine fin m2 ow2 ad2 C2 fun c i hv => k3 c i ((MT.set (v := 0) (j := 7) p0 (show p < 1000 by omega) (Or.inr (Or.inl rfl))).lv hv)
end LKS
