/-! THE ENGINE: another activity, task, schedule: their fields. -/
section EN8
variable {m m' M M2 : MM} {ow ow' : Int → Int} {ad ad' : Int → Int → Int} {e e' : ES} {D : Int → Prop} {a b c i j k o p r v n h N B t x y p1 p2 p3 p4 p5 kd ln : Int} {l : List Int} {E : Int → Ev} {s : TS} {f : Int → Int}
def AG (e : ES) (ad ad' : Int → Int → Int) : Prop := ∀ c i, LvA e c i → ad' c i = ad c i
theorem AG.rf : AG e ad ad := fun _ _ _ => rfl
/-- how many events, arrivals, TASKs, counted arrivals -/
def hN (e : ES) (i : Int) : Int := e.1 (71000 + i) 1
def hA (e : ES) (i : Int) : Int := cA (eH e i) (hN e i).toNat
def hT (e : ES) (i : Int) : Int := cT (eH e i) (hN e i).toNat
def hC (e : ES) (i : Int) : Int := cC (eH e i) (hN e i).toNat
theorem KHis.sl (h : KHis m ow ad e i) : okc m (ad 71 i) 3 ∧ m (ad 71 i) 1 = hN e i ∧ m (ad 71 i) 2 = hA e i ∧ m (ad 71 i) 3 = hT e i ∧ m (ad 71 i) 4 = hC e i := ⟨h.2.1.1.1, h.2.1.1.2.1, h.2.1.2.1, h.2.1.2.2.1, h.2.1.2.2.2⟩
def pMark (e : ES) (i : Int) : Int := (e.1 (7000 + i) 9 * 1000 + hT e i) * 4 + e.1 (7000 + i) 3
/-- what a mark is made of stays small -/
def MkB (e : ES) (i : Int) : Prop := (0 ≤ e.1 (7000 + i) 9 ∧ e.1 (7000 + i) 9 ≤ 1000) ∧ (0 ≤ hT e i ∧ hT e i ≤ 1000) ∧ 0 ≤ e.1 (7000 + i) 3 ∧ e.1 (7000 + i) 3 ≤ 1000
theorem mark_r (h9 : M p 9 = a) (h16 : M p 16 = h) (ho : okc M h 3) (h3 : M h 3 = b) (hv : M p 3 = c) (ha : 0 ≤ a ∧ a ≤ 1000) (hb : 0 ≤ b ∧ b ≤ 1000) (hc : 0 ≤ c ∧ c ≤ 1000) : fm_X6_mark p M = some ((a * 1000 + b) * 4 + c) := by
  unfold fm_X6_mark
  simp only [lx_p]
  rw [h9, h16, gd_t ho, h3, hv, w32_id (z := a * 1000) (by omega) (by omega), w32_id (z := a * 1000 + b) (by omega) (by omega), w32_id (z := (a * 1000 + b) * 4) (by omega) (by omega), w32_id (by omega) (by omega)]
theorem CE.mark (C : CE m ow ad e) (i0 : 0 ≤ i) (i1 : i < e.1 7 2) (hb : MkB e i) : fm_X6_mark (ad 7 i) m = some (pMark e i) := by
  obtain ⟨s1, s2, s3, s4, s5⟩ := (C.his i0 i1).sl
  exact mark_r (C.rf i0 i1 (by decide) (by decide)) (C.run i0 i1).2.2.2.2.2.1 s1 s4 (C.rf i0 i1 (by decide) (by decide)) hb.1 hb.2.1 hb.2.2
theorem CN.new (h : CN e) (h8 : 8 ≤ c) (h10 : c ≤ 10) (h1 : c = 8 → e.1 8 2 < 60) (h2 : c = 9 → e.1 9 2 < 512) (h3 : c = 10 → e.1 10 2 < 4) : CN (pNew c f e) := by
  obtain ⟨c1, c2, c3, c4, c5⟩ := h
  have n0 : 0 ≤ e.1 c 2 := by
    have h4 : c = 8 ∨ c = 9 ∨ c = 10 := by omega
    rcases h4 with rfl | rfl | rfl <;> omega
  refine ⟨by rw [pNew_a (by omega) (by omega)]; exact c1, ?_, ?_, ?_, fun t ht => ?_⟩
  · by_cases cc : c = 8
    · subst cc; rw [pNew_n]; omega
    · rw [pNew_a (by omega) (by omega)]; exact c2
  · by_cases cc : c = 9
    · subst cc; rw [pNew_n]; omega
    · rw [pNew_a (by omega) (by omega)]; exact c3
  · by_cases cc : c = 10
    · subst cc; rw [pNew_n]; omega
    · rw [pNew_a (by omega) (by omega)]; exact c4
  · have hb := isT_b ht
    rw [pNew_a (by omega) (by omega)]
    exact c5 t ht
theorem adN_e : adN ad c n r c n = r := if_pos ⟨rfl, rfl⟩
theorem adN_a (h : b ≠ c ∨ i ≠ n) : adN ad c n r b i = ad b i := if_neg (by omega)
theorem adN_AG (h8 : 8 ≤ c) (h10 : c ≤ 10) : AG e ad (adN ad c (e.1 c 2) r) := fun c' i hv => adN_a (by
  unfold LvA at hv
  have hT : isT c' → 48 ≤ c' ∧ c' ≤ 60 := isT_b
  rcases hv with hv | hv | hv | hv | hv | hv
  · omega
  · by_cases cc : c = 8
    · subst cc; omega
    · omega
  · by_cases cc : c = 9
    · subst cc; omega
    · omega
  · by_cases cc : c = 10
    · subst cc; omega
    · omega
  · have := hT hv.1; omega
  · omega)
theorem x0_init (hF : Fix M) (hp : 163 ≤ p) (hpl : p < M 0 0) : ∃ M2, fm_X0_init p p1 p2 p3 p4 p5 M = some (0, M2) ∧ Fix M2 ∧ Onl M M2 p ∧ ∀ j : Int, 0 ≤ j → j ≤ 10 → M2 p j = (if j = 0 then p1 else if j = 1 then p2 else if j = 2 then p3 else if j = 3 then p4 else if j = 4 then p5 else 0) := by
  have s := fun (M : MM) (j v : Int) (F : Fix M) (g : 0 ≤ j) => (⟨fx_new F hp g, Onl.ms (by omega) g⟩ : Fix (mset M p j v) ∧ Onl M (mset M p j v) p)
  obtain ⟨f1, o1⟩ := s M 5 0 hF (by decide)
  obtain ⟨f2, o2⟩ := s _ 6 0 f1 (by decide)
  obtain ⟨f3, o3⟩ := s _ 7 0 f2 (by decide)
  obtain ⟨f4, o4⟩ := s _ 8 0 f3 (by decide)
  obtain ⟨f5, o5⟩ := s _ 9 0 f4 (by decide)
  obtain ⟨f6, o6⟩ := s _ 10 0 f5 (by decide)
  obtain ⟨f7, o7⟩ := s _ 0 p1 f6 (by decide)
  obtain ⟨f8, o8⟩ := s _ 1 p2 f7 (by decide)
  obtain ⟨f9, o9⟩ := s _ 2 p3 f8 (by decide)
  obtain ⟨f10, o10⟩ := s _ 3 p4 f9 (by decide)
  obtain ⟨f11, o11⟩ := s _ 4 p5 f10 (by decide)
  refine ⟨_, by unfold fm_X0_init; simp only [up_t], f11, (((((((((o1.tr o2).tr o3).tr o4).tr o5).tr o6).tr o7).tr o8).tr o9).tr o10).tr o11, fun j j0 j1 => ?_⟩
  have hj : j = 0 ∨ j = 1 ∨ j = 2 ∨ j = 3 ∨ j = 4 ∨ j = 5 ∨ j = 6 ∨ j = 7 ∨ j = 8 ∨ j = 9 ∨ j = 10 := by omega
  simp only [ms_i]
  rcases hj with rfl | rfl | rfl | rfl | rfl | rfl | rfl | rfl | rfl | rfl | rfl <;> rfl
theorem x7_init (hF : Fix M) (hp : 163 ≤ p) (hpl : p < M 0 0) : ∃ M2, fm_X7_init p p1 p2 p3 p4 p5 M = some (0, M2) ∧ Fix M2 ∧ Onl M M2 p ∧ ∀ j : Int, 0 ≤ j → j ≤ 8 → M2 p j = (if j = 0 then p1 else if j = 1 then p2 else if j = 2 then p3 else if j = 3 then p4 else if j = 4 then p5 else if j = 6 then -1 else 0) := by
  have s := fun (M : MM) (j v : Int) (F : Fix M) (g : 0 ≤ j) => (⟨fx_new F hp g, Onl.ms (by omega) g⟩ : Fix (mset M p j v) ∧ Onl M (mset M p j v) p)
  obtain ⟨f1, o1⟩ := s M 5 0 hF (by decide)
  obtain ⟨f2, o2⟩ := s _ 6 (-1) f1 (by decide)
  obtain ⟨f3, o3⟩ := s _ 7 0 f2 (by decide)
  obtain ⟨f4, o4⟩ := s _ 8 0 f3 (by decide)
  obtain ⟨f7, o7⟩ := s _ 0 p1 f4 (by decide)
  obtain ⟨f8, o8⟩ := s _ 1 p2 f7 (by decide)
  obtain ⟨f9, o9⟩ := s _ 2 p3 f8 (by decide)
  obtain ⟨f10, o10⟩ := s _ 3 p4 f9 (by decide)
  obtain ⟨f11, o11⟩ := s _ 4 p5 f10 (by decide)
  refine ⟨_, by unfold fm_X7_init; simp only [up_t], f11, (((((((o1.tr o2).tr o3).tr o4).tr o7).tr o8).tr o9).tr o10).tr o11, fun j j0 j1 => ?_⟩
  have hj : j = 0 ∨ j = 1 ∨ j = 2 ∨ j = 3 ∨ j = 4 ∨ j = 5 ∨ j = 6 ∨ j = 7 ∨ j = 8 := by omega
  simp only [ms_i]
  rcases hj with rfl | rfl | rfl | rfl | rfl | rfl | rfl | rfl | rfl <;> rfl
/-- a task: r the run, h its history -/
theorem x9_init (hF : Fix M) (hp : 163 ≤ p) (hpl : p < M 0 0) (hrp : r ≠ p) (hr : okc M r 7) (hhp : h ≠ p) (h16 : M r 16 = h) (ho : okc M h 3) (h2 : M h 2 = a) (h3 : M h 3 = b) (h9 : M r 9 = c) (hv : M r 3 = v) (hc : 0 ≤ c ∧ c ≤ 1000) (hb : 0 ≤ b ∧ b ≤ 1000) (hv2 : 0 ≤ v ∧ v ≤ 1000) : ∃ M2, fm_X9_init p p1 r p3 M = some (0, M2) ∧ Fix M2 ∧ Onl M M2 p ∧ ∀ j : Int, 0 ≤ j → j ≤ 5 → M2 p j = (if j = 0 then p1 else if j = 1 then r else if j = 2 then p3 else if j = 3 then a else if j = 4 then (c * 1000 + b) * 4 + v else 0) := by
  have s := fun (M : MM) (j v : Int) (F : Fix M) (g : 0 ≤ j) => (⟨fx_new F hp g, Onl.ms (by omega) g⟩ : Fix (mset M p j v) ∧ Onl M (mset M p j v) p)
  obtain ⟨f1, o1⟩ := s M 5 0 hF (by decide)
  obtain ⟨f2, o2⟩ := s _ 0 p1 f1 (by decide)
  obtain ⟨f3, o3⟩ := s _ 1 r f2 (by decide)
  obtain ⟨f4, o4⟩ := s _ 2 p3 f3 (by decide)
  obtain ⟨f5, o5⟩ := s _ 3 a f4 (by decide)
  obtain ⟨f6, o6⟩ := s _ 4 ((c * 1000 + b) * 4 + v) f5 (by decide)
  have q4 := ((o1.tr o2).tr o3).tr o4
  have q5 := q4.tr o5
  have e4 : ∀ a' j', a' ≠ p → mset (mset (mset (mset M p 5 0) p 0 p1) p 1 r) p 2 p3 a' j' = M a' j' := fun a' j' hh => by rw [ms_a hh, ms_a hh, ms_a hh, ms_a hh]
  have e5 : ∀ a' j', a' ≠ p → mset (mset (mset (mset (mset M p 5 0) p 0 p1) p 1 r) p 2 p3) p 3 a a' j' = M a' j' := fun a' j' hh => by rw [ms_a hh, e4 a' j' hh]
  have hm := mark_r (M := mset (mset (mset (mset (mset M p 5 0) p 0 p1) p 1 r) p 2 p3) p 3 a) (p := r) (h := h) (by rw [e5 _ _ hrp]; exact h9) (by rw [e5 _ _ hrp]; exact h16) (q5.1.ok ho) (by rw [e5 _ _ hhp]; exact h3) (by rw [e5 _ _ hrp]; exact hv) hc hb hv2
  refine ⟨_, ?_, f6, q5.tr o6, fun j j0 j1 => ?_⟩
  · unfold fm_X9_init
    simp only [up_t]
    rw [gd_t (q4.1.ok hr), lx_p, e4 _ _ hrp, h16, gd_t (q4.1.ok ho), lx_p, e4 _ _ hhp, h2, bp_t hm]
  · have hj : j = 0 ∨ j = 1 ∨ j = 2 ∨ j = 3 ∨ j = 4 ∨ j = 5 := by omega
    simp only [ms_i]
    rcases hj with rfl | rfl | rfl | rfl | rfl | rfl <;> rfl
def fAct (i ev k x t j : Int) : Int := if j = 0 then i else if j = 1 then ev else if j = 2 then k else if j = 3 then x else if j = 4 then t else 0
def fTsk (w i t a mk j : Int) : Int := if j = 0 then w else if j = 1 then i else if j = 2 then t else if j = 3 then a else if j = 4 then mk else 0
def fSch (t tn p o l j : Int) : Int := if j = 0 then t else if j = 1 then tn else if j = 2 then p else if j = 3 then o else if j = 4 then l else if j = 6 then -1 else 0
theorem pNew_f8 (hn : 0 ≤ e.1 8 2) : (pNew 8 f e).1 (8000 + e.1 8 2) j = f j := pNew_f (c := 8) (by decide) hn
theorem pNew_f9 (hn : 0 ≤ e.1 9 2) : (pNew 9 f e).1 (9000 + e.1 9 2) j = f j := pNew_f (c := 9) (by decide) hn
theorem pNew_f10 (hn : 0 ≤ e.1 10 2) : (pNew 10 f e).1 (10000 + e.1 10 2) j = f j := pNew_f (c := 10) (by decide) hn
theorem CE.addAct (C : CE m ow ad e) (hn : e.1 8 2 < 60) (i0 : 0 ≤ i) (i1 : i < e.1 7 2) : ∃ M2 m' ad', fm_X0_init (m 0 0) (ad 7 i) p2 p3 p4 p5 (mnew m 1 11) = some (0, M2) ∧ fm_Jx4a65c_add_9ea2d 8 (m 0 0) M2 = some (1, m') ∧ CX1 m' ad' (pNew 8 (fAct i p2 p3 p4 p5) e) ∧ AG e ad ad' := by
  have h163 := C.fix.1
  have e00 : mnew m 1 11 0 0 = m 0 0 + 1 := (mn_c (by omega)).1
  have hok : okc (mnew m 1 11) (m 0 0) 1 := okc_new (c := 1) (by omega)
  obtain ⟨M2, g1, g2, g3, g4⟩ := x0_init (p := m 0 0) (p1 := ad 7 i) (p2 := p2) (p3 := p3) (p4 := p4) (p5 := p5) (fx_mnew (kd := 1) (ln := 11) C.fix) (by omega) (by omega)
  have hp2 := g3.1.ok hok
  have n0 : 0 ≤ e.1 8 2 := C.cn.2.1.1
  have hK : ∀ (m' : MM) (ow' : Int → Int), (∀ j, m' (m 0 0) j = M2 (m 0 0) j) → Ext M2 m' → ow' (m 0 0) = 1000 * 8 + e.1 8 2 → Kx m' ow' (adN ad 8 (e.1 8 2) (m 0 0)) (pNew 8 (fAct i p2 p3 p4 p5) e) (1000 * 8 + e.1 8 2) := by
    intro m' ow' h1 h2 h3
    refine Kx.of8 ⟨by rw [adN_e]; exact h2.ok hp2, by rw [adN_e]; omega, by rw [adN_e]; exact h3, ?_, ?_, fun j j0 j1 => ?_⟩ n0 (by omega)
    · rw [pNew_f8 n0, pNew_a (by decide) (by omega)]
      exact ⟨i0, i1⟩
    · rw [adN_e, h1, g4 0 (by decide) (by decide), pNew_f8 n0]
      show ad 7 i = adN ad 8 (e.1 8 2) (m 0 0) 7 i
      rw [adN_a (Or.inl (by decide))]
    · rw [adN_e, h1, g4 j (by omega) j1, pNew_f8 n0]
      unfold fAct
      rw [if_neg (show ¬ j = 0 by omega), if_neg (show ¬ j = 0 by omega)]
  obtain ⟨m', k1, k2, k3⟩ := C.obj (c := 8) (f := fAct i p2 p3 p4 p5) (by decide) (by decide) g3 g2 ⟨hp2.1, hp2.2.1, Or.inl hp2.2.2⟩ (C.cn.new (by decide) (by decide) (fun _ => hn) (fun h => by omega) (fun h => by omega)) hK
  exact ⟨M2, m', _, g1, k1, k3, adN_AG (by decide) (by decide)⟩
theorem CE.addSch (C : CE m ow ad e) (hn : e.1 10 2 < 4) : ∃ M2 m' ad', fm_X7_init (m 0 0) p1 p2 p3 p4 p5 (mnew m 8 9) = some (0, M2) ∧ fm_Jx4a65c_add_9ea2d 10 (m 0 0) M2 = some (1, m') ∧ CX1 m' ad' (pNew 10 (fSch p1 p2 p3 p4 p5) e) ∧ AG e ad ad' := by
  have h163 := C.fix.1
  have e00 : mnew m 8 9 0 0 = m 0 0 + 1 := (mn_c (by omega)).1
  have hok : okc (mnew m 8 9) (m 0 0) 8 := okc_new (c := 8) (by omega)
  obtain ⟨M2, g1, g2, g3, g4⟩ := x7_init (p := m 0 0) (p1 := p1) (p2 := p2) (p3 := p3) (p4 := p4) (p5 := p5) (fx_mnew (kd := 8) (ln := 9) C.fix) (by omega) (by omega)
  have hp2 := g3.1.ok hok
  have n0 : 0 ≤ e.1 10 2 := C.cn.2.2.2.1.1
  have hK : ∀ (m' : MM) (ow' : Int → Int), (∀ j, m' (m 0 0) j = M2 (m 0 0) j) → Ext M2 m' → ow' (m 0 0) = 1000 * 10 + e.1 10 2 → Kx m' ow' (adN ad 10 (e.1 10 2) (m 0 0)) (pNew 10 (fSch p1 p2 p3 p4 p5) e) (1000 * 10 + e.1 10 2) := by
    intro m' ow' h1 h2 h3
    refine Kx.of10 ⟨by rw [adN_e]; exact h2.ok hp2, by rw [adN_e]; omega, by rw [adN_e]; exact h3, fun j j0 j1 => ?_⟩ n0 (by omega)
    rw [adN_e, h1, g4 j j0 j1, pNew_f10 n0]
    rfl
  obtain ⟨m', k1, k2, k3⟩ := C.obj (c := 10) (f := fSch p1 p2 p3 p4 p5) (by decide) (by decide) g3 g2 ⟨hp2.1, hp2.2.1, Or.inr (Or.inr (Or.inr (Or.inl hp2.2.2)))⟩ (C.cn.new (by decide) (by decide) (fun h => by omega) (fun h => by omega) (fun _ => hn)) hK
  exact ⟨M2, m', _, g1, k1, k3, adN_AG (by decide) (by decide)⟩
theorem CE.addTsk (C : CE m ow ad e) (hn : e.1 9 2 < 512) (i0 : 0 ≤ i) (i1 : i < e.1 7 2) (hb : MkB e i) : ∃ M2 m' ad', fm_X9_init (m 0 0) p1 (ad 7 i) p3 (mnew m 10 6) = some (0, M2) ∧ fm_Jx4a65c_size_8abf5 9 M2 = some (e.1 9 2) ∧ fm_Jx4a65c_add_9ea2d 9 (m 0 0) (mset M2 (ad 7 i) 10 (e.1 9 2)) = some (1, m') ∧ CX1 m' ad' (pNew 9 (fTsk p1 i p3 (hA e i) (pMark e i)) (eS e (7000 + i) 10 (e.1 9 2))) ∧ AG e ad ad' := by
  have h163 := C.fix.1
  have e00 : mnew m 10 6 0 0 = m 0 0 + 1 := (mn_c (by omega)).1
  have hok : okc (mnew m 10 6) (m 0 0) 10 := okc_new (c := 10) (by omega)
  have x0 : Ext m (mnew m 10 6) := mnew_ext (by omega)
  obtain ⟨r1, r2, r3, r4, r5, r6, r7, r8, r9⟩ := C.run i0 i1
  obtain ⟨s1, s2, s3, s4, s5⟩ := (C.his i0 i1).sl
  have hol := s1.2.1
  have o1 : ∀ j, mnew m 10 6 (ad 7 i) j = m (ad 7 i) j := fun j => mn_o (by have := r1.2.1; omega) (by omega)
  have o2 : ∀ j, mnew m 10 6 (ad 71 i) j = m (ad 71 i) j := fun j => mn_o (by omega) (by have := s1.1; omega)
  have hr1 := r1.2.1
  obtain ⟨M2, g1, g2, g3, g4⟩ := x9_init (p := m 0 0) (p1 := p1) (p3 := p3) (r := ad 7 i) (h := ad 71 i) (a := hA e i) (b := hT e i) (c := e.1 (7000 + i) 9) (v := e.1 (7000 + i) 3) (fx_mnew (kd := 10) (ln := 6) C.fix) (by omega) (by omega) (by omega) (x0.ok r1) (by omega) (by rw [o1]; exact r6) (x0.ok s1) (by rw [o2]; exact s3) (by rw [o2]; exact s4) (by rw [o1]; exact r4 9 (by decide) (by decide)) (by rw [o1]; exact r4 3 (by decide) (by decide)) hb.1 hb.2.1 hb.2.2
  have hp2 := g3.1.ok hok
  have n0 : 0 ≤ e.1 9 2 := C.cn.2.2.1.1
  have old2 : ∀ a j : Int, a < m 0 0 → a ≠ 0 → M2 a j = m a j := fun a j a0 a1 => by
    rw [g3.2 a j (by omega) a1 (by omega), mn_o (by omega) a1]
  obtain ⟨L1, L2, L3, L4⟩ := C.lst (c := 9) (by decide) (by decide)
  have LI2 : LI M2 9 (lsq (e.1 9 2) (ad 9)) := L1.fr (x0.tr g3.1) (fun j _ => old2 _ _ (by omega) (by decide)) fun hh j _ => old2 _ _ (by
    rcases L1.2.2.2.2 with z | z
    · exact absurd z.1 hh
    · exact z.1.2.1) (by
    rcases L1.2.2.2.2 with z | z
    · exact absurd z.1 hh
    · have := z.1.1; omega)
  have hsz : fm_Jx4a65c_size_8abf5 9 M2 = some (e.1 9 2) := by
    rw [li_size LI2, lst_len]
    congr 1
    omega
  have C2 : CE (mset m (ad 7 i) 10 (e.1 9 2)) ow ad (eS e (7000 + i) 10 (e.1 9 2)) := C.s7 i0 i1 (by decide) (by decide) (fun h => by omega)
  have m200 : mset m (ad 7 i) 10 (e.1 9 2) 0 0 = m 0 0 := ms_a (by omega)
  have n9 : (eS e (7000 + i) 10 (e.1 9 2)).1 9 2 = e.1 9 2 := eS_a (by omega)
  have O2 : Onl (mnew (mset m (ad 7 i) 10 (e.1 9 2)) 10 6) (mset M2 (ad 7 i) 10 (e.1 9 2)) (mset m (ad 7 i) 10 (e.1 9 2) 0 0) := by
    have y1 : Ext M2 (mset M2 (ad 7 i) 10 (e.1 9 2)) := mset_ext (by omega) (by decide)
    have z00 : mnew (mset m (ad 7 i) 10 (e.1 9 2)) 10 6 0 0 = m 0 0 + 1 := by rw [(mn_c (by rw [m200]; omega)).1, m200]
    have key : ∀ a j : Int, a < m 0 0 → a ≠ 0 → mset M2 (ad 7 i) 10 (e.1 9 2) a j = mnew (mset m (ad 7 i) 10 (e.1 9 2)) 10 6 a j := fun a j a0 a1 => by
      rw [mn_o (by rw [m200]; omega) a1]
      unfold mset
      rw [old2 a j a0 a1]
    have kp : ∀ j : Int, j < 0 → mnew (mset m (ad 7 i) 10 (e.1 9 2)) 10 6 (m 0 0) j = mnew m 10 6 (m 0 0) j := fun j _ => by
      unfold mnew
      rw [m200, if_pos rfl, if_pos rfl]
    refine ⟨⟨?_, fun a a0 a1 => ?_⟩, fun a j a0 a1 a2 => ?_⟩
    · rw [z00, ms_a (by omega)]
      have := g3.1.1
      omega
    · rw [z00] at a1
      by_cases c : a = m 0 0
      · subst c
        have h1 := g3.1.2 (m 0 0) a0 (by omega)
        rw [kp _ (by decide), kp _ (by decide), ms_a (by omega), ms_a (by omega)]
        exact h1
      · exact ⟨key a _ (by omega) (by omega), key a _ (by omega) (by omega)⟩
    · rw [z00] at a0
      rw [m200] at a2
      exact key a j (by omega) a1
  have hp3 : okc (mset M2 (ad 7 i) 10 (e.1 9 2)) (m 0 0) 10 := (mset_ext (m := M2) (a := ad 7 i) (j := 10) (v := e.1 9 2) (by omega) (by decide)).ok hp2
  have hb3 : okob (mset M2 (ad 7 i) 10 (e.1 9 2)) (mset m (ad 7 i) 10 (e.1 9 2) 0 0) := by
    rw [m200]
    exact ⟨hp3.1, hp3.2.1, Or.inr (Or.inr (Or.inr (Or.inr hp3.2.2)))⟩
  have hK : ∀ (m' : MM) (ow' : Int → Int), (∀ j, m' (mset m (ad 7 i) 10 (e.1 9 2) 0 0) j = mset M2 (ad 7 i) 10 (e.1 9 2) (mset m (ad 7 i) 10 (e.1 9 2) 0 0) j) → Ext (mset M2 (ad 7 i) 10 (e.1 9 2)) m' → ow' (mset m (ad 7 i) 10 (e.1 9 2) 0 0) = 1000 * 9 + (eS e (7000 + i) 10 (e.1 9 2)).1 9 2 → Kx m' ow' (adN ad 9 ((eS e (7000 + i) 10 (e.1 9 2)).1 9 2) (mset m (ad 7 i) 10 (e.1 9 2) 0 0)) (pNew 9 (fTsk p1 i p3 (hA e i) (pMark e i)) (eS e (7000 + i) 10 (e.1 9 2))) (1000 * 9 + (eS e (7000 + i) 10 (e.1 9 2)).1 9 2) := by
    intro m' ow' h1 h2 h3
    rw [m200] at h1 h3 ⊢
    refine Kx.of9 ⟨by rw [adN_e]; exact h2.ok hp3, by rw [adN_e]; omega, by rw [adN_e]; exact h3, ?_, ?_, fun j hj => ?_⟩ (by rw [n9]; exact n0) (by rw [n9]; omega)
    · rw [pNew_f9 (by rw [n9]; exact n0), pNew_a (by decide) (by rw [n9]; omega), eS_a (by omega)]
      exact ⟨i0, i1⟩
    · rw [adN_e, h1, ms_a (by omega), g4 1 (by decide) (by decide), pNew_f9 (by rw [n9]; exact n0)]
      show ad 7 i = adN ad 9 _ (m 0 0) 7 i
      rw [adN_a (Or.inl (by decide))]
    · rw [adN_e, h1, ms_a (by omega), g4 j (by omega) (by omega), pNew_f9 (by rw [n9]; exact n0)]
      unfold fTsk
      by_cases c0 : j = 0
      · rw [if_pos c0, if_pos c0]
      · rw [if_neg c0, if_neg c0, if_neg (show ¬ j = 1 by omega), if_neg (show ¬ j = 1 by omega)]
        rfl
  obtain ⟨m', k1, k2, k3⟩ := C2.obj (c := 9) (f := fTsk p1 i p3 (hA e i) (pMark e i)) (by decide) (by decide) O2 (fx_new g2 r2 (by decide)) hb3 (C2.cn.new (by decide) (by decide) (fun h => by omega) (fun _ => by rw [n9]; exact hn) (fun h => by omega)) hK
  rw [m200] at k1
  refine ⟨M2, m', _, g1, hsz, k1, k3, ?_⟩
  rw [n9]
  exact adN_AG (by decide) (by decide)
end EN8
