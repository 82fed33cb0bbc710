/-! THE ENGINE: a new run's object, with its history and its rows. -/
section XIN
variable {m m' M : MM} {h a b i j v n p t N r p1 p2 p3 p4 p5 p6 : Int} {l : List Int} {E : Int → Ev}
theorem row_new (hF : Fix m) : ∃ m2, fm_X5_init (m 0 0) (mnew m 6 3) = some (0, m2) ∧ RowIs m2 (m 0 0) [] ∧ Fix m2 ∧ Ext m m2 ∧ (∀ a j : Int, a < m 0 0 → a ≠ 0 → m2 a j = m a j) ∧ (∀ a, Op m2 (m 0 0) a → m 0 0 ≤ a) ∧ (∀ a, ¬ Sh m2 (m 0 0) a) ∧ m 0 0 < m2 0 0 ∧ m2 (m 0 0) 1 = 0 := by
  have m00 := hF.1
  have x0 : Ext m (mnew m 6 3) := mnew_ext (by omega)
  have ho : okc (mnew m 6 3) (m 0 0) 6 := okc_new (c := 6) (by omega)
  have n0 : mnew m 6 3 0 0 = m 0 0 + 1 := (mn_c (by omega)).1
  obtain ⟨m2, g1, g2, g3, g4, g5, g6, g7⟩ := row_init (fx_mnew hF) (by omega) ho
  have h1 := g2.1.2.2.2.2.1
  have h2 := g2.1.2.2.2.2.2.2.1
  have h3 := g2.2.2.1
  refine ⟨m2, g1, g2, g3, x0.tr g4, fun a j a0 a1 => ?_, fun a ha => ?_, g7, by have := g4.1; omega, by simp only [List.length_nil] at h3; omega⟩
  · rw [g5 a j (by omega) a1 (by omega), mn_o (by omega) a1]
  · rcases g6 a ha with hh | hh
    · omega
    · omega
/-- a row of an object's own: nothing else is written -/
theorem row_of (hF : Fix m) (hp : okc m p n.toNat) (hp2 : 163 ≤ p) (hj : 0 ≤ j) : ∃ m2, fm_X5_init (m 0 0) (mnew m 6 3) = some (0, m2) ∧ RowIs (mset m2 p j (m 0 0)) (m 0 0) [] ∧ Fix (mset m2 p j (m 0 0)) ∧ Ext m (mset m2 p j (m 0 0)) ∧ (∀ a i : Int, a < m 0 0 → a ≠ 0 → (a ≠ p ∨ i ≠ j) → mset m2 p j (m 0 0) a i = m a i) ∧ (∀ a, Fp (mset m2 p j (m 0 0)) (m 0 0) a → m 0 0 ≤ a) ∧ m 0 0 < mset m2 p j (m 0 0) 0 0 ∧ mset m2 p j (m 0 0) (m 0 0) 1 = 0 ∧ mset m2 p j (m 0 0) p j = m 0 0 := by
  obtain ⟨m2, g1, g2, g3, g4, g5, g6, g7, g8, g9⟩ := row_new hF
  have hpl := hp.2.1
  have m00 := hF.1
  have x1 : Ext m2 (mset m2 p j (m 0 0)) := mset_ext (by omega) hj
  have nf : ∀ a, Fp m2 (m 0 0) a → m 0 0 ≤ a := fun a ha => (Fp.split g2.1 ha).elim (g6 a) fun hh => absurd hh (g7 a)
  have hr := g2.fr x1 fun a i ha _ => ms_a (v := m 0 0) (j := j) (i := i) fun hh => by have := nf a ha; omega
  refine ⟨m2, g1, hr.1, fx_new g3 hp2 hj, g4.tr x1, fun a i a0 a1 a2 => ?_, fun a ha => nf a ((hr.2 a).mp ha), by rw [ms_a (by omega)]; exact g8, by rw [ms_a (by omega)]; exact g9, ms_e⟩
  rw [← g5 a i a0 a1]
  unfold mset
  rw [if_neg (by omega)]
/-- a history of an object's own -/
theorem hist_of (hF : Fix m) (hp : okc m p n.toNat) (hp2 : 163 ≤ p) (hj : 0 ≤ j) : ∃ m2 m3, fm_X5_init (mnew m 3 5 0 0) (mnew (mnew m 3 5) 6 3) = some (0, m2) ∧ fm_X2_init (m 0 0) (mnew m 3 5 0 0) m2 = some (0, m3) ∧ HS (mset m3 p j (m 0 0)) (m 0 0) 0 E ∧ mset m3 p j (m 0 0) (m 0 0) 0 = m 0 0 + 1 ∧ Fix (mset m3 p j (m 0 0)) ∧ Ext m (mset m3 p j (m 0 0)) ∧ (∀ a i : Int, a < m 0 0 → a ≠ 0 → (a ≠ p ∨ i ≠ j) → mset m3 p j (m 0 0) a i = m a i) ∧ (∀ a, Op (mset m3 p j (m 0 0)) (m 0 0 + 1) a → m 0 0 ≤ a) ∧ (∀ a, ¬ Sh (mset m3 p j (m 0 0)) (m 0 0 + 1) a) ∧ m 0 0 + 1 < mset m3 p j (m 0 0) 0 0 ∧ mset m3 p j (m 0 0) p j = m 0 0 := by
  have m00 := hF.1
  have hpl := hp.2.1
  have x0 : Ext m (mnew m 3 5) := mnew_ext (by omega)
  have ho : okc (mnew m 3 5) (m 0 0) 3 := okc_new (c := 3) (by omega)
  have n0 : mnew m 3 5 0 0 = m 0 0 + 1 := (mn_c (by omega)).1
  obtain ⟨m2, g1, g2, g3, g4, g5, g6, g7, g8, g9⟩ := row_new (fx_mnew (kd := 3) (ln := 5) hF)
  rw [n0] at g1 g2 g5 g6 g7 g8 g9
  have nf : ∀ a, Fp m2 (m 0 0 + 1) a → m 0 0 + 1 ≤ a := fun a ha => (Fp.split g2.1 ha).elim (g6 a) fun hh => absurd hh (g7 a)
  obtain ⟨m3, k1, k2, k3, k4, k5, k6⟩ := hist_init (E := E) (h := m 0 0) g3 (by omega) (g4.ok ho) g2 (by omega) (fun hh => by have := nf _ hh; omega)
  have x1 : Ext m3 (mset m3 p j (m 0 0)) := mset_ext (by omega) hj
  have k2r : RowIs m3 (m 0 0 + 1) [] ∧ ∀ a, Fp m3 (m 0 0 + 1) a ↔ Fp m2 (m 0 0 + 1) a := g2.fr k4 fun a i ha _ => k5 a i fun hh => by have := nf a ha; omega
  have k2o := Op.fr g2 k4 fun a i ha _ => k5 a i fun hh => by have := nf a ha; omega
  have k3r := Op.fr k2r.1 x1 fun a i ha _ => ms_a (v := m 0 0) (j := j) (i := i) fun hh => by have := nf a ((k2r.2 a).mp ha); omega
  refine ⟨m2, m3, by rw [n0]; exact g1, by rw [n0]; exact k1, ?_, by rw [ms_a (by omega)]; exact k6, fx_new k3 hp2 hj, ((x0.tr g4).tr k4).tr x1, fun a i a0 a1 a2 => ?_, fun a ha => ?_, fun a ha => ?_, ?_, ms_e⟩
  · refine k2.fr x1 (fun i _ => ms_a (by omega)) fun a i ha _ => ms_a fun hh => ?_
    rw [k6] at ha
    have := nf a ((k2r.2 a).mp ha)
    omega
  · rw [← mn_o (m := m) (kd := 3) (ln := 5) (j := i) (show a ≠ m 0 0 by omega) a1, ← g5 a i (by omega) a1, ← k5 a i (by omega)]
    unfold mset
    rw [if_neg (by omega)]
  · have := g6 a ((k2o.1 a).mp ((k3r.1 a).mp ha))
    omega
  · exact g7 a ((k2o.2 a).mp ((k3r.2 a).mp ha))
  · rw [ms_a (by omega)]
    have := k4.1
    omega
/-- what is written into an old object alone, what lies above a bound being left -/
def Onl (M m : MM) (p : Int) : Prop := Ext M m ∧ ∀ a j : Int, a < M 0 0 → a ≠ 0 → a ≠ p → m a j = M a j
theorem Onl.tr {m1 m2 m3 : MM} (h : Onl m1 m2 p) (k : Onl m2 m3 p) : Onl m1 m3 p := ⟨h.1.tr k.1, fun a j h1 h2 h3 => by rw [k.2 a j (by have := h.1.1; omega) h2 h3, h.2 a j h1 h2 h3]⟩
theorem Onl.ms (hp : 4 ≤ p) (hj : 0 ≤ j) : Onl m (mset m p j v) p := ⟨mset_ext hp hj, fun a i _ _ h3 => ms_a h3⟩
theorem Onl.row (k : Onl M m p) (h : RowIs M r l) (hp : ∀ a, Fp M r a → a ≠ p) : RowIs m r l ∧ (∀ a, Fp m r a ↔ Fp M r a) ∧ (∀ a, Op m r a ↔ Op M r a) ∧ ∀ a, Sh m r a ↔ Sh M r a := by
  have e : ∀ a j : Int, Fp M r a → 0 ≤ j → m a j = M a j := fun a j ha _ => k.2 a j (Fp.lt h.1 ha).2 (by have := (Fp.lt h.1 ha).1; omega) (hp a ha)
  exact ⟨(h.fr k.1 e).1, (h.fr k.1 e).2, (Op.fr h k.1 e).1, (Op.fr h k.1 e).2⟩
/-- a new run -/
theorem x6_init (hF : Fix m) (hp : okc m p 7) (hp2 : 163 ≤ p) : ∃ m' h t d q b1 b2 b3, fm_X6_init p p1 p2 p3 p4 p5 p6 m = some (0, m') ∧ Fix m' ∧ Onl m m' p ∧ (∀ j : Int, 0 ≤ j → j ≤ 15 → m' p j = (if j = 0 then p1 else if j = 1 then p2 else if j = 2 then p3 else if j = 3 then p4 else if j = 4 then p5 else if j = 5 then p6 else if j = 7 ∨ (10 ≤ j ∧ j ≤ 12) then -1 else 0)) ∧ (m' p 16 = h ∧ m' p 17 = t ∧ m' p 18 = d ∧ m' p 19 = q) ∧ (m 0 0 ≤ h ∧ h < b1 ∧ HS m' h 0 E ∧ m' h 0 = h + 1 ∧ (∀ a, Op m' (h + 1) a → m 0 0 ≤ a ∧ a < b1) ∧ ∀ a, ¬ Sh m' (h + 1) a) ∧ (RowIs m' t [] ∧ m' t 1 = 0 ∧ ∀ a, Fp m' t a → b1 ≤ a ∧ a < b2) ∧ (RowIs m' d [] ∧ m' d 1 = 0 ∧ ∀ a, Fp m' d a → b2 ≤ a ∧ a < b3) ∧ (RowIs m' q [] ∧ m' q 1 = 0 ∧ ∀ a, Fp m' q a → b3 ≤ a) ∧ m 0 0 ≤ b1 ∧ b1 ≤ b2 ∧ b2 ≤ b3 := by
  have m00 := hF.1
  have hpl := hp.2.1
  have s := fun (M : MM) (j v : Int) (F : Fix M) (g : 0 ≤ j) => (⟨fx_new F hp2 g, Onl.ms (by omega) g⟩ : Fix (mset M p j v) ∧ Onl M (mset M p j v) p)
  -- the fields with their first values
  obtain ⟨M1, eM1, F1, O1, v1⟩ : ∃ M1, M1 = mset (mset (mset (mset (mset (mset (mset (mset (mset (mset m p 6 0) p 7 (-1)) p 8 0) p 9 0) p 10 (-1)) p 11 (-1)) p 12 (-1)) p 13 0) p 14 0) p 15 0 ∧ Fix M1 ∧ Onl m M1 p ∧ ∀ j : Int, 6 ≤ j → j ≤ 15 → M1 p j = (if j = 7 ∨ (10 ≤ j ∧ j ≤ 12) then -1 else 0) := by
    obtain ⟨f1, o1⟩ := s m 6 0 hF (by decide)
    obtain ⟨f2, o2⟩ := s _ 7 (-1) f1 (by decide)
    obtain ⟨f3, o3⟩ := s _ 8 0 f2 (by decide)
    obtain ⟨f4, o4⟩ := s _ 9 0 f3 (by decide)
    obtain ⟨f5, o5⟩ := s _ 10 (-1) f4 (by decide)
    obtain ⟨f6, o6⟩ := s _ 11 (-1) f5 (by decide)
    obtain ⟨f7, o7⟩ := s _ 12 (-1) f6 (by decide)
    obtain ⟨f8, o8⟩ := s _ 13 0 f7 (by decide)
    obtain ⟨f9, o9⟩ := s _ 14 0 f8 (by decide)
    obtain ⟨f10, o10⟩ := s _ 15 0 f9 (by decide)
    refine ⟨_, rfl, f10, ((((((((o1.tr o2).tr o3).tr o4).tr o5).tr o6).tr o7).tr o8).tr o9).tr o10, fun j j0 j1 => ?_⟩
    simp only [ms_i]
    have hj : j = 6 ∨ j = 7 ∨ j = 8 ∨ j = 9 ∨ j = 10 ∨ j = 11 ∨ j = 12 ∨ j = 13 ∨ j = 14 ∨ j = 15 := by omega
    rcases hj with rfl | rfl | rfl | rfl | rfl | rfl | rfl | rfl | rfl | rfl <;> rfl
  have hp1 : okc M1 p ((7 : Int)).toNat := O1.1.ok hp
  obtain ⟨Ma, Mb, h1, h2, h3, h4, h5, h6, h7, h8, h9, h10, h11⟩ := hist_of (E := E) (n := 7) (j := 16) F1 hp1 hp2 (by decide)
  have w1 := O1.1.1
  generalize eM2 : mset Mb p 16 (M1 0 0) = M2 at *
  have O2 : Onl M1 M2 p := ⟨h6, fun a j a0 a1 a2 => h7 a j a0 a1 (Or.inl a2)⟩
  obtain ⟨Mc, t1, t2, t3, t4, t5, t6, t7, t8, t9⟩ := row_of (n := 7) (j := 17) h5 (h6.ok hp1) hp2 (by decide)
  generalize eM3 : mset Mc p 17 (M2 0 0) = M3 at *
  have O3 : Onl M2 M3 p := ⟨t4, fun a j a0 a1 a2 => t5 a j a0 a1 (Or.inl a2)⟩
  obtain ⟨Md, d1, d2, d3, d4, d5, d6, d7, d8, d9⟩ := row_of (n := 7) (j := 18) t3 (t4.ok (h6.ok hp1)) hp2 (by decide)
  generalize eM4 : mset Md p 18 (M3 0 0) = M4 at *
  have O4 : Onl M3 M4 p := ⟨d4, fun a j a0 a1 a2 => d5 a j a0 a1 (Or.inl a2)⟩
  obtain ⟨Me, q1, q2, q3, q4, q5, q6, q7, q8, q9⟩ := row_of (n := 7) (j := 19) d3 (d4.ok (t4.ok (h6.ok hp1))) hp2 (by decide)
  generalize eM5 : mset Me p 19 (M4 0 0) = M5 at *
  have O5 : Onl M4 M5 p := ⟨q4, fun a j a0 a1 a2 => q5 a j a0 a1 (Or.inl a2)⟩
  obtain ⟨M6, eM6, F6, O6, v6⟩ : ∃ M6, M6 = mset (mset (mset (mset (mset (mset M5 p 0 p1) p 1 p2) p 2 p3) p 3 p4) p 4 p5) p 5 p6 ∧ Fix M6 ∧ Onl M5 M6 p ∧ ∀ j : Int, 0 ≤ j → M6 p j = (if j = 0 then p1 else if j = 1 then p2 else if j = 2 then p3 else if j = 3 then p4 else if j = 4 then p5 else if j = 5 then p6 else M5 p j) := by
    obtain ⟨f1, o1⟩ := s M5 0 p1 q3 (by decide)
    obtain ⟨f2, o2⟩ := s _ 1 p2 f1 (by decide)
    obtain ⟨f3, o3⟩ := s _ 2 p3 f2 (by decide)
    obtain ⟨f4, o4⟩ := s _ 3 p4 f3 (by decide)
    obtain ⟨f5, o5⟩ := s _ 4 p5 f4 (by decide)
    obtain ⟨f6, o6⟩ := s _ 5 p6 f5 (by decide)
    refine ⟨_, rfl, f6, ((((o1.tr o2).tr o3).tr o4).tr o5).tr o6, fun j j0 => ?_⟩
    simp only [ms_i]
    by_cases c5 : j = 5
    · subst c5; rfl
    · rw [if_neg c5]
      by_cases c4 : j = 4
      · subst c4; rfl
      · rw [if_neg c4]
        by_cases c3 : j = 3
        · subst c3; rfl
        · rw [if_neg c3]
          by_cases c2 : j = 2
          · subst c2; rfl
          · rw [if_neg c2]
            by_cases c1 : j = 1
            · subst c1; rfl
            · rw [if_neg c1]
              by_cases c0 : j = 0
              · rw [if_pos c0, if_pos c0]
              · rw [if_neg c0, if_neg c0, if_neg c1, if_neg c2, if_neg c3, if_neg c4, if_neg c5]
  have p2h : M1 0 0 ≤ M2 0 0 := h6.1
  have p3h : M2 0 0 ≤ M3 0 0 := t4.1
  have p4h : M3 0 0 ≤ M4 0 0 := d4.1
  have T5 := O6
  have T4 := O5.tr O6
  have T3 := O4.tr T4
  have T2 := O3.tr T3
  have pl : ∀ j : Int, 0 ≤ j → j ≤ 15 → M5 p j = M1 p j := fun j j0 j1 => by
    rw [q5 p j (by omega) (by omega) (Or.inr (by omega)), d5 p j (by omega) (by omega) (Or.inr (by omega)), t5 p j (by omega) (by omega) (Or.inr (by omega)), h7 p j (by omega) (by omega) (Or.inr (by omega))]
  have e16 : M6 p 16 = M1 0 0 := by
    rw [v6 16 (by decide)]
    show M5 p 16 = _
    rw [q5 p 16 (by omega) (by omega) (Or.inr (by decide)), d5 p 16 (by omega) (by omega) (Or.inr (by decide)), t5 p 16 (by omega) (by omega) (Or.inr (by decide))]
    exact h11
  have e17 : M6 p 17 = M2 0 0 := by
    rw [v6 17 (by decide)]
    show M5 p 17 = _
    rw [q5 p 17 (by omega) (by omega) (Or.inr (by decide)), d5 p 17 (by omega) (by omega) (Or.inr (by decide))]
    exact t9
  have e18 : M6 p 18 = M3 0 0 := by
    rw [v6 18 (by decide)]
    show M5 p 18 = _
    rw [q5 p 18 (by omega) (by omega) (Or.inr (by decide))]
    exact d9
  have e19 : M6 p 19 = M4 0 0 := by
    rw [v6 19 (by decide)]
    exact q9
  obtain ⟨lh, hrow, -⟩ := h3.1.2.2
  rw [h4] at hrow
  have hfp : ∀ a, Fp M2 (M1 0 0 + 1) a → M1 0 0 ≤ a := fun a ha => (Fp.split hrow.1 ha).elim (h8 a) fun hh => absurd hh (h9 a)
  obtain ⟨r1, r2, r3, r4⟩ := T2.row hrow fun a ha => by have := hfp a ha; omega
  obtain ⟨tr1, tr2, -, -⟩ := T3.row t2 fun a ha => by have := t6 a ha; omega
  obtain ⟨dr1, dr2, -, -⟩ := T4.row d2 fun a ha => by have := d6 a ha; omega
  obtain ⟨qr1, qr2, -, -⟩ := T5.row q2 fun a ha => by have := q6 a ha; omega
  refine ⟨M6, M1 0 0, M2 0 0, M3 0 0, M4 0 0, M2 0 0, M3 0 0, M4 0 0, ?_, F6, O1.tr (O2.tr T2), fun j j0 j1 => ?_, ⟨e16, e17, e18, e19⟩, ⟨w1, by omega, ?_, ?_, fun a ha => ?_, fun a ha => h9 a ((r4 a).mp ha)⟩, ⟨tr1, ?_, fun a ha => ?_⟩, ⟨dr1, ?_, fun a ha => ?_⟩, ⟨qr1, ?_, fun a ha => q6 a ((qr2 a).mp ha)⟩, by omega, p3h, p4h⟩
  · unfold fm_X6_init
    simp only [up_t, nw_t]
    rw [← eM1, bd_t h1, bd_t h2, eM2, bd_t t1, eM3, bd_t d1, eM4, bd_t q1, eM5, ← eM6]
  · rw [v6 j j0]
    by_cases c : j < 6
    · have hj : j = 0 ∨ j = 1 ∨ j = 2 ∨ j = 3 ∨ j = 4 ∨ j = 5 := by omega
      rcases hj with rfl | rfl | rfl | rfl | rfl | rfl <;> rfl
    · rw [if_neg (by omega), if_neg (by omega), if_neg (by omega), if_neg (by omega), if_neg (by omega), if_neg (by omega), if_neg (show ¬ j = 0 by omega), if_neg (show ¬ j = 1 by omega), if_neg (show ¬ j = 2 by omega), if_neg (show ¬ j = 3 by omega), if_neg (show ¬ j = 4 by omega), if_neg (show ¬ j = 5 by omega), pl j j0 j1]
      exact v1 j (by omega) j1
  · refine h3.fr T2.1 (fun i _ => T2.2 _ _ (by omega) (by omega) (by omega)) fun a i ha _ => ?_
    rw [h4] at ha
    have := hfp a ha
    exact T2.2 a i (Fp.lt hrow.1 ha).2 (by omega) (by omega)
  · rw [T2.2 _ _ (by omega) (by omega) (by omega)]
    exact h4
  · have hb := (r3 a).mp ha
    have := h8 a hb
    exact ⟨by omega, (Fp.lt hrow.1 (Op.fp hrow.1 hb)).2⟩
  · rw [T3.2 _ _ (by omega) (by omega) (by omega)]
    exact t8
  · have hb := (tr2 a).mp ha
    exact ⟨t6 a hb, (Fp.lt t2.1 hb).2⟩
  · rw [T4.2 _ _ (by omega) (by omega) (by omega)]
    exact d8
  · have hb := (dr2 a).mp ha
    exact ⟨d6 a hb, (Fp.lt d2.1 hb).2⟩
  · rw [T5.2 _ _ (by omega) (by omega) (by omega)]
    exact q8
end XIN
