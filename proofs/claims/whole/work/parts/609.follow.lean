/-! THE TELLING: load, follow, isLeft, knows. -/
section FLW
variable {m0 m m' M mp m1 m2 : MM} {x : CX} {s s' : TS} {B : Int} {a b c e i j v k h n l w p g t q r : Int} {L : Int → List Int}
theorem CR.zero (h : CR m0 m s00 B) (h21 : m 21 2 = 0) : CR m0 m s00 0 := by
  obtain ⟨h1, h2, h3, h4, L, hR, ⟨l1, l2, l3, l4, l5, l6⟩, lC⟩ := h
  refine ⟨h1, h2, h3, h4, L, hR, ⟨fun r hr => ?_, l2, l3, l4, l5, l6⟩, lC⟩
  have e21 : (L 21).length = 0 := by
    have := (hR 21 (Or.inl rfl)).1.2.2.1
    omega
  have eq : ∀ n : Int, 0 ≤ n → n < 4 → (L (35 + 2 * n)).length = 0 := fun n g1 g2 => by rw [l2 n g1 g2]; rfl
  rcases hr with rfl | rfl | rfl | rfl | rfl | rfl
  · omega
  · have := eq 0 (by decide) (by decide)
    exact Int.le_of_eq (by rw [show (35 : Int) + 2 * 0 = 35 from rfl] at this; omega)
  · have := eq 1 (by decide) (by decide)
    exact Int.le_of_eq (by rw [show (35 : Int) + 2 * 1 = 37 from rfl] at this; omega)
  · have := eq 2 (by decide) (by decide)
    exact Int.le_of_eq (by rw [show (35 : Int) + 2 * 2 = 39 from rfl] at this; omega)
  · have := eq 3 (by decide) (by decide)
    exact Int.le_of_eq (by rw [show (35 : Int) + 2 * 3 = 41 from rfl] at this; omega)
  · have := l6.1
    have e : (s00.2.2.2.2).length = 0 := rfl
    omega
def sKeep (s : TS) : TS := st (st (st (st (stn s []) 0 28 0) 0 29 0) 0 30 0) 0 31 (-1)
theorem load63 (hC : CR m m s B) : ∃ m', fj_X4_load_63 m = some (0, m') ∧ CR m' m' (sKeep s) B ∧ PF m m' ∧ (∀ i : Int, i < 7 → m' 16 i = m 16 i) ∧ m' 16 7 = 0 ∧ m' 21 2 = m 21 2 ∧ LD m m' := by
  have w1 := hC.low (j := 7) (v := 0) (by decide) (by decide)
  have p1 := hC.pfl (j := 7) (v := 0) (by decide)
  obtain ⟨m1, f1, g1, q1, d1⟩ := w1.ncut
  have W2 : CLd m (mset m 16 7 0) (mset (mset (mset (mset m1 16 8 0) 16 9 0) 16 10 0) 16 11 (-1)) (sKeep s) B := ((((show CLd m (mset m 16 7 0) m1 (stn s []) B from ⟨g1, LD.tr (hC.ld (Or.inl rfl) (by decide)) d1⟩).p16 (j := 8) (v := 0) (by decide) (by decide)).p16 (j := 9) (v := 0) (by decide) (by decide)).p16 (j := 10) (v := 0) (by decide) (by decide)).p16 (j := 11) (v := -1) (by decide) (by decide)
  have w2 := W2.1
  have e16 : ∀ i : Int, i < 8 → mset (mset (mset (mset m1 16 8 0) 16 9 0) 16 10 0) 16 11 (-1) 16 i = mset m 16 7 0 16 i := fun i hi => w2.2.1.2.2 i hi
  refine ⟨_, ?_, w2.re, p1.tr (PF.of w2), fun i hi => ?_, ?_, ?_, W2.2⟩
  · unfold fj_X4_load_63
    simp only [up_t]
    rw [bd_t f1]
  · rw [e16 i (by omega), ms_j (by omega)]
  · rw [e16 7 (by decide), ms_e]
  · rw [ms_a (by decide), ms_a (by decide), ms_a (by decide), ms_a (by decide), q1, ms_a (by decide)]
theorem load56 (hC : CR m m s B) : ∃ m', fj_X4_load_56 m = some (0, m') ∧ CR m' m' s00 0 ∧ PF m m' ∧ (∀ i : Int, i < 7 → m' 16 i = m 16 i) ∧ m' 16 7 = 0 ∧ LD m m' := by
  obtain ⟨m1, f1, g1, q1, d1⟩ := clear_e hC
  obtain ⟨m2, f2, g2, g3, g4, g5, g6, d2⟩ := load63 g1.re
  refine ⟨m2, ?_, (g2.eqv (s' := s00) (fun j h1 h2 => ?_) (fun j h1 h2 => ?_) (fun j h1 h2 => ?_) (fun k j h1 h2 => ?_) (fun k h1 h2 => rfl) (fun n h1 h2 => rfl) rfl rfl (fun L hR hL _ => ?_)).zero (by rw [g6]; exact q1), (PF.of g1).tr g3, fun i hi => (g4 i hi).trans (g1.2.1.2.2 i (by omega)), g5, d1.tr d2⟩
  rotate_right
  · have e21 := (hR 21 (Or.inl rfl)).1.2.2.1
    rw [g6, q1] at e21
    have eL : ∀ n : Int, 0 ≤ n → n < 4 → L (35 + 2 * n) = [] := fun n g1 g2 => hL.2.1 n g1 g2
    refine ⟨⟨CpS.rf, ?_⟩, CpS.rf, fun q hq => ⟨CpS.rf, ?_⟩⟩
    · show ((L 21).length : Int) ≤ 0
      omega
    · obtain ⟨n, n0, n1, rfl⟩ : ∃ n : Int, 0 ≤ n ∧ n < 4 ∧ q = 35 + 2 * n := by
        unfold Mq at hq
        exact ⟨(q - 35) / 2, by omega, by omega, by omega⟩
      rw [eL n n0 n1]
      exact Int.le_refl 0
  · unfold fj_X4_load_56
    rw [bd_t f1]
    exact f2
  · have hj : j = 5 ∨ j = 6 ∨ j = 7 ∨ j = 8 ∨ j = 9 ∨ j = 10 ∨ j = 11 ∨ j = 12 ∨ j = 13 := by omega
    rcases hj with rfl | rfl | rfl | rfl | rfl | rfl | rfl | rfl | rfl <;> rfl
  · have hj : j = 28 ∨ j = 29 ∨ j = 30 ∨ j = 31 := by omega
    rcases hj with rfl | rfl | rfl | rfl <;> rfl
  · have hj : j = 0 ∨ j = 1 ∨ j = 2 ∨ j = 3 ∨ j = 4 ∨ j = 5 := by omega
    rcases hj with rfl | rfl | rfl | rfl | rfl | rfl <;> rfl
  · exact absurd h2 (by show ¬ k < 0; omega)
theorem load_e (hC : CR m m s B) (okr : okc m r 7) (hkn : m 16 7 = 0 ∨ 4 ≤ m 16 7) : ∃ m', fm_X4_load r c w m = some (0, m') ∧ CR m' m' (if w = 2 ∧ m 16 7 = r then sKeep s else s00) (if w = 2 ∧ m 16 7 = r then B else 0) ∧ PF m m' ∧ m' 16 2 = m r 16 ∧ m' 16 3 = c ∧ m' 16 4 = w ∧ m' 16 5 = (if w = 2 then m r 14 else 0) ∧ m' 16 6 = m r 15 ∧ m' 16 7 = 0 ∧ LD m m' := by
  have o16 : okc m 16 5 := fx_kF hC.1 (by decide +kernel)
  have hr16 : r ≠ 16 := okc_ap okr o16 (by decide)
  have step : ∀ {m1 : MM} (j v : Int), CR m1 m1 s B ∧ PF m m1 ∧ (∀ i, m1 r i = m r i) ∧ LD m m1 → 2 ≤ j → j < 8 → CR (mset m1 16 j v) (mset m1 16 j v) s B ∧ PF m (mset m1 16 j v) ∧ (∀ i, mset m1 16 j v r i = m r i) ∧ LD m (mset m1 16 j v) := by
    rintro m1 j v ⟨g1, g2, g3, g4⟩ h1 h2
    exact ⟨g1.low h1 h2, g2.tr (g1.pfl (by omega)), fun i => by rw [ms_a hr16]; exact g3 i, g4.tr (g1.ld (Or.inl rfl) (by omega))⟩
  have t0 : CR m m s B ∧ PF m m ∧ (∀ i, m r i = m r i) ∧ LD m m := ⟨hC, PF.rf, fun _ => rfl, LD.rf⟩
  have t1 := step 2 (m r 16) t0 (by decide) (by decide)
  have t2 := step 3 c t1 (by decide) (by decide)
  have t3 := step 4 w t2 (by decide) (by decide)
  have t4 := step 5 (if w = 2 then m r 14 else 0) t3 (by decide) (by decide)
  have t5 := step 6 (m r 15) t4 (by decide) (by decide)
  have h32 : fm_X4_load r c w m = fj_X4_load_32 r w (if w = 2 then m r 14 else 0) (mset (mset (mset m 16 2 (m r 16)) 16 3 c) 16 4 w) := by
    unfold fm_X4_load
    simp only [lx_p, up_t]
    rw [gd_t okr]
    by_cases q : w = 2
    · rw [if_pos q, if_pos q, ms_a hr16, ms_a hr16, ms_a hr16]
    · rw [if_neg q, if_neg q]
  have okr4 : okc (mset (mset (mset (mset m 16 2 (m r 16)) 16 3 c) 16 4 w) 16 5 (if w = 2 then m r 14 else 0)) r 7 := t4.2.1.1.ok okr
  have e7 : ∀ i : Int, (mset (mset (mset (mset (mset m 16 2 (m r 16)) 16 3 c) 16 4 w) 16 5 (if w = 2 then m r 14 else 0)) 16 6 (m r 15)) 16 i = if i = 6 then m r 15 else if i = 5 then (if w = 2 then m r 14 else 0) else if i = 4 then w else if i = 3 then c else if i = 2 then m r 16 else m 16 i := fun i => by simp only [ms_i]
  generalize hM : mset (mset (mset (mset (mset m 16 2 (m r 16)) 16 3 c) 16 4 w) 16 5 (if w = 2 then m r 14 else 0)) 16 6 (m r 15) = M at t5 e7
  have hd : fj_X4_load_32 r w (if w = 2 then m r 14 else 0) (mset (mset (mset m 16 2 (m r 16)) 16 3 c) 16 4 w) = if w = 2 ∧ m 16 7 = r then fj_X4_load_63 M else fj_X4_load_56 M := by
    unfold fj_X4_load_32
    simp only [lx_p, up_t]
    rw [gd_t okr4, t4.2.2.1, hM]
    by_cases q : w = 2
    · have e77 : M 16 7 = m 16 7 := by rw [e7]; rfl
      rw [if_pos q, e77, gd_t (by omega)]
      by_cases q2 : m 16 7 = r
      · rw [if_pos q2, if_pos ⟨q, q2⟩]
      · rw [if_neg q2, if_neg (fun hh => q2 hh.2)]
    · rw [if_neg q, if_neg (fun hh => q hh.1)]
  rw [h32, hd]
  have fin : ∀ m' : MM, (∀ i : Int, i < 7 → m' 16 i = M 16 i) → m' 16 2 = m r 16 ∧ m' 16 3 = c ∧ m' 16 4 = w ∧ m' 16 5 = (if w = 2 then m r 14 else 0) ∧ m' 16 6 = m r 15 := by
    intro m' hm
    refine ⟨?_, ?_, ?_, ?_, ?_⟩
    · rw [hm 2 (by decide), e7]; rfl
    · rw [hm 3 (by decide), e7]; rfl
    · rw [hm 4 (by decide), e7]; rfl
    · rw [hm 5 (by decide), e7]; rfl
    · rw [hm 6 (by decide), e7]; rfl
  by_cases q : w = 2 ∧ m 16 7 = r
  · obtain ⟨m', f1, f2, f3, f4, f5, -, f6⟩ := load63 t5.1
    rw [if_pos q, if_pos q, if_pos q]
    obtain ⟨z1, z2, z3, z4, z5⟩ := fin m' f4
    exact ⟨m', f1, f2, t5.2.1.tr f3, z1, z2, z3, z4, z5, f5, t5.2.2.2.tr f6⟩
  · obtain ⟨m', f1, f2, f3, f4, f5, f6⟩ := load56 t5.1
    rw [if_neg q, if_neg q, if_neg q]
    obtain ⟨z1, z2, z3, z4, z5⟩ := fin m' f4
    exact ⟨m', f1, f2, t5.2.1.tr f3, z1, z2, z3, z4, z5, f5, t5.2.2.2.tr f6⟩
/-- a history and a code, outside the machine -/
def XP (mp : MM) (h c : Int) (x : CX) : Prop := HC mp h (x.1 0) x.2.1 ∧ ¬ Mfp mp h ∧ (∀ a, Fp mp (mp h 0) a → ¬ Mfp mp a) ∧ mp h 4 = x.1 1 ∧ (∃ lc, RowIs mp c lc ∧ (lc.length : Int) = x.1 5 ∧ x.1 5 ≤ 24 ∧ CodeIs lc x.2.2) ∧ ∀ a, Fp mp c a → ¬ Mfp mp a
theorem XP.pf (P : XP m h c x) (pf : PF m m') : XP m' h c x := by
  obtain ⟨⟨p1, p2, l, p3, p4, p5⟩, p6, p7, p8, ⟨lc, q1, q2, q3, q4⟩, q5⟩ := P
  have e : ∀ j, m' h j = m h j := fun j => pf.2.1 _ j (by have := p1.1; omega) p1.2.1 p6
  have r1 := p3.fr pf.1 fun a j ha _ => pf.2.1 a j (by have := (ha.lt p3.1).1; omega) (ha.lt p3.1).2 (p7 a ha)
  have r2 := q1.fr pf.1 fun a j ha _ => pf.2.1 a j (by have := (ha.lt q1.1).1; omega) (ha.lt q1.1).2 (q5 a ha)
  refine ⟨⟨pf.1.ok p1, by rw [e]; exact p2, l, by rw [e]; exact r1.1, p4, p5⟩, fun hh => ?_, fun a ha hh => ?_, by rw [e]; exact p8, ⟨lc, r2.1, q2, q3, q4⟩, fun a ha hh => ?_⟩
  · rcases pf.2.2 _ hh with g | g
    · exact p6 g
    · have := p1.2.1
      omega
  · rw [e] at ha
    have ha2 := (r1.2 a).mp ha
    rcases pf.2.2 _ hh with g | g
    · exact p7 a ha2 g
    · have := (ha2.lt p3.1).2
      omega
  · have ha2 := (r2.2 a).mp ha
    rcases pf.2.2 _ hh with g | g
    · exact q5 a ha2 g
    · have := (ha2.lt q1.1).2
      omega
theorem XP.xc (P : XP m h c x) (e2 : m 16 2 = h) (e3 : m 16 3 = c) (e4 : m 16 4 = x.1 4) (e5 : m 16 5 = x.1 2) (e6 : 0 < x.1 2 → m 16 6 = x.1 3) : XC m x := by
  obtain ⟨p1, p2, p3, p4, p5, p6⟩ := P
  unfold XC
  rw [e2, e3]
  exact ⟨p1, p2, p3, e4, e5, e6, p4, p5, p6⟩
theorem sw00 (hN : 0 ≤ x.1 0) : SW x s00 0 := by
  refine ⟨⟨Int.le_refl _, hN⟩, fun a _ _ => by
    have e : sg s00 1 a = 0 := (show (if (1 : Int) = 0 ∧ a = 31 then (-1 : Int) else 0) = 0 from if_neg (by omega))
    rw [e]
    decide, fun k g1 g2 => absurd g2 (by show ¬ k < 0; omega), fun v hv => absurd hv List.not_mem_nil, fun n _ _ v hv => absurd hv List.not_mem_nil, ⟨Int.le_refl _, Int.le_refl _⟩, ⟨Int.le_refl _, by decide⟩, ⟨Int.le_refl _, by decide⟩, Or.inl rfl, Int.le_refl _⟩
theorem btw00 (hN : 0 ≤ x.1 0) : BtW x s00 := ⟨⟨Int.le_refl _, hN⟩, ⟨Int.le_refl _, hN⟩, fun _ => rfl, Int.le_refl _, Int.le_refl _⟩
/-- a whole telling, from the beginning -/
def told (x : CX) (l : Int) : TS := sFollow x l (l.toNat + 1) 0 s00
theorem follow_e (hC : CR m m s B) (okr : okc m r 7) (hkn : m 16 7 = 0 ∨ 4 ≤ m 16 7) (P : XP m (m r 16) c x) (hx : CxW x) (h4 : x.1 4 = w) (h2 : x.1 2 = if w = 2 then m r 14 else 0) (h3 : w = 2 → x.1 3 = m r 15) (hw : ¬ (w = 2 ∧ m 16 7 = r)) (l0 : 0 ≤ l) (hl : l ≤ 8000) (hN : x.1 0 + nl (told x l) ≤ 524288) : ∃ m', fm_X4_follow r c l w m = some (if sg (told x l) 0 30 = 0 then 1 else 0, m') ∧ CR m' m' (told x l) (30030 * (l + 1)) ∧ SW x (told x l) (30030 * (l + 1)) ∧ PF m m' ∧ XC m' x ∧ m' 16 7 = 0 := by
  obtain ⟨m1, f1, f2, f3, f4, f5, f6, f7, f8, f9, -⟩ := load_e (c := c) (w := w) hC okr hkn
  rw [if_neg hw, if_neg hw] at f2
  have P1 := P.pf f3
  have X1 : XC m1 x := P1.xc f4 f5 (by rw [f6, h4]) (by rw [f7, h2]) (fun hh => by
    rw [f8]
    by_cases q : w = 2
    · exact (h3 q).symm
    · rw [h2, if_neg q] at hh
      omega)
  have hn := P.1.n
  obtain ⟨m2, g1, g2, g3⟩ := follow_l (l := l) X1 hx (l.toNat + 1) BIG 0 s00 m1 0 (by omega) (Nat.le_of_lt (BIG_g (by omega))) ⟨by decide, l0⟩ (by omega) f2 (sw00 hn.1) (btw00 hn.1) (by omega) hN
  have pf2 := f3.tr (PF.of g2)
  have P2 := P.pf pf2
  have e := g2.2.1.2.2
  refine ⟨m2, ?_, g2.re.mono (by omega), g3.mono (by omega), pf2, P2.xc ((e 2 (by decide)).trans f4) ((e 3 (by decide)).trans f5) (by rw [e 4 (by decide), f6, h4]) (by rw [e 5 (by decide), f7, h2]) (fun hh => ?_), (e 7 (by decide)).trans f9⟩
  · unfold fm_X4_follow
    rw [bd_t f1, lx_p, f2.c17 (j := 10) (by decide) (by decide)]
    exact g1
  · rw [e 6 (by decide), f8]
    by_cases q : w = 2
    · exact (h3 q).symm
    · rw [h2, if_neg q] at hh
      omega
end FLW
