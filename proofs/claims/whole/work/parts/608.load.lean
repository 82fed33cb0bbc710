/-! THE TELLING: how it begins: load and clear; what a whole telling leaves alone. -/
section LOD
variable {m0 m m' M mp m1 m2 : MM} {x : CX} {s s' : TS} {B : Int} {a b c e i j v k h n l w p g t q : Int} {L : Int → List Int}
theorem MRows.re (h : MRows m0 m L) : MRows m m L := fun r hr => ⟨(h r hr).1, (h r hr).2.1, fun _ ha => Or.inl (Or.inr ⟨r, hr, ha⟩), (h r hr).2.2.2⟩
theorem FrM.rf : FrM m m := ⟨Ext.rf m, fun _ _ _ _ _ => rfl, fun _ _ => rfl⟩
theorem CR.re (h : CR m0 m s B) : CR m m s B := by
  obtain ⟨h1, h2, h3, h4, L, h5, h6, ⟨-, h7⟩, -, h8⟩ := h
  exact ⟨h1, FrM.rf, h3, h4, L, h5.re, h6, ⟨CpS.rf, h7⟩, CpS.rf, fun q hq => ⟨CpS.rf, (h8 q hq).2⟩⟩
theorem CR.eqv (h : CR m0 m s B) (e0 : ∀ j : Int, 5 ≤ j → j ≤ 13 → s'.1 0 j = s.1 0 j) (e1 : ∀ j : Int, 28 ≤ j → j ≤ 31 → s'.1 0 j = s.1 0 j) (e2 : ∀ j : Int, 0 ≤ j → j < 6 → s'.1 1 j = s.1 1 j) (eb : ∀ k j : Int, 0 ≤ k → k < s.1 0 5 → 0 ≤ j → j ≤ 9 → s'.1 (2 + k) j = s.1 (2 + k) j) (eh : ∀ k : Int, 0 ≤ k → k < s.1 0 5 → s'.2.1 k = s.2.1 k) (eq : ∀ n : Int, 0 ≤ n → n < 4 → s'.2.2.1 n = s.2.2.1 n) (eu : s'.2.2.2.1 = s.2.2.2.1) (en : s'.2.2.2.2 = s.2.2.2.2) (ec : ∀ L, MRows m0 m L → CRl m s B L → Mc m0 m s L → Mc m0 m s' L) : CR m0 m s' B := by
  obtain ⟨hF, hM, ⟨c1, c2, c3⟩, ⟨b1, b2, b3, b4⟩, L, hR, ⟨l1, l2, l3, l4, l5, l6⟩, lC⟩ := h
  have e5 := e0 5 (by decide) (by decide)
  refine ⟨hF, hM, ⟨fun j g1 g2 => by rw [e0 j g1 g2]; exact c1 j g1 g2, fun j g1 g2 => by rw [e1 _ (by omega) (by omega)]; exact c2 j g1 g2, fun j g1 g2 => by rw [e2 j g1 g2]; exact c3 j g1 g2⟩, ⟨by rw [e5]; exact b1, b2, b3, fun k j g1 g2 g3 g4 => by rw [e5] at g2; rw [eb k j g1 g2 g3 g4]; exact b4 k j g1 g2 g3 g4⟩, L, hR, ⟨l1, fun n g1 g2 => by rw [eq n g1 g2]; exact l2 n g1 g2, by rw [eu]; exact l3, fun k g1 g2 => by rw [e5] at g2; rw [eh k g1 g2]; exact l4 k g1 g2, by rw [en]; exact l5, by rw [en]; exact l6⟩, ec L hR ⟨l1, l2, l3, l4, l5, l6⟩ lC⟩
/-- the machine's own slots ahead of a telling -/
theorem CR.low (h : CR m m s B) (h1 : 2 ≤ j) (h2 : j < 8) : CR (mset m 16 j v) (mset m 16 j v) s B := by
  obtain ⟨hF, hM, ⟨c1, c2, c3⟩, ⟨b1, b2, b3, b4⟩, L, hR, ⟨l1, l2, l3, l4, l5, l6⟩, ⟨-, lC1⟩, -, lC2⟩ := h
  have hm : Mcel 16 := Or.inl rfl
  have e : ∀ a i : Int, a ≠ 16 → mset m 16 j v a i = m a i := fun a i ha => ms_a ha
  refine ⟨fx16 hF h1, FrM.rf, ⟨fun i g1 g2 => by rw [e _ _ (by decide)]; exact c1 i g1 g2, fun i g1 g2 => by rw [ms_j (by omega)]; exact c2 i g1 g2, fun i g1 g2 => by rw [e _ _ (by decide)]; exact c3 i g1 g2⟩, ⟨b1, fun k g1 g2 => by rw [e _ _ (by decide)]; exact b2 k g1 g2, fun k k' g1 g2 g3 g4 => by rw [e _ _ (by decide), e _ _ (by decide)]; exact b3 k k' g1 g2 g3 g4, fun k i g1 g2 g3 g4 => ?_⟩, L, (hR.ms hF hm (by omega)).re, ⟨l1, l2, by rw [e _ _ (by decide)]; exact l3, fun k g1 g2 => ?_, by rw [e _ _ (by decide)]; exact l5, l6⟩, ⟨CpS.rf, lC1⟩, CpS.rf, fun q hq => ⟨CpS.rf, (lC2 q hq).2⟩⟩
  · have := b2 k g1 (by omega)
    rw [e 19 _ (by decide), e _ _ (by omega)]
    exact b4 k i g1 g2 g3 g4
  · have := b2 k g1 (by omega)
    rw [e 19 _ (by decide), e _ _ (by omega)]
    exact l4 k g1 g2
/-- what the machine leaves alone, from one rest to the next -/
def PF (mp m : MM) : Prop := Ext mp m ∧ (∀ a j : Int, 1 ≤ a → a < mp 0 0 → ¬ Mfp mp a → m a j = mp a j) ∧ ∀ a, Mfp m a → Mfp mp a ∨ mp 0 0 ≤ a
theorem PF.rf : PF m m := ⟨Ext.rf m, fun _ _ _ _ _ => rfl, fun _ h => Or.inl h⟩
theorem PF.tr (h : PF mp m) (k : PF m m') : PF mp m' := by
  refine ⟨h.1.tr k.1, fun a j g1 g2 g3 => ?_, fun a ha => ?_⟩
  · rw [k.2.1 a j g1 (by have := h.1.1; omega) fun hh => (h.2.2 a hh).elim g3 fun g => by omega]
    exact h.2.1 a j g1 g2 g3
  · rcases k.2.2 a ha with g | g
    · exact h.2.2 a g
    · have := h.1.1
      exact Or.inr (by omega)
theorem PF.of (h : CR m0 m s B) : PF m0 m := by
  obtain ⟨h1, h2, h3, h4, L, h5, h6⟩ := h
  refine ⟨h2.1, h2.2.1, fun a ha => ?_⟩
  rcases ha with g | ⟨r, hr, g⟩
  · exact Or.inl (Or.inl g)
  · exact (h5 r hr).2.2.1 a g
theorem PF.low (hF : Fix m) (hR : MRows m m L) (h1 : 0 ≤ j) : PF m (mset m 16 j v) := by
  have hm : Mcel 16 := Or.inl rfl
  refine ⟨mset_ext (by decide) h1, fun a i g1 g2 g3 => ms_a fun hh => g3 (by rw [hh]; exact Or.inl hm), fun a ha => Or.inl ?_⟩
  rcases ha with g | ⟨r, hr, g⟩
  · exact Or.inl g
  · have := ((hR r hr).1.fr (mset_ext (m := m) (a := 16) (v := v) (by decide) h1) (fun b i hb _ => ms_a fun hh => hm.nfp hF (hR r hr).1.1 (hh ▸ hb))).2 a
    exact Or.inr ⟨r, hr, this.mp g⟩
theorem CR.pfl (h : CR m m s B) (h1 : 0 ≤ j) : PF m (mset m 16 j v) := by
  obtain ⟨h1, h2, h3, h4, L, h5, h6⟩ := h
  exact PF.low h1 h5 (by assumption)
/-- a row of the machine is cut to nothing -/
theorem CR.qcut (hC : CR m0 m s B) (h0 : 0 ≤ k) (h1 : k < 4) : ∃ m', fm_X5_cut (35 + 2 * k) 0 m = some (0, m') ∧ CR m0 m' (stq s k []) B ∧ LD m m' := by
  obtain ⟨hF, hM, hS, hb, L, hR, hL, lC⟩ := hC
  have hr := qrow h0 h1
  obtain ⟨i1, i2, i3, i4⟩ := hR _ hr
  obtain ⟨m', a1, a2, a3, a4, -, -⟩ := cut_is (n := 0) i1 (by decide) i2
  have a5 : Fix m' := (fw_X5_cut hF i1.1.1 a1).fix
  rw [show (0 : Int).toNat = 0 from rfl, List.take_zero] at a2
  obtain ⟨u1, u2⟩ := hR.upd hF hM hr a2 a4 a3
  have hc : ∀ a j : Int, Mcel a → m' a j = m a j := fun a j ha => RFr.mc hF i1.1 a3 ha
  have ld : LD m m' := fun r2 hr2 => by
    by_cases e : r2 = 35 + 2 * k
    · rw [e]
      exact cut_0 i1 i2 (Int.le_refl 0) a1
    · exact hR.oth hr a3 r2 hr2 e
  have lC2 : Mc m0 m' (stq s k []) (fun i => if i = 35 + 2 * k then [] else L i) := by
    obtain ⟨⟨c1, c2⟩, c3, c4⟩ := lC.to (s' := stq s k []) ld (Int.le_refl _) (Int.le_refl _)
    refine ⟨⟨c1, ?_⟩, ?_, fun q hq => ⟨(c4 q hq).1, ?_⟩⟩
    · show ((if (21 : Int) = 35 + 2 * k then [] else L 21).length : Int) ≤ _
      rw [if_neg (by omega)]
      exact c2
    · show CpS m0 m' 44 ((if (44 : Int) = 35 + 2 * k then [] else L 44).length : Int)
      rw [if_neg (by omega)]
      exact c3
    · have g := (c4 q hq).2
      show ((if q = 35 + 2 * k then [] else L q).length : Int) ≤ _
      by_cases e : q = 35 + 2 * k
      · rw [if_pos e]
        exact Int.le_trans (Int.natCast_nonneg _) g
      · rw [if_neg e]
        exact g
  refine ⟨_, a1, ⟨a5, u2, hS.cong hc, hb.cong hc, _, u1, ?_, lC2⟩, ld⟩
  obtain ⟨l1, l2, l3, l4, l5, l6⟩ := hL
  refine ⟨fun r g => ?_, fun n g1 g2 => ?_, ?_, fun k' g1 g2 => ?_, ?_, ?_⟩
  · have := l1 r g
    show ((if r = 35 + 2 * k then [] else L r).length : Int) ≤ B
    by_cases e : r = 35 + 2 * k
    · rw [if_pos e]
      have : (0 : Int) ≤ ((L r).length : Int) := Int.natCast_nonneg _
      simp only [List.length_nil]
      omega
    · rw [if_neg e]
      omega
  · show (if 35 + 2 * n = 35 + 2 * k then [] else L (35 + 2 * n)) = (if n = k then [] else s.2.2.1 n)
    by_cases e : n = k
    · subst e
      rw [if_pos rfl, if_pos rfl]
    · rw [if_neg e, if_neg (by omega)]
      exact l2 n g1 g2
  · rw [hc 17 4 (Or.inr (Or.inl rfl))]
    show Stk (if (21 : Int) = 35 + 2 * k then [] else L 21) _ _
    rw [if_neg (by omega)]
    exact l3
  · have hk' := hb.2.1 k' g1 (by have := hb.1.2; have : (stq s k []).1 0 5 = s.1 0 5 := rfl; omega)
    rw [hc 19 k' (Or.inr (Or.inr (Or.inr (Or.inl rfl)))), hc _ 10 (Or.inr (Or.inr (Or.inr (Or.inr (Or.inl hk')))))]
    show Stk (if (21 : Int) = 35 + 2 * k then [] else L 21) _ _
    rw [if_neg (by omega)]
    exact l4 k' g1 g2
  · rw [hc 43 1 (Or.inr (Or.inr (Or.inr (Or.inr (Or.inr rfl)))))]
    exact l5
  · show NewsIs (if (44 : Int) = 35 + 2 * k then [] else L 44) _
    rw [if_neg (by omega)]
    exact l6
theorem CR.wipe (hC : CR m0 m s B) : ∃ m', fm_X5_cut 21 0 m = some (0, m') ∧ CR m0 (mset (mset m' 17 4 0) 17 5 0) (st (stu s []) 0 5 0) B ∧ m' 21 2 = 0 ∧ LD m (mset (mset m' 17 4 0) 17 5 0) := by
  obtain ⟨hF, hM, ⟨c1, c2, c3⟩, hb, L, hR, hL, lC⟩ := hC
  have hr : Mrow 21 := Or.inl rfl
  obtain ⟨i1, i2, i3, i4⟩ := hR _ hr
  obtain ⟨m', a1, a2, a3, a4, -, -⟩ := cut_is (n := 0) i1 (by decide) i2
  have a5 : Fix m' := (fw_X5_cut hF i1.1.1 a1).fix
  rw [show (0 : Int).toNat = 0 from rfl, List.take_zero] at a2
  obtain ⟨u1, u2⟩ := hR.upd hF hM hr a2 a4 a3
  have hc : ∀ a j : Int, Mcel a → m' a j = m a j := fun a j ha => RFr.mc hF i1.1 a3 ha
  have h17 : Mcel 17 := Or.inr (Or.inl rfl)
  have f1 := fx17 (j := 4) (v := 0) a5 (by decide)
  obtain ⟨b1, b2, b3, b4⟩ := hb.cong hc
  obtain ⟨l1, l2, l3, l4, l5, l6⟩ := hL
  have e17 : ∀ b i : Int, b ≠ 17 → mset (mset m' 17 4 0) 17 5 0 b i = m' b i := fun b i hb => by rw [ms_a hb, ms_a hb]
  have s5 : (st (stu s []) 0 5 0).1 0 5 = 0 := (show mset s.1 0 5 0 0 5 = 0 from ms_e)
  have s0 : ∀ i, i ≠ 5 → (st (stu s []) 0 5 0).1 0 i = s.1 0 i := fun i hi => if_neg (fun hh => hi hh.2)
  have ld1 : LD m m' := fun r2 hr2 => by
    by_cases e : r2 = 21
    · rw [e]
      exact cut_0 i1 i2 (Int.le_refl 0) a1
    · exact hR.oth hr a3 r2 hr2 e
  have ld : LD m (mset (mset m' 17 4 0) 17 5 0) := ld1.tr ((show LD m' (mset m' 17 4 0) from u1.sm a5 h17 (by decide)).tr ((u1.ms a5 h17 (by decide)).sm f1 h17 (by decide)))
  have lC2 : Mc m0 (mset (mset m' 17 4 0) 17 5 0) (st (stu s []) 0 5 0) (fun i => if i = 21 then [] else L i) := by
    obtain ⟨⟨d1, d2⟩, d3, d4⟩ := lC.to (s' := st (stu s []) 0 5 0) ld (Int.le_of_eq (s0 40 (by decide)).symm) (Int.le_of_eq (s0 41 (by decide)).symm)
    refine ⟨⟨d1, ?_⟩, d3, fun q hq => ⟨(d4 q hq).1, ?_⟩⟩
    · exact Int.le_trans (Int.natCast_nonneg _) d2
    · have g := (d4 q hq).2
      have hq21 : q ≠ 21 := by
        unfold Mq at hq
        omega
      show ((if q = 21 then [] else L q).length : Int) ≤ _
      rw [if_neg hq21]
      exact g
  refine ⟨m', a1, ⟨fx17 f1 (by decide), (u2.ms a5 h17 (by decide) (by omega)).ms f1 h17 (by decide) (by omega), ⟨fun i g1 g2 => ?_, fun i g1 g2 => ?_, fun i g1 g2 => ?_⟩, ⟨by rw [s5]; decide, fun k g1 g2 => by rw [e17 _ _ (by decide)]; exact b2 k g1 g2, fun k k' g1 g2 g3 g4 => by rw [e17 _ _ (by decide), e17 _ _ (by decide)]; exact b3 k k' g1 g2 g3 g4, fun k i g1 g2 => by rw [s5] at g2; omega⟩, _, (u1.ms a5 h17 (by decide)).ms f1 h17 (by decide), ⟨fun r g => ?_, fun n g1 g2 => ?_, ?_, fun k g1 g2 => by rw [s5] at g2; omega, ?_, ?_⟩, lC2⟩, a2.2.2.1, ld⟩
  · by_cases q : i = 5
    · rw [q, ms_e, s5]
    · rw [ms_j q, ms_j (by omega), s0 i q, hc _ _ h17]
      exact c1 i g1 g2
  · rw [e17 _ _ (by decide), hc _ _ (Or.inl rfl), s0 _ (by omega)]
    exact c2 i g1 g2
  · rw [e17 _ _ (by decide), hc _ _ (Or.inr (Or.inr (Or.inl rfl)))]
    exact c3 i g1 g2
  · have := l1 r g
    show ((if r = 21 then [] else L r).length : Int) ≤ B
    by_cases e : r = 21
    · rw [if_pos e]
      have : (0 : Int) ≤ ((L r).length : Int) := Int.natCast_nonneg _
      simp only [List.length_nil]
      omega
    · rw [if_neg e]
      omega
  · show (if 35 + 2 * n = 21 then [] else L (35 + 2 * n)) = _
    rw [if_neg (by omega)]
    exact l2 n g1 g2
  · rw [ms_j (by decide), ms_e]
    show Stk _ [] 0
    exact rfl
  · rw [e17 _ _ (by decide), hc _ _ (Or.inr (Or.inr (Or.inr (Or.inr (Or.inr rfl)))))]
    exact l5
  · exact l6
theorem CR.ncut (hC : CR m m s B) : ∃ m', fm_X2_cut 43 0 m = some (0, m') ∧ CR m m' (stn s []) B ∧ m' 21 2 = m 21 2 ∧ LD m m' := by
  obtain ⟨hF, hM, hS, hb, L, hR, hL, lC⟩ := hC
  have hr : Mrow 44 := Or.inr (Or.inr (Or.inr (Or.inr (Or.inr rfl))))
  obtain ⟨i1, i2, i3, i4⟩ := hR _ hr
  obtain ⟨m', a1, a2, a3, a4, -, -⟩ := cut_is (n := 0) i1 (by decide) i2
  have a5 : Fix m' := (fw_X5_cut hF i1.1.1 a1).fix
  rw [show (0 : Int).toNat = 0 from rfl, List.take_zero] at a2
  obtain ⟨u1, u2⟩ := hR.upd hF hM hr a2 a4 a3
  have hc : ∀ a j : Int, Mcel a → m' a j = m a j := fun a j ha => RFr.mc hF i1.1 a3 ha
  have h43 : Mcel 43 := Or.inr (Or.inr (Or.inr (Or.inr (Or.inr rfl))))
  have f1 := fx43 (j := 1) (v := 0) a5 (by decide)
  have f2 := fx43 (j := 2) (v := 0) f1 (by decide)
  have f3 := fx43 (j := 3) (v := 0) f2 (by decide)
  have f4 := fx43 (j := 4) (v := 0) f3 (by decide)
  obtain ⟨l1, l2, l3, l4, l5, l6⟩ := hL
  have ef : fm_X2_cut 43 0 m = some (0, mset (mset (mset (mset m' 43 1 0) 43 2 0) 43 3 0) 43 4 0) := by
    have s2 : m' 44 2 = 0 := a2.2.2.1
    unfold fm_X2_cut fm_X2_countAgain
    simp only [lx_p, up_t]
    rw [hF.s43, gd_t i1.1.1, bd_t a1, a5.s43, gd_t a2.1.1, s2]
    obtain ⟨N, hN⟩ := BIG_s
    rw [hN]
    unfold fl_X2_countAgain_28
    simp only [lx_p]
    rw [ms_j (by decide), ms_j (by decide), ms_j (by decide), ms_e, if_neg (by decide), bd_t rfl]
  have e43 : ∀ b i : Int, b ≠ 43 → mset (mset (mset (mset m' 43 1 0) 43 2 0) 43 3 0) 43 4 0 b i = m' b i := fun b i hb => by rw [ms_a hb, ms_a hb, ms_a hb, ms_a hb]
  have h21 : mset (mset (mset (mset m' 43 1 0) 43 2 0) 43 3 0) 43 4 0 21 2 = m 21 2 := by
    rw [e43 _ _ (by decide)]
    have hr21 := hR 21 (Or.inl rfl)
    exact a3.2.2 21 2 hr21.1.1.1.2.1 (by decide) (hr21.2.2.2 44 hr (by decide) 21 (Or.inl rfl))
  have ld1 : LD m m' := fun r2 hr2 => by
    by_cases e : r2 = 44
    · rw [e]
      exact cut_0 i1 i2 (Int.le_refl 0) a1
    · exact hR.oth hr a3 r2 hr2 e
  have v1 := u1.ms (v := 0) a5 h43 (j := 1) (by decide)
  have v2 := v1.ms (v := 0) f1 h43 (j := 2) (by decide)
  have v3 := v2.ms (v := 0) f2 h43 (j := 3) (by decide)
  have ld : LD m (mset (mset (mset (mset m' 43 1 0) 43 2 0) 43 3 0) 43 4 0) := ld1.tr ((show LD m' (mset m' 43 1 0) from u1.sm a5 h43 (by decide)).tr ((show LD _ (mset (mset m' 43 1 0) 43 2 0) from v1.sm f1 h43 (by decide)).tr ((show LD _ (mset (mset (mset m' 43 1 0) 43 2 0) 43 3 0) from v2.sm f2 h43 (by decide)).tr (v3.sm f3 h43 (by decide)))))
  have lC2 : Mc m (mset (mset (mset (mset m' 43 1 0) 43 2 0) 43 3 0) 43 4 0) (stn s []) (fun i => if i = 44 then [] else L i) := by
    obtain ⟨⟨d1, d2⟩, d3, d4⟩ := lC.to (s' := stn s []) ld (Int.le_refl _) (Int.le_refl _)
    refine ⟨⟨d1, d2⟩, CpS.rf.sm (ld 44 hr), fun q hq => ⟨(d4 q hq).1, ?_⟩⟩
    have g := (d4 q hq).2
    have hq44 : q ≠ 44 := by
      unfold Mq at hq
      omega
    show ((if q = 44 then [] else L q).length : Int) ≤ _
    rw [if_neg hq44]
    exact g
  refine ⟨_, ef, ⟨f4, (((u2.ms a5 h43 (by decide) (by omega)).ms f1 h43 (by decide) (by omega)).ms f2 h43 (by decide) (by omega)).ms f3 h43 (by decide) (by omega), (((hS.cong hc).cong43.cong43).cong43).cong43, (((hb.cong hc).cong43.cong43).cong43).cong43, _, (((u1.ms a5 h43 (by decide)).ms f1 h43 (by decide)).ms f2 h43 (by decide)).ms f3 h43 (by decide), ⟨fun r g => ?_, fun n g1 g2 => ?_, ?_, fun k' g1 g2 => ?_, ?_, ?_⟩, lC2⟩, h21, ld⟩
  · have := l1 r g
    show ((if r = 44 then [] else L r).length : Int) ≤ B
    by_cases e : r = 44
    · rw [if_pos e]
      have : (0 : Int) ≤ ((L r).length : Int) := Int.natCast_nonneg _
      simp only [List.length_nil]
      omega
    · rw [if_neg e]
      omega
  · show (if 35 + 2 * n = 44 then [] else L (35 + 2 * n)) = _
    rw [if_neg (by omega)]
    exact l2 n g1 g2
  · rw [e43 _ _ (by decide), hc 17 4 (Or.inr (Or.inl rfl))]
    exact l3
  · have e5 : (stn s []).1 0 5 = s.1 0 5 := rfl
    rw [e5] at g2
    have hk' := hb.2.1 k' g1 (by have := hb.1.2; omega)
    rw [e43 19 _ (by decide), hc 19 k' (Or.inr (Or.inr (Or.inr (Or.inl rfl)))), e43 _ _ (by omega), hc _ 10 (Or.inr (Or.inr (Or.inr (Or.inr (Or.inl hk')))))]
    exact l4 k' g1 g2
  · rw [ms_j (by decide), ms_j (by decide), ms_j (by decide), ms_e]
    rfl
  · show NewsIs [] []
    exact ⟨rfl, fun i k a b hi => by simp at hi⟩
/-- the machine's state, and its rows have the parts that they had -/
def CLd (M m0 m : MM) (s : TS) (B : Int) : Prop := CR m0 m s B ∧ LD M m
theorem CLd.p17 (h : CLd M m0 m s B) (h1 : 6 ≤ j) (h2 : j ≤ 13) : CLd M m0 (mset m 17 j v) (st s 0 j v) B := ⟨h.1.p17 h1 h2, h.2.tr (h.1.ld (Or.inr (Or.inl rfl)) (by omega))⟩
theorem CLd.p16 (h : CLd M m0 m s B) (h1 : 8 ≤ j) (h2 : j ≤ 11) : CLd M m0 (mset m 16 j v) (st s 0 (20 + j) v) B := ⟨h.1.p16 h1 h2, h.2.tr (h.1.ld (Or.inl rfl) (by omega))⟩
theorem CLd.p18 (h : CLd M m0 m s B) (h1 : 0 ≤ j) : CLd M m0 (mset m 18 j v) (st s 1 j v) B := ⟨h.1.p18 h1, h.2.tr (h.1.ld (Or.inr (Or.inr (Or.inl rfl))) h1)⟩
/-- the state behind clear and load -/
def s00 : TS := (fun a j => if a = 0 ∧ j = 31 then -1 else 0, fun _ => [], fun _ => [], [], [])
theorem clear_e (hC : CR m0 m s B) : ∃ m', fm_X8_clear m = some (0, m') ∧ CR m0 m' (fun a j => if a = 0 ∧ 28 ≤ j then s.1 0 j else 0, fun _ => [], fun _ => [], [], s.2.2.2.2) B ∧ m' 21 2 = 0 ∧ LD m m' := by
  obtain ⟨N, hN⟩ := BIG_s
  have hfill : fm_J7_fill_53178 0 m = some (0, mset (mset (mset (mset (mset (mset m 18 0 0) 18 1 0) 18 2 0) 18 3 0) 18 4 0) 18 5 0) := by
    unfold fm_J7_fill_53178
    have hb : ∃ n, BIG = n + 7 := ⟨999999993, rfl⟩
    obtain ⟨n, hn⟩ := hb
    rw [hn]
    have stf : ∀ (n : Nat) (i : Int) (m : MM), 0 ≤ i → i < 6 → fl_J7_fill_53178_5 0 6 (n + 1) i m = fl_J7_fill_53178_5 0 6 n (i + 1) (mset m 18 i 0) := by
      intro n i m h0 h1
      rw [show fl_J7_fill_53178_5 0 6 (n + 1) i m = _ from fl_J7_fill_53178_5.eq_2 0 6 i m n]
      simp only [lx_p, up_t]
      rw [if_pos h1, gd_t ⟨h0, h1⟩, w32_id (by omega) (by omega)]
    rw [stf _ _ _ (by decide) (by decide), stf _ _ _ (by decide) (by decide), stf _ _ _ (by decide) (by decide), stf _ _ _ (by decide) (by decide), stf _ _ _ (by decide) (by decide), stf _ _ _ (by decide) (by decide)]
    rw [show ∀ m : MM, fl_J7_fill_53178_5 0 6 (n + 1) (0 + 1 + 1 + 1 + 1 + 1 + 1) m = _ from fun m => fl_J7_fill_53178_5.eq_2 0 6 _ m n]
    rw [if_neg (by decide)]
    rfl
  have W1 := ((((((show CLd m m0 m s B from ⟨hC, LD.rf⟩).p18 (j := 0) (v := 0) (by decide)).p18 (j := 1) (v := 0) (by decide)).p18 (j := 2) (v := 0) (by decide)).p18 (j := 3) (v := 0) (by decide)).p18 (j := 4) (v := 0) (by decide)).p18 (j := 5) (v := 0) (by decide)
  have w1 := W1.1
  obtain ⟨m1, f1, g1, d1⟩ := w1.qcut (k := 0) (by decide) (by decide)
  obtain ⟨m2, f2, g2, d2⟩ := g1.qcut (k := 1) (by decide) (by decide)
  obtain ⟨m3, f3, g3, d3⟩ := g2.qcut (k := 2) (by decide) (by decide)
  obtain ⟨m4, f4, g4, d4⟩ := g3.qcut (k := 3) (by decide) (by decide)
  obtain ⟨m5, f5, g5, g21, d5⟩ := g4.wipe
  have W2 := ((((((((show CLd m m0 _ _ B from ⟨g5, (((((W1.2.tr d1).tr d2).tr d3).tr d4).tr d5)⟩).p17 (j := 6) (v := 0) (by decide) (by decide)).p17 (j := 7) (v := 0) (by decide) (by decide)).p17 (j := 8) (v := 0) (by decide) (by decide)).p17 (j := 9) (v := 0) (by decide) (by decide)).p17 (j := 10) (v := 0) (by decide) (by decide)).p17 (j := 11) (v := 0) (by decide) (by decide)).p17 (j := 12) (v := 0) (by decide) (by decide)).p17 (j := 13) (v := 0) (by decide) (by decide)
  have w2 := W2.1
  have hq : ∀ (m : MM) (s : TS), CR m0 m s B → ∀ k : Int, 0 ≤ k → k < 4 → okc m (35 + 2 * k) 6 := fun m s h k h0 h1 => (h.q h0 h1).1.1
  have stp : ∀ (K : MM → Option (Int × MM)) (n : Nat) (i i2 : Int) (m m' : MM) (s : TS), CR m0 m s B → 0 ≤ i → i < 4 → i2 = i + 1 → fm_X5_cut (35 + 2 * i) 0 m = some (0, m') → fl_X8_clear_10 K (n + 1) i m = fl_X8_clear_10 K n i2 m' := by
    intro K n i i2 m m' s h h0 h1 h2 hf
    subst h2
    rw [show fl_X8_clear_10 K (n + 1) i m = _ from fl_X8_clear_10.eq_2 K i m n]
    simp only [lx_p]
    rw [if_pos h1, gd_t ⟨h0, h1⟩, h.1.s20 h0 h1, gd_t (hq m s h i h0 h1), bd_t hf, w32_id (by omega) (by omega)]
  have hb : ∃ n, BIG = n + 5 := ⟨999999995, rfl⟩
  obtain ⟨n, hn⟩ := hb
  refine ⟨_, ?_, w2.eqv (fun j h1 h2 => ?_) (fun j h1 h2 => ?_) (fun j h1 h2 => ?_) (fun k j h1 h2 => ?_) (fun k h1 h2 => ?_) (fun n h1 h2 => ?_) rfl rfl (fun L _ _ h => h.to (fun _ _ => SmT.rf) (Int.le_of_eq rfl) (Int.le_of_eq rfl)), ?_, W2.2⟩
  rotate_right
  · repeat rw [ms_a (show (21 : Int) ≠ 17 by decide)]
    exact g21
  · unfold fm_X8_clear
    simp only [up_t]
    rw [bd_t hfill, hn, stp _ _ 0 1 _ m1 _ w1 (by decide) (by decide) (by decide) f1, stp _ _ 1 2 _ m2 _ g1 (by decide) (by decide) (by decide) f2, stp _ _ 2 3 _ m3 _ g2 (by decide) (by decide) (by decide) f3, stp _ _ 3 4 _ m4 _ g3 (by decide) (by decide) (by decide) f4]
    rw [show ∀ (K : MM → Option (Int × MM)) (m : MM), fl_X8_clear_10 K (n + 1) 4 m = _ from fun K m => fl_X8_clear_10.eq_2 K _ m n]
    rw [if_neg (by decide), bd_t f5]
  · have hj : j = 5 ∨ j = 6 ∨ j = 7 ∨ j = 8 ∨ j = 9 ∨ j = 10 ∨ j = 11 ∨ j = 12 ∨ j = 13 := by omega
    rcases hj with rfl | rfl | rfl | rfl | rfl | rfl | rfl | rfl | rfl <;> rfl
  · have hj : j = 28 ∨ j = 29 ∨ j = 30 ∨ j = 31 := by omega
    rcases hj with rfl | rfl | rfl | rfl <;> rfl
  · have hj : j = 0 ∨ j = 1 ∨ j = 2 ∨ j = 3 ∨ j = 4 ∨ j = 5 := by omega
    rcases hj with rfl | rfl | rfl | rfl | rfl | rfl <;> rfl
  · have h5 : (st (st (st (st (st (st (st (st (st (stu (stq (stq (stq (stq (st (st (st (st (st (st s 1 0 0) 1 1 0) 1 2 0) 1 3 0) 1 4 0) 1 5 0) 0 []) 1 []) 2 []) 3 []) []) 0 5 0) 0 6 0) 0 7 0) 0 8 0) 0 9 0) 0 10 0) 0 11 0) 0 12 0) 0 13 0).1 0 5 = 0 := rfl
    rw [h5] at h2
    omega
  · have h5 : (st (st (st (st (st (st (st (st (st (stu (stq (stq (stq (stq (st (st (st (st (st (st s 1 0 0) 1 1 0) 1 2 0) 1 3 0) 1 4 0) 1 5 0) 0 []) 1 []) 2 []) 3 []) []) 0 5 0) 0 6 0) 0 7 0) 0 8 0) 0 9 0) 0 10 0) 0 11 0) 0 12 0) 0 13 0).1 0 5 = 0 := rfl
    rw [h5] at h2
    omega
  · have hj : n = 0 ∨ n = 1 ∨ n = 2 ∨ n = 3 := by omega
    rcases hj with rfl | rfl | rfl | rfl <;> rfl
end LOD
