/-! THE TELLING: changes of the machine's rows. -/
section CR2
variable {m0 m m' : MM} {a r j v k h : Int} {L : Int → List Int} {s : TS} {B : Int} {l l' : List Int}
theorem MRows.upd (hR : MRows m0 m L) (hF : Fix m) (hM : FrM m0 m) (hr : Mrow r) (hi : RowIs m' r l') (h1 : m' r 1 = 0) (hf : RFr m m' r) : MRows m0 m' (fun i => if i = r then l' else L i) ∧ FrM m0 m' := by
  obtain ⟨x1, x2, x3⟩ := hf
  have hother : ∀ r', Mrow r' → r' ≠ r → ∀ a j : Int, Fp m r' a → 0 ≤ j → m' a j = m a j := fun r' hr' hne a j ha _ =>
    x3 a j ((ha.lt (hR r' hr').1.1).2) (by have := (ha.lt (hR r' hr').1.1).1; omega) ((hR r' hr').2.2.2 r (hr) (Ne.symm hne) a ha)
  refine ⟨fun r0 hr0 => ?_, hM.1.tr x1, fun b i g1 g2 g3 => ?_, fun i hi => ?_⟩
  · by_cases hrr : r0 = r
    · subst hrr
      show RowIs m' r0 (if r0 = r0 then l' else L r0) ∧ _
      rw [if_pos rfl]
      refine ⟨hi, h1, fun b hb => ?_, fun r' hr' hne b hb hb2 => ?_⟩
      · rcases x2 b hb with g | g
        · exact (hR r0 hr).2.2.1 b g
        · have := hM.1.1
          exact Or.inr (by omega)
      · have hb3 := (((hR r' hr').1.fr x1 (hother r' hr' hne)).2 b).mp hb2
        rcases x2 b hb with g | g
        · exact (hR r0 hr).2.2.2 r' hr' hne b g hb3
        · have := (hb3.lt (hR r' hr').1.1).2
          omega
    · show RowIs m' r0 (if r0 = r then l' else L r0) ∧ _
      rw [if_neg hrr]
      obtain ⟨g1, g2⟩ := (hR r0 hr0).1.fr x1 (hother r0 hr0 hrr)
      refine ⟨g1, by rw [hother r0 hr0 hrr r0 1 (Or.inl rfl) (by decide)]; exact (hR r0 hr0).2.1, fun b hb => (hR r0 hr0).2.2.1 b ((g2 b).mp hb), fun r' hr' hne b hb hb2 => ?_⟩
      have hb3 := (g2 b).mp hb
      by_cases hr2 : r' = r
      · subst hr2
        rcases x2 b hb2 with g | g
        · exact (hR r0 hr0).2.2.2 r' hr' hne b hb3 g
        · have := (hb3.lt (hR r0 hr0).1.1).2
          omega
      · have hb4 := (((hR r' hr').1.fr x1 (hother r' hr' hr2)).2 b).mp hb2
        exact (hR r0 hr0).2.2.2 r' hr' hne b hb3 hb4
  rotate_left
  · rw [← hM.2.2 i hi]
    have h16 : Mcel 16 := Or.inl rfl
    exact x3 16 i (h16.kd hF).2.2.1 (by decide) (h16.nfp hF (hR r hr).1.1)
  · rw [← hM.2.1 b i g1 g2 g3]
    refine x3 b i (by have := hM.1.1; omega) (by omega) fun hh => ?_
    rcases (hR r hr).2.2.1 b hh with g | g
    · exact g3 g
    · omega
/-- the machine's other rows keep their parts -/
theorem MRows.oth (hR : MRows m0 m L) (hr : Mrow r) (hf : RFr m m' r) : ∀ r', Mrow r' → r' ≠ r → SmT m m' r' := fun r' hr' hne => SmT.fr (hR r' hr').1 hf.1 fun a j ha _ => hf.2.2 a j ((ha.lt (hR r' hr').1.1).2) (by have := (ha.lt (hR r' hr').1.1).1; omega) ((hR r' hr').2.2.2 r (hr) (Ne.symm hne) a ha)
/-- a row of the machine, and its cells -/
theorem RFr.mc (hF : Fix m) (hr : RowOk m r) (hf : RFr m m' r) (ha : Mcel a) : m' a j = m a j := hf.2.2 a j (ha.kd hF).2.2.1 (by have := (ha.kd hF).1; omega) (ha.nfp hF hr)
theorem CRs.cong (h : CRs m s) (hf : ∀ a j : Int, Mcel a → m' a j = m a j) : CRs m' s :=
  ⟨fun i g1 g2 => by rw [hf 17 i (Or.inr (Or.inl rfl))]; exact h.1 i g1 g2, fun i g1 g2 => by rw [hf 16 i (Or.inl rfl)]; exact h.2.1 i g1 g2, fun i g1 g2 => by rw [hf 18 i (Or.inr (Or.inr (Or.inl rfl)))]; exact h.2.2 i g1 g2⟩
theorem CRb.cong (h : CRb m s) (hf : ∀ a j : Int, Mcel a → m' a j = m a j) : CRb m' s := by
  obtain ⟨b1, b2, b3, b4⟩ := h
  have e : ∀ i, m' 19 i = m 19 i := fun i => hf 19 i (Or.inr (Or.inr (Or.inr (Or.inl rfl))))
  refine ⟨b1, fun k g1 g2 => by rw [e]; exact b2 k g1 g2, fun k k' g1 g2 g3 g4 => by rw [e, e]; exact b3 k k' g1 g2 g3 g4, fun k i g1 g2 g3 g4 => ?_⟩
  have := b2 k g1 (by omega)
  rw [e, hf _ i (Or.inr (Or.inr (Or.inr (Or.inr (Or.inl this)))))]
  exact b4 k i g1 g2 g3 g4
theorem CR.len (h : CR m0 m s B) : 0 ≤ B := by
  obtain ⟨-, -, -, -, L, -, ⟨h6, -⟩, -⟩ := h
  have := h6 21 (Or.inl rfl)
  omega
theorem CRl.c19 (hb : CRb m s) (hf : ∀ a j : Int, Mcel a → m' a j = m a j) (hl : CRl m s B L) {L' : Int → List Int} {B' : Int} (h1 : ∀ r, Mrow r → ((L' r).length : Int) ≤ B') (h2 : ∀ n : Int, 0 ≤ n → n < 4 → L' (35 + 2 * n) = L (35 + 2 * n)) (h3 : ∀ t h, Stk (L 21) t h → Stk (L' 21) t h) (h4 : L' 44 = L 44) : CRl m' s B' L' := by
  obtain ⟨l1, l2, l3, l4, l5, l6⟩ := hl
  refine ⟨h1, fun n g1 g2 => by rw [h2 n g1 g2]; exact l2 n g1 g2, ?_, fun k g1 g2 => ?_, ?_, by rw [h4]; exact l6⟩
  · rw [hf 17 4 (Or.inr (Or.inl rfl))]
    exact h3 _ _ l3
  · have := hb.2.1 k g1 (by have := hb.1; omega)
    rw [hf 19 k (Or.inr (Or.inr (Or.inr (Or.inl rfl)))), hf _ 10 (Or.inr (Or.inr (Or.inr (Or.inr (Or.inl this)))))]
    exact h3 _ _ (l4 k g1 g2)
  · rw [hf 43 1 (Or.inr (Or.inr (Or.inr (Or.inr (Or.inr rfl)))))]
    exact l5
theorem add_ok (hF : Fix m) (hi : RowIs m r l) (hl : l.length < 268435456) : fm_X5_add r v m = some (0, addM m r v) ∧ RowIs (addM m r v) r (l ++ [v]) ∧ RFr m (addM m r v) r ∧ addM m r v r 1 = m r 1 ∧ Fix (addM m r v) ∧ AdR m (addM m r v) r := by
  obtain ⟨g1, g2, g3, g4, g5⟩ := add_is (v := v) hF.1 hi hl
  have e := add_eq (v := v) hF.1 hi.1
  exact ⟨e, g1, ⟨g3, g2, g4⟩, g5, (fw_X5_add hF hi.1.1 e).fix, add_rm hF.1 hi hl⟩
/-- a number on the row of stacks -/
theorem CR.push (hC : CR m0 m s B) (hB : B < 268435456) {L : Int → List Int} (hR : MRows m0 m L) (hL : CRl m s B L) (lC : Mc m0 m s L) (h40 : m 21 2 < sg s 0 40) {t : List Int} (hs : Stk (L 21) t h) (h0 : 0 ≤ v) (h1 : v < 10000) : ∃ m' L', fm_X8_pushed h v m = some (((L' 21).length : Int), m') ∧ CR m0 m' s (B + 1) ∧ MRows m0 m' L' ∧ CRl m' s (B + 1) L' ∧ Stk (L' 21) (v :: t) ((L' 21).length : Int) ∧ (∀ a j : Int, Mcel a → m' a j = m a j) ∧ Mc m0 m' s L' := by
  obtain ⟨hF, hM, hS, hb, -⟩ := hC
  have hr : Mrow 21 := Or.inl rfl
  obtain ⟨i1, i2, i3, i4⟩ := hR 21 hr
  have hp := hs.pos
  have hlB := hL.1 21 hr
  obtain ⟨a1, a2, a3, a4, a5, a6⟩ := add_ok (v := 10000 * h + v) hF i1 (by omega)
  obtain ⟨u1, u2⟩ := hR.upd hF hM hr a2 (by rw [a4]; exact i2) a3
  have hc : ∀ a j : Int, Mcel a → addM m 21 (10000 * h + v) a j = m a j := fun a j ha => RFr.mc hF i1.1 a3 ha
  have e21 : (fun i : Int => if i = 21 then L 21 ++ [10000 * h + v] else L i) 21 = L 21 ++ [10000 * h + v] := rfl
  have hl2 : CRl (addM m 21 (10000 * h + v)) s (B + 1) (fun i => if i = 21 then L 21 ++ [10000 * h + v] else L i) := by
    refine hL.c19 hb hc (fun r g => ?_) (fun n g1 g2 => if_neg (by omega)) (fun t h g => g.app) rfl
    have := hL.1 r g
    by_cases e : r = 21
    · subst e
      rw [if_pos rfl, List.length_append]
      simp only [List.length_cons, List.length_nil]
      omega
    · rw [if_neg e]
      omega
  have lC2 : Mc m0 (addM m 21 (10000 * h + v)) s (fun i => if i = 21 then L 21 ++ [10000 * h + v] else L i) := by
    have oth := hR.oth hr a3
    have e2 := i1.2.2.1
    have h40' : m 21 2 < s.1 0 40 := h40
    obtain ⟨⟨c1, c2⟩, c3, c4⟩ := lC
    refine ⟨⟨c1.add (Int.le_refl _) a6 h40', ?_⟩, ?_, fun q hq => ?_⟩
    · show ((L 21 ++ [10000 * h + v]).length : Int) ≤ s.1 0 40
      rw [List.length_append]
      simp only [List.length_cons, List.length_nil]
      omega
    · show CpS m0 (addM m 21 (10000 * h + v)) 44 ((L 44).length : Int)
      exact c3.sm (oth 44 (Or.inr (Or.inr (Or.inr (Or.inr (Or.inr rfl))))) (by decide))
    · have hq21 : q ≠ 21 := by
        unfold Mq at hq
        omega
      show CpS m0 (addM m 21 (10000 * h + v)) q (s.1 0 41) ∧ ((if q = 21 then L 21 ++ [10000 * h + v] else L q).length : Int) ≤ s.1 0 41
      rw [if_neg hq21]
      exact ⟨(c4 q hq).1.sm (oth q hq.row hq21), (c4 q hq).2⟩
  refine ⟨_, _, ?_, ⟨a5, u2, hS.cong hc, hb.cong hc, _, u1, hl2, lC2⟩, u1, hl2, ?_, hc, lC2⟩
  · unfold fm_X8_pushed
    have e1 : w64 (w64 (h * 10000) + v) = 10000 * h + v := by
      rw [w64_id (z := h * 10000) (by omega) (by omega), w64_id (by omega) (by omega)]
      omega
    rw [e1, bd_t a1]
    simp only [lx_t]
    rw [a2.2.2.1]
    rfl
  · show Stk (L 21 ++ [10000 * h + v]) (v :: t) ((L 21 ++ [10000 * h + v]).length : Int)
    have el : ((L 21 ++ [10000 * h + v]).length : Int) = (L 21).length + 1 := by
      rw [List.length_append]
      simp
    refine ⟨by omega, Int.le_refl _, h0, h1, h, hp.1, by omega, ?_, hs.app⟩
    have : (((L 21 ++ [10000 * h + v]).length : Int) - 1).toNat = (L 21).length := by omega
    rw [this, List.getElem?_append_right (Nat.le_refl _)]
    simp
/-- the handlers of a branch -/
theorem CR.pH (hC : CR m0 m s B) {L : Int → List Int} (hR : MRows m0 m L) (hL : CRl m s B L) (lC : Mc m0 m s L) (hk : 0 ≤ k) (hk2 : k < sg s 0 5) {t : List Int} (hs : Stk (L 21) t h) : CR m0 (mset m (m 19 k) 10 h) (sth s k t) B := by
  have ho := hC.ob hk (by have := hC.th.2.2; omega)
  obtain ⟨hF, hM, ⟨c1, c2, c3⟩, ⟨b1, b2, b3, b4⟩, -⟩ := hC
  obtain ⟨l1, l2, l3, l4, l5, l6⟩ := hL
  have hk3 : k < s.1 0 5 := hk2
  have hm : Mcel (m 19 k) := Or.inr (Or.inr (Or.inr (Or.inr (Or.inl ⟨ho.1, ho.2.1⟩))))
  have e19 : ∀ i, mset m (m 19 k) 10 h 19 i = m 19 i := fun i => ms_a (by omega)
  refine ⟨fxBr hF ho.1 ho.2.1 (by decide), hM.ms hF hm (by decide) (by omega), ⟨fun i g1 g2 => ?_, fun i g1 g2 => ?_, fun i g1 g2 => ?_⟩, ⟨b1, fun k g1 g2 => by rw [e19]; exact b2 k g1 g2, fun k k' g1 g2 g3 g4 => by rw [e19, e19]; exact b3 k k' g1 g2 g3 g4, fun k' i g1 g2 g3 g4 => ?_⟩, L, hR.ms hF hm (by decide), ⟨l1, l2, ?_, fun k' g1 g2 => ?_, ?_, l6⟩, lC.ms hR hF hm (by decide) rfl rfl⟩
  · rw [ms_a (by omega)]
    exact c1 i g1 g2
  · rw [ms_a (by omega)]
    exact c2 i g1 g2
  · rw [ms_a (by omega)]
    exact c3 i g1 g2
  · rw [e19]
    by_cases hkk : k' = k
    · subst hkk
      rw [ms_j (by omega)]
      exact b4 k' i g1 g2 g3 g4
    · rw [ms_a (fun hh => hkk (b3 k' k g1 (by have : (sth s k t).1 0 5 = s.1 0 5 := rfl; omega) hk (by omega) hh))]
      exact b4 k' i g1 g2 g3 g4
  · rw [ms_a (by omega)]
    exact l3
  · have e5 : (sth s k t).1 0 5 = s.1 0 5 := rfl
    rw [e5] at g2
    rw [e19]
    show Stk (L 21) (if k' = k then t else s.2.1 k') _
    by_cases hkk : k' = k
    · subst hkk
      rw [if_pos rfl, ms_e]
      exact hs
    · rw [if_neg hkk, ms_a (fun hh => hkk (b3 k' k g1 (by omega) hk (by omega) hh))]
      exact l4 k' g1 g2
  · rw [ms_a (by omega)]
    exact l5
/-- the compensations -/
theorem CR.pU (hC : CR m0 m s B) {L : Int → List Int} (hR : MRows m0 m L) (hL : CRl m s B L) (lC : Mc m0 m s L) {t : List Int} (hs : Stk (L 21) t h) : CR m0 (mset m 17 4 h) (stu s t) B := by
  obtain ⟨hF, hM, ⟨c1, c2, c3⟩, ⟨b1, b2, b3, b4⟩, -⟩ := hC
  obtain ⟨l1, l2, l3, l4, l5, l6⟩ := hL
  have hm : Mcel 17 := Or.inr (Or.inl rfl)
  have eb : ∀ k : Int, 0 ≤ k → k < 12 → m 19 k ≠ 17 := fun k g1 g2 => by have := b2 k g1 g2; omega
  have e19 : ∀ i, mset m 17 4 h 19 i = m 19 i := fun i => ms_a (by decide)
  have e5 : (stu s t).1 0 5 = s.1 0 5 := rfl
  refine ⟨fx17 hF (by decide), hM.ms hF hm (by decide) (by omega), ⟨fun i g1 g2 => ?_, fun i g1 g2 => ?_, fun i g1 g2 => ?_⟩, ⟨b1, fun k g1 g2 => by rw [e19]; exact b2 k g1 g2, fun k k' g1 g2 g3 g4 => by rw [e19, e19]; exact b3 k k' g1 g2 g3 g4, fun k' i g1 g2 g3 g4 => ?_⟩, L, hR.ms hF hm (by decide), ⟨l1, l2, ?_, fun k' g1 g2 => ?_, ?_, l6⟩, lC.ms hR hF hm (by decide) rfl rfl⟩
  · rw [ms_j (by omega)]
    exact c1 i g1 g2
  · rw [ms_a (by decide)]
    exact c2 i g1 g2
  · rw [ms_a (by decide)]
    exact c3 i g1 g2
  · rw [e5] at g2
    rw [e19, ms_a (eb k' g1 (by omega))]
    exact b4 k' i g1 g2 g3 g4
  · rw [ms_e]
    exact hs
  · rw [e5] at g2
    rw [e19, ms_a (eb k' g1 (by omega))]
    exact l4 k' g1 g2
  · rw [ms_a (by decide)]
    exact l5
/-- a queue: a signal more -/
theorem qrow (h0 : 0 ≤ k) (h1 : k < 4) : Mrow (35 + 2 * k) := by
  unfold Mrow
  omega
theorem CR.qadd (hC : CR m0 m s B) (hB : B < 268435456) (h0 : 0 ≤ k) (h1 : k < 4) : ∃ m', fm_X5_add (35 + 2 * k) v m = some (0, m') ∧ CR m0 m' (st (stq s k (sq s k ++ [v])) 0 41 (sg s 0 41 + 1)) (B + 1) := by
  obtain ⟨hF, hM, hS, hb, L, hR, hL, lC⟩ := hC
  have hr := qrow h0 h1
  obtain ⟨i1, i2, i3, i4⟩ := hR _ hr
  have hlB := hL.1 _ hr
  obtain ⟨a1, a2, a3, a4, a5, a6⟩ := add_ok (v := v) hF i1 (by omega)
  obtain ⟨u1, u2⟩ := hR.upd hF hM hr a2 (by rw [a4]; exact i2) a3
  have hc : ∀ a j : Int, Mcel a → addM m (35 + 2 * k) v a j = m a j := fun a j ha => RFr.mc hF i1.1 a3 ha
  refine ⟨_, a1, ?_⟩
  have lC2 : Mc m0 (addM m (35 + 2 * k) v) (st (stq s k (sq s k ++ [v])) 0 41 (sg s 0 41 + 1)) (fun i => if i = 35 + 2 * k then L (35 + 2 * k) ++ [v] else L i) := by
    have oth := hR.oth hr a3
    have e2 := i1.2.2.1
    have hq2 : Mq (35 + 2 * k) := by
      unfold Mq
      omega
    have e40 : (st (stq s k (sq s k ++ [v])) 0 41 (sg s 0 41 + 1)).1 0 40 = s.1 0 40 := rfl
    have e41 : (st (stq s k (sq s k ++ [v])) 0 41 (sg s 0 41 + 1)).1 0 41 = s.1 0 41 + 1 := rfl
    obtain ⟨⟨c1, c2⟩, c3, c4⟩ := lC
    refine ⟨⟨?_, ?_⟩, ?_, fun q hq => ?_⟩
    · rw [e40]
      exact c1.sm (oth 21 (Or.inl rfl) (by omega))
    · rw [e40]
      show ((if (21 : Int) = 35 + 2 * k then L (35 + 2 * k) ++ [v] else L 21).length : Int) ≤ s.1 0 40
      rw [if_neg (by omega)]
      exact c2
    · show CpS m0 (addM m (35 + 2 * k) v) 44 ((if (44 : Int) = 35 + 2 * k then L (35 + 2 * k) ++ [v] else L 44).length : Int)
      rw [if_neg (by omega)]
      exact c3.sm (oth 44 (Or.inr (Or.inr (Or.inr (Or.inr (Or.inr rfl))))) (by omega))
    · rw [e41]
      show CpS m0 (addM m (35 + 2 * k) v) q (s.1 0 41 + 1) ∧ ((if q = 35 + 2 * k then L (35 + 2 * k) ++ [v] else L q).length : Int) ≤ s.1 0 41 + 1
      have g := c4 q hq
      by_cases e : q = 35 + 2 * k
      · subst e
        rw [if_pos rfl, List.length_append]
        refine ⟨g.1.add (by omega) a6 (by omega), ?_⟩
        simp only [List.length_cons, List.length_nil]
        omega
      · rw [if_neg e]
        exact ⟨(g.1.sm (oth q hq.row e)).mono (by omega), by omega⟩
  have e0 : ∀ i : Int, i ≠ 41 → (st (stq s k (sq s k ++ [v])) 0 41 (sg s 0 41 + 1)).1 0 i = s.1 0 i := fun i hi => if_neg fun hh => hi hh.2
  have es : ∀ a i : Int, a ≠ 0 → (st (stq s k (sq s k ++ [v])) 0 41 (sg s 0 41 + 1)).1 a i = s.1 a i := fun a i ha => if_neg fun hh => ha hh.1
  obtain ⟨d1, d2, d3⟩ := hS.cong hc
  obtain ⟨d4, d5, d6, d7⟩ := hb.cong hc
  refine ⟨a5, u2, ⟨fun i g1 g2 => by rw [e0 i (by omega)]; exact d1 i g1 g2, fun i g1 g2 => by rw [e0 _ (by omega)]; exact d2 i g1 g2, fun i g1 g2 => by rw [es _ _ (by decide)]; exact d3 i g1 g2⟩, ⟨by rw [e0 5 (by decide)]; exact d4, d5, d6, fun k i g1 g2 g3 g4 => by rw [e0 5 (by decide)] at g2; rw [es _ _ (by omega)]; exact d7 k i g1 g2 g3 g4⟩, _, u1, ?_, lC2⟩
  obtain ⟨l1, l2, l3, l4, l5, l6⟩ := hL
  refine ⟨fun r g => ?_, fun n g1 g2 => ?_, ?_, fun k' g1 g2 => ?_, ?_, ?_⟩
  · have := l1 r g
    show ((if r = 35 + 2 * k then L (35 + 2 * k) ++ [v] else L r).length : Int) ≤ B + 1
    by_cases e : r = 35 + 2 * k
    · subst e
      rw [if_pos rfl, List.length_append]
      simp only [List.length_cons, List.length_nil]
      omega
    · rw [if_neg e]
      omega
  · show (if 35 + 2 * n = 35 + 2 * k then L (35 + 2 * k) ++ [v] else L (35 + 2 * n)) = (if n = k then s.2.2.1 k ++ [v] else s.2.2.1 n)
    by_cases e : n = k
    · subst e
      rw [if_pos rfl, if_pos rfl, l2 n h0 h1]
    · rw [if_neg e, if_neg (by omega)]
      exact l2 n g1 g2
  · rw [hc 17 4 (Or.inr (Or.inl rfl))]
    show Stk (if (21 : Int) = 35 + 2 * k then L (35 + 2 * k) ++ [v] else L 21) _ _
    rw [if_neg (by omega)]
    exact l3
  · rw [e0 5 (by decide)] at g2
    have hk' := hb.2.1 k' g1 (by have := hb.1.2; omega)
    rw [hc 19 k' (Or.inr (Or.inr (Or.inr (Or.inl rfl)))), hc _ 10 (Or.inr (Or.inr (Or.inr (Or.inr (Or.inl hk')))))]
    show Stk (if (21 : Int) = 35 + 2 * k then L (35 + 2 * k) ++ [v] else L 21) _ _
    rw [if_neg (by omega)]
    exact l4 k' g1 g2
  · rw [hc 43 1 (Or.inr (Or.inr (Or.inr (Or.inr (Or.inr rfl)))))]
    exact l5
  · show NewsIs (if (44 : Int) = 35 + 2 * k then L (35 + 2 * k) ++ [v] else L 44) _
    rw [if_neg (by omega)]
    exact l6
/-- a queue: its first signal is taken -/
theorem CR.qrem (hC : CR m0 m s B) (h0 : 0 ≤ k) (h1 : k < 4) (hq : sq s k ≠ []) : ∃ m', fm_X5_removeAt (35 + 2 * k) 0 m = some (0, m') ∧ CR m0 m' (stq s k (sq s k).tail) B := by
  obtain ⟨hF, hM, hS, hb, L, hR, hL, lC⟩ := hC
  have hr := qrow h0 h1
  obtain ⟨i1, i2, i3, i4⟩ := hR _ hr
  have hlB := hL.1 _ hr
  have hq2 : L (35 + 2 * k) = sq s k := hL.2.1 k h0 h1
  have hpos : 0 < (L (35 + 2 * k)).length := by
    rw [hq2]
    exact List.length_pos_iff.mpr hq
  obtain ⟨m', a1, a2, a3, a4, -, -⟩ := rem_is (p := 0) i1 hpos i2
  have a1' : fm_X5_removeAt (35 + 2 * k) 0 m = some (0, m') := a1
  have a5 : Fix m' := (fw_X5_removeAt hF i1.1.1 a1').fix
  have et : (L (35 + 2 * k)).eraseIdx 0 = (sq s k).tail := by rw [hq2]; cases sq s k <;> rfl
  rw [et] at a2
  obtain ⟨u1, u2⟩ := hR.upd hF hM hr a2 a4 a3
  have hc : ∀ a j : Int, Mcel a → m' a j = m a j := fun a j ha => RFr.mc hF i1.1 a3 ha
  have lC2 : Mc m0 m' (stq s k (sq s k).tail) (fun i => if i = 35 + 2 * k then (sq s k).tail else L i) := by
    have smr : SmT m m' (35 + 2 * k) := rem_rm hF i1 a1'
    have sma : ∀ r, Mrow r → SmT m m' r := fun r hr2 => by
      by_cases e : r = 35 + 2 * k
      · rw [e]
        exact smr
      · exact hR.oth hr a3 r hr2 e
    obtain ⟨⟨c1, c2⟩, c3, c4⟩ := lC.to (s' := stq s k (sq s k).tail) sma (Int.le_refl _) (Int.le_refl _)
    refine ⟨⟨c1, ?_⟩, ?_, fun q hq => ⟨(c4 q hq).1, ?_⟩⟩
    · show ((if (21 : Int) = 35 + 2 * k then (sq s k).tail else L 21).length : Int) ≤ _
      rw [if_neg (by omega)]
      exact c2
    · show CpS m0 m' 44 ((if (44 : Int) = 35 + 2 * k then (sq s k).tail else L 44).length : Int)
      rw [if_neg (by omega)]
      exact c3
    · have g : ((L q).length : Int) ≤ s.1 0 41 := (c4 q hq).2
      show ((if q = 35 + 2 * k then (sq s k).tail else L q).length : Int) ≤ s.1 0 41
      by_cases e : q = 35 + 2 * k
      · rw [if_pos e, ← hq2, List.length_tail]
        rw [e] at g
        omega
      · rw [if_neg e]
        exact g
  refine ⟨_, a1', a5, u2, hS.cong hc, hb.cong hc, _, u1, ?_, lC2⟩
  obtain ⟨l1, l2, l3, l4, l5, l6⟩ := hL
  refine ⟨fun r g => ?_, fun n g1 g2 => ?_, ?_, fun k' g1 g2 => ?_, ?_, ?_⟩
  · have := l1 r g
    show ((if r = 35 + 2 * k then (sq s k).tail else L r).length : Int) ≤ B
    by_cases e : r = 35 + 2 * k
    · subst e
      rw [if_pos rfl, ← hq2, List.length_tail]
      omega
    · rw [if_neg e]
      omega
  · show (if 35 + 2 * n = 35 + 2 * k then (sq s k).tail else L (35 + 2 * n)) = (if n = k then (sq s k).tail else s.2.2.1 n)
    by_cases e : n = k
    · subst e
      rw [if_pos rfl, if_pos rfl]
    · rw [if_neg e, if_neg (by omega)]
      exact l2 n g1 g2
  · rw [hc 17 4 (Or.inr (Or.inl rfl))]
    show Stk (if (21 : Int) = 35 + 2 * k then (sq s k).tail else L 21) _ _
    rw [if_neg (by omega)]
    exact l3
  · have hk' := hb.2.1 k' g1 (by have := hb.1.2; have : (stq s k (sq s k).tail).1 0 5 = s.1 0 5 := rfl; omega)
    rw [hc 19 k' (Or.inr (Or.inr (Or.inr (Or.inl rfl)))), hc _ 10 (Or.inr (Or.inr (Or.inr (Or.inr (Or.inl hk')))))]
    show Stk (if (21 : Int) = 35 + 2 * k then (sq s k).tail else L 21) _ _
    rw [if_neg (by omega)]
    exact l4 k' g1 g2
  · rw [hc 43 1 (Or.inr (Or.inr (Or.inr (Or.inr (Or.inr rfl)))))]
    exact l5
  · show NewsIs (if (44 : Int) = 35 + 2 * k then (sq s k).tail else L 44) _
    rw [if_neg (by omega)]
    exact l6
end CR2
