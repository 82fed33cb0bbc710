/-! THE TELLING: the class notes an arrival, II. -/
section NOT2
variable {m0 m m' : MM} {x : CX} {s : TS} {B : Int} {a b c e j v k h n l w p : Int}
theorem begin_g {i : Int} (ha : a ≠ -1) : sg (sBegin p l s) a i = if a = 0 ∧ i = 6 then sg s 0 6 + 1 else if a = 0 ∧ i = 5 then sg s 0 5 + 1 else if a = 2 + sg s 0 5 then newB (sg s 0 6) p l i else sg s a i := by
  show mset (mset (fun a j => if a = 2 + sg s 0 5 then newB (sg s 0 6) p l j else if a = -1 ∧ j = sg s 0 6 then p else s.1 a j) 0 5 (sg s 0 5 + 1)) 0 6 (sg s 0 6 + 1) a i = _
  unfold mset
  by_cases c1 : a = 0 ∧ i = 6
  · rw [if_pos c1, if_pos c1]
  · rw [if_neg c1, if_neg c1]
    by_cases c2 : a = 0 ∧ i = 5
    · rw [if_pos c2, if_pos c2]
    · rw [if_neg c2, if_neg c2]
      by_cases c3 : a = 2 + sg s 0 5
      · rw [if_pos c3]
        exact if_pos c3
      · rw [if_neg c3]
        exact (if_neg c3).trans (if_neg (fun hh => ha hh.1))
theorem begin_h : sh (sBegin p l s) k = if k = sg s 0 5 then [] else sh s k := rfl
theorem SW.begin (hW : SW x s B) (h1 : sg s 0 5 < 12) (l0 : 0 ≤ l) (l1 : l ≤ 24) : SW x (sBegin p l s) (B + 1) := by
  obtain ⟨h12, hv, hb, hu, hq, h6, h29, h5, h30, h10⟩ := hW
  have e0 : ∀ i, i ≠ 5 → i ≠ 6 → sg (sBegin p l s) 0 i = sg s 0 i := fun i g1 g2 => by
    rw [begin_g (by decide), if_neg (by omega), if_neg (by omega), if_neg (by omega)]
  have e5 : sg (sBegin p l s) 0 5 = sg s 0 5 + 1 := by rw [begin_g (by decide), if_neg (by omega), if_pos ⟨rfl, rfl⟩]
  have e6 : sg (sBegin p l s) 0 6 = sg s 0 6 + 1 := by rw [begin_g (by decide), if_pos ⟨rfl, rfl⟩]
  refine ⟨by rw [e0 12 (by decide) (by decide)]; exact h12, fun a g1 g2 => ?_, fun k g1 g2 => ?_, hu, hq, by rw [e6]; omega, by rw [e0 29 (by decide) (by decide)]; exact h29, by rw [e5]; omega, by rw [e0 30 (by decide) (by decide)]; exact h30, by rw [e0 10 (by decide) (by decide)]; exact h10⟩
  · rw [begin_g (by decide), if_neg (by omega), if_neg (by omega), if_neg (by omega)]
    exact hv a g1 g2
  · rw [e5] at g2
    unfold BrW
    rw [e6, e0 30 (by decide) (by decide), begin_h]
    have en : sn (sBegin p l s) = sn s := rfl
    rw [en]
    by_cases c : k = sg s 0 5
    · subst c
      have eb : ∀ i, sg (sBegin p l s) (2 + sg s 0 5) i = newB (sg s 0 6) p l i := fun i => by
        rw [begin_g (by omega), if_neg (by omega), if_neg (by omega), if_pos rfl]
      rw [if_pos rfl]
      simp only [eb]
      refine ⟨?_, ⟨l0, l1⟩, fun g => absurd rfl g, fun g => absurd (show (0 : Int) = 3 from g) (by decide), fun g => ?_, ?_, fun v hv => absurd hv List.not_mem_nil⟩
      · show 0 ≤ sg s 0 6 ∧ sg s 0 6 < sg s 0 6 + 1
        omega
      · rcases g with g | g
        · exact absurd (show (0 : Int) = 1 from g) (by decide)
        · exact absurd (show (0 : Int) = 2 from g) (by decide)
      · show (0 : Int) ≤ 0 ∧ (0 : Int) ≤ B + 1
        omega
    · have eb : ∀ i, sg (sBegin p l s) (2 + k) i = sg s (2 + k) i := fun i => by
        rw [begin_g (by omega), if_neg (by omega), if_neg (by omega), if_neg (by omega)]
      simp only [eb]
      rw [if_neg c]
      obtain ⟨k1, k2, k3, k4, k5, k6, k7⟩ := hb k g1 (by omega)
      exact ⟨⟨k1.1, by omega⟩, k2, k3, k4, k5, ⟨k6.1, by omega⟩, k7⟩
theorem obj_pos (hC : CR m0 m s B) (h0 : 0 ≤ k) (h1 : k < sg s 0 5) : obj m k = m 19 k ∧ m 19 k ≠ 0 := by
  have := hC.ob h0 (by have := hC.th.2.2; omega)
  unfold obj
  rw [if_neg (by omega)]
  exact ⟨rfl, by omega⟩
theorem failed_e (hC : CR m0 m s B) (X : XC m0 x) (hW : SW x s B) (hB : B < 268435456) (hs : x.1 3 ≤ x.1 0) (hk : k = -1 ∨ (0 ≤ k ∧ k < sg s 0 5)) : ∃ m', fm_X4_noteFailure (obj m k) m = some (0, m') ∧ CR m0 m' (sFailed x k s) (B + 1) ∧ SW x (sFailed x k s) (B + 1) := by
  unfold sFailed
  rcases hk with rfl | ⟨h0, h1⟩
  · rw [if_pos (by decide)]
    refine ⟨m, ?_, hC.mono (by omega), hW.mono (by omega)⟩
    unfold fm_X4_noteFailure
    rw [show obj m (-1) = 0 from rfl, if_pos rfl]
  · rw [if_neg (by omega)]
    obtain ⟨o1, o2⟩ := obj_pos hC h0 h1
    have ho := hC.ob h0 (by have := hC.th.2.2; omega)
    obtain ⟨k1, k2, k3, k4, k5, k6, k7⟩ := hW.br h0 h1
    rw [o1]
    by_cases c : sg s (2 + k) 7 = 2
    · obtain ⟨m', g1, g2, g3⟩ := go_e (l := sg s (2 + k) 4) hC h0 h1 rfl
      rw [if_pos c]
      refine ⟨m', ?_, g2.mono (by omega), (hW.go h0 k2.1 k2.2).mono (by omega)⟩
      unfold fm_X4_noteFailure
      simp only [lx_p]
      rw [if_neg o2, gd_t ho.2.2, hC.br h0 h1 (by decide) (by decide), if_pos c, hC.br h0 h1 (by decide) (by decide), bd_t g1]
    · obtain ⟨m', g1, g2, g3⟩ := fail_e hC X hW hB hs h0 h1 rfl
      rw [if_neg c]
      refine ⟨m', ?_, g2, (hW.fail hs h0 h1).mono (by omega)⟩
      unfold fm_X4_noteFailure
      simp only [lx_p]
      rw [if_neg o2, gd_t ho.2.2, hC.br h0 h1 (by decide) (by decide), if_neg c, bd_t g1]
theorem ended_e (hC : CR m0 m s B) (X : XC m0 x) (hW : SW x s B) (hv0 : 0 ≤ v) (hv1 : v ≤ 999) (hk : k = -1 ∨ (0 ≤ k ∧ k < sg s 0 5 ∧ sg s (2 + k) 7 ≠ 0)) : ∃ m', fm_X4_noteEnd (obj m k) n v m = some (0, m') ∧ CR m0 m' (sEnded x k n v s) B ∧ SW x (sEnded x k n v s) B := by
  unfold sEnded
  rcases hk with rfl | ⟨h0, h1, hw7⟩
  · rw [if_pos (by decide)]
    refine ⟨m, ?_, hC, hW⟩
    unfold fm_X4_noteEnd
    rw [show obj m (-1) = 0 from rfl, if_pos rfl]
  · rw [if_neg (by omega)]
    obtain ⟨o1, o2⟩ := obj_pos hC h0 h1
    have ho := hC.ob h0 (by have := hC.th.2.2; omega)
    obtain ⟨k1, k2, k3, k4, k5, k6, k7⟩ := hW.br h0 h1
    obtain ⟨c1, c2, c3, c4, c5⟩ := X.code hC.2.1
    have hl := k3 hw7
    rw [o1]
    by_cases c : sg s (2 + k) 7 = 2
    · obtain ⟨m', g1, g2, g3⟩ := go_e (l := sg s (2 + k) 4) hC h0 h1 rfl
      rw [if_pos c]
      refine ⟨m', ?_, g2, hW.go h0 k2.1 k2.2⟩
      unfold fm_X4_noteEnd
      simp only [lx_p]
      rw [if_neg o2, gd_t ho.2.2, hC.br h0 h1 (by decide) (by decide), if_pos c, hC.br h0 h1 (by decide) (by decide), bd_t g1]
    · rw [if_neg c]
      by_cases cf : n = 3
      · obtain ⟨m', g1, g2, g3⟩ := go_e (l := sg s (2 + k) 4 + 1) hC h0 h1 rfl
        rw [if_pos cf]
        refine ⟨m', ?_, g2, hW.go h0 (by omega) (by omega)⟩
        unfold fm_X4_noteEnd fj_X4_noteEnd_50
        simp only [lx_p]
        rw [if_neg o2, gd_t ho.2.2, hC.br h0 h1 (by decide) (by decide), if_neg c, if_pos cf, gd_t ho.2.2, hC.br h0 h1 (by decide) (by decide), w32_id (by omega) (by omega), bd_t g1]
      · obtain ⟨d1, d2, d3, d4, d5, d6, d7⟩ := c5 _ k2.1 hl
        obtain ⟨m1, f1, f2, f3⟩ := set_e (v := v) hC (a := bOf x (sg s (2 + k) 4)) d6
        have ht1 : sg (st s 1 (bOf x (sg s (2 + k) 4)) v) 0 5 = sg s 0 5 := by rw [st_g, if_neg (by omega)]
        have hl1 : sg (st s 1 (bOf x (sg s (2 + k) 4)) v) (2 + k) 4 = sg s (2 + k) 4 := by rw [st_g, if_neg (by omega)]
        obtain ⟨m', g1, g2, g3⟩ := go_e (l := sg s (2 + k) 4 + 1) f2 h0 (by rw [ht1]; exact h1) (f3 k)
        rw [if_neg cf]
        refine ⟨m', ?_, g2, (hW.var hv0 hv1).go h0 (by omega) (by omega)⟩
        have ho1 := f2.ob h0 (by have := hC.th.2.2; omega)
        rw [f3] at ho1
        have e4 : m1 (m 19 k) 4 = sg s (2 + k) 4 := by
          have := f2.br h0 (by rw [ht1]; exact h1) (j := 4) (by decide) (by decide)
          rw [f3, hl1] at this
          exact this
        unfold fm_X4_noteEnd fj_X4_noteEnd_50
        simp only [lx_p]
        rw [if_neg o2, gd_t ho.2.2, hC.br h0 h1 (by decide) (by decide), if_neg c, if_neg cf, hC.br h0 h1 (by decide) (by decide), c1, gd_t c2, bp_t d1, tmod_e (by omega)]
        have em : (1000000 * (x.2.2 (sg s (2 + k) 4)).1 + 1000 * (x.2.2 (sg s (2 + k) 4)).2.1 + (x.2.2 (sg s (2 + k) 4)).2.2) % 1000 = bOf x (sg s (2 + k) 4) := by
          unfold bOf
          omega
        rw [em, bd_t f1, gd_t ho1.2.2, e4, w32_id (by omega) (by omega), bd_t g1]
theorem nl_tell : ∀ (n : Nat) (k : Int) (s : TS), nl s ≤ nl (sTell x n k s) := by
  intro n
  induction n with
  | zero => intro k s; exact Int.le_refl _
  | succ n ih =>
    intro k s
    unfold sTell
    split
    · split
      · split
        · exact ih _ (st s (2 + k) 6 1)
        · split
          · have h := nl_cmd (x := x) (a := 11) (b := sg s (2 + k) 8) (c := 0) (s := s)
            generalize hr : sCmd x 11 (sg s (2 + k) 8) 0 s = r at h
            obtain ⟨r, s1⟩ := r
            simp only
            split
            · exact Int.le_trans h (ih _ s1)
            · exact Int.le_trans h (Int.le_trans nl_fail (ih _ _))
          · exact Int.le_trans nl_fail (ih _ _)
      · exact Int.le_refl _
    · exact Int.le_refl _
theorem branchAt_e (hC : CR m0 m s B) (h0 : 0 ≤ k) : fm_X8_branchAt k m = some (if k < sg s 0 5 then m 19 k else 0) := by
  have ht := hC.th
  unfold fm_X8_branchAt
  simp only [lx_p]
  rw [if_neg (by omega), ht.1]
  by_cases c : k < sg s 0 5
  · rw [if_pos c, if_pos c, if_pos (by omega), gd_t ⟨h0, by omega⟩]
  · rw [if_neg c, if_neg c]
theorem goes_s (h : goes s = true) : sg s 0 30 = 0 ∧ sg s 0 9 = 0 := by
  unfold goes at h
  simp only [Bool.and_eq_true, decide_eq_true_eq] at h
  exact h
theorem SW.s6 (hW : SW x s B) (hk : 0 ≤ k) (hj : j = 6 ∨ j = 9 ∨ j = 3 ∨ j = 2) : SW x (st s (2 + k) j v) B := by
  refine hW.b1 (k := k) (fun a i ha => by rw [st_g, if_neg (fun hh => ha hh.1)]) (fun _ _ => rfl) rfl hk fun g => ?_
  have e : ∀ i, i ≠ j → sg (st s (2 + k) j v) (2 + k) i = sg s (2 + k) i := fun i hi => by rw [st_g, if_neg (fun hh => hi hh.2)]
  have e0 : ∀ i, sg (st s (2 + k) j v) 0 i = sg s 0 i := fun i => by rw [st_g, if_neg (by omega)]
  have := hW.br hk g
  unfold BrW at this ⊢
  rw [e 0 (by omega), e 4 (by omega), e 7 (by omega), e 8 (by omega), e 5 (by omega), e0, e0]
  exact this
theorem tell_e (X : XC m0 x) (hs : x.1 3 ≤ x.1 0) : ∀ (n f : Nat) (k : Int) (s : TS) (m : MM) (B : Int), 0 ≤ k → k ≤ 12 → 12 - k < n → n ≤ f → CR m0 m s B → SW x s B → B + 2 * n < 268435456 → x.1 0 + nl (sTell x n k s) ≤ 524288 → ∃ m', fl_X4_tellCancel_2 f k m = some (0, m') ∧ CR m0 m' (sTell x n k s) (B + 2 * n) ∧ SW x (sTell x n k s) (B + 2 * n) := by
  intro n
  induction n with
  | zero => intro f k s m B h1 h2 h3; omega
  | succ n ih =>
    intro f k s m B h1 h2 h3 h4 hC hW hB hN
    obtain ⟨f, rfl⟩ : ∃ g, f = g + 1 := ⟨f - 1, by omega⟩
    have ht := hC.th
    have hn := (X.hc hC.2.1).2.1.n
    have hC2 := hC.mono (B' := B + 2 * (n + 1 : Nat)) (by omega)
    have hW2 := hW.mono (B' := B + 2 * (n + 1 : Nat)) (by omega)
    unfold fl_X4_tellCancel_2
    unfold sTell at hN ⊢
    simp only [lx_p]
    rw [ht.1]
    by_cases c1 : k < sg s 0 5
    · rw [if_pos c1] at hN
      rw [if_pos c1, if_pos c1, bp_t (goes_e hC)]
      by_cases cg : goes s = true
      · have ho := hC.ob h1 (by omega)
        obtain ⟨k1, k2, k3, k4, k5, k6, k7⟩ := hW.br h1 c1
        rw [if_pos cg] at hN
        rw [if_pos cg, if_pos cg, if_neg (by decide), bp_t (branchAt_e hC h1), if_pos c1, if_neg (by omega), gd_t ho.2.2, hC.br h1 c1 (by decide) (by decide), w32_id (by omega) (by omega)]
        by_cases c5 : 0 < sg s (2 + k) 5
        · rw [if_pos c5] at hN
          rw [if_pos c5, if_pos c5, up_t]
          obtain ⟨m', g1, g2, g3⟩ := ih f (k + 1) (st s (2 + k) 6 1) _ B (by omega) (by omega) (by omega) (by omega) (hC.pB (v := 1) h1 c1 (j := 6) (by decide) (by decide)) (hW.s6 h1 (Or.inl rfl)) (by omega) hN
          exact ⟨m', g1, g2.mono (by omega), g3.mono (by omega)⟩
        · rw [if_neg c5] at hN
          rw [if_neg c5, if_neg c5, bp_t (wfe_e h1), hC.br h1 c1 (by decide) (by decide)]
          by_cases c7 : sg s (2 + k) 7 = 1 ∨ sg s (2 + k) 7 = 2
          · have hw8 := k5 c7 (goes_s cg).1
            rw [if_pos c7] at hN
            rw [if_pos c7, if_pos c7, if_neg (by decide), hC.br h1 c1 (by decide) (by decide)]
            have hnl : x.1 0 + nl s ≤ 524288 := by
              have h := nl_cmd (x := x) (a := 11) (b := sg s (2 + k) 8) (c := 0) (s := s)
              have hN' := hN
              generalize hr : sCmd x 11 (sg s (2 + k) 8) 0 s = r at h hN'
              obtain ⟨r, s1⟩ := r
              simp only at hN' h
              split at hN'
              · have := nl_tell (x := x) n (k + 1) s1
                omega
              · have := nl_fail (x := x) (k := k) (s := s1)
                have := nl_tell (x := x) n (k + 1) (sFail x k s1)
                omega
            have e8 : nl s = ((sn s).length : Int) := rfl
            obtain ⟨m1, f1, f2⟩ := command_e (k := 11) (a := sg s (2 + k) 8) (b := 0) hC X hW (by omega) hs (by decide) (by decide) hw8.1 (by omega) (by decide) (by decide)
            have hW1 := hW.cmd (c := 11) (a := sg s (2 + k) 8) (b := 0) hs
            have hg5 : sg (sCmd x 11 (sg s (2 + k) 8) 0 s).2 0 5 = sg s 0 5 := cmd_g (Or.inr ⟨by decide, by decide, by decide⟩)
            have h19 : m1 19 k = m 19 k := cmd19 hC.1 f1 h1
            rw [bd_t f1]
            generalize hr : sCmd x 11 (sg s (2 + k) 8) 0 s = r at hN f2 hW1 hg5
            obtain ⟨r, s1⟩ := r
            simp only at hN f2 hW1 hg5 ⊢
            by_cases cr : r < 0
            · rw [if_pos cr] at hN
              rw [if_pos cr, if_pos cr]
              obtain ⟨m', g1, g2, g3⟩ := ih f (k + 1) s1 m1 (B + 1) (by omega) (by omega) (by omega) (by omega) f2 (hW1.mono (by omega)) (by omega) hN
              exact ⟨m', g1, g2.mono (by omega), g3.mono (by omega)⟩
            · rw [if_neg cr] at hN
              rw [if_neg cr, if_neg cr]
              obtain ⟨m2, q1, q2, q3⟩ := fail_e f2 X (hW1.mono (by omega)) (by omega) hs h1 (by rw [hg5]; exact c1) h19
              have hW3 := (hW1.mono (B' := B + 1) (by omega)).fail (k := k) hs h1 (by rw [hg5]; exact c1)
              obtain ⟨m', g1, g2, g3⟩ := ih f (k + 1) (sFail x k s1) m2 (B + 1 + 1) (by omega) (by omega) (by omega) (by omega) q2 (hW3.mono (by omega)) (by omega) hN
              refine ⟨m', ?_, g2.mono (by omega), g3.mono (by omega)⟩
              unfold fj_X4_tellCancel_70
              simp only [lx_p]
              rw [bd_t q1, w32_id (by omega) (by omega)]
              exact g1
          · rw [if_neg c7] at hN
            rw [if_neg c7, if_neg c7, if_pos rfl]
            obtain ⟨m2, q1, q2, q3⟩ := fail_e hC X hW (by omega) hs h1 c1 rfl
            have hW3 := hW.fail (k := k) hs h1 c1
            obtain ⟨m', g1, g2, g3⟩ := ih f (k + 1) (sFail x k s) m2 (B + 1) (by omega) (by omega) (by omega) (by omega) q2 (hW3.mono (by omega)) (by omega) hN
            refine ⟨m', ?_, g2.mono (by omega), g3.mono (by omega)⟩
            unfold fj_X4_tellCancel_70
            simp only [lx_p]
            rw [bd_t q1, w32_id (by omega) (by omega)]
            exact g1
      · rw [if_neg cg, if_neg cg, if_pos rfl]
        exact ⟨m, rfl, hC2, hW2⟩
    · rw [if_neg c1, if_neg c1]
      exact ⟨m, rfl, hC2, hW2⟩
theorem nl_note : nl s ≤ nl (sNote x k a b s) := by
  have hf : ∀ k, nl s ≤ nl (sFailed x k s) := fun k => by
    unfold sFailed
    split
    · exact Int.le_refl _
    · split
      · exact Int.le_refl _
      · exact nl_fail
  unfold sNote
  split
  · exact Int.le_refl _
  · split
    · exact hf _
    · split
      · exact hf _
      · split
        · exact Int.le_refl _
        · split
          · exact nl_tell _ _ (st s 0 8 1)
          · unfold sEnded
            split
            · exact Int.le_refl _
            · split
              · exact Int.le_refl _
              · split <;> exact Int.le_refl _
theorem SW.qset {t : List Int} (hW : SW x s B) (h : ∀ v ∈ t, 0 ≤ v ∧ v ≤ 999) : SW x (stq s n t) B := by
  refine hW.to rfl rfl (Or.inl rfl) (Or.inl rfl) (Nat.le_refl _) (Or.inl rfl) (Or.inl rfl) (fun _ _ _ => Or.inl rfl) hW.2.2.2.1 (fun i g1 g2 v hv => ?_) fun k g1 g2 => Or.inl ⟨fun _ => rfl, rfl⟩
  have e : sq (stq s n t) i = if i = n then t else sq s i := rfl
  rw [e] at hv
  split at hv
  · exact h v hv
  · exact hW.2.2.2.2.1 i g1 g2 v hv
theorem note_e (hC : CR m0 m s B) (X : XC m0 x) (hW : SW x s B) (hB : B + 30 < 268435456) (hs : x.1 3 ≤ x.1 0) (hN : x.1 0 + nl (sNote x k a b s) ≤ 524288) (b0 : 0 ≤ b) (b1 : b ≤ 999) (h0 : k = 0 → 0 ≤ a ∧ a ≤ 999 ∧ sg s 0 5 < 12) (h4 : k = 4 → 0 ≤ a ∧ a < 4) : ∃ m', fm_X4_note k a b m = some (0, m') ∧ CR m0 m' (sNote x k a b s) (B + 30) ∧ SW x (sNote x k a b s) (B + 30) := by
  have ht := hC.th
  have hwb := wtr_b (s := s) (e := a)
  unfold fm_X4_note
  unfold sNote at hN ⊢
  by_cases c0 : k = 0
  · obtain ⟨g1, g2, g3⟩ := h0 c0
    rw [if_pos c0] at hN
    rw [if_pos c0, if_pos c0]
    obtain ⟨m1, f1, f2, f3⟩ := set_e (v := a) hC (a := 0) (by decide)
    have hW1 := (hW.var (j := 0) g1 g2).s0 (j := 40) (v := sg s 0 40 + 1) (by decide) (by decide) (by decide) (by decide) (by decide) (Or.inl (by decide))
    have ht1 : sg (st (st s 1 0 a) 0 40 (sg s 0 40 + 1)) 0 5 = sg s 0 5 := by rw [st_g, if_neg (by omega), st_g, if_neg (by omega)]
    have e40 : (st s 1 0 a).1 0 40 = s.1 0 40 := rfl
    have f2' := f2.s4 (j := 40) (v := sg s 0 40 + 1) (by decide) (fun _ => by rw [e40]; show s.1 0 40 ≤ s.1 0 40 + 1; omega)
    obtain ⟨m2, q1, q2, q3⟩ := begin_e (p := -1) (l := 0) f2' hW1 (by omega) (by rw [ht1]; exact g3)
    have hW2 := hW1.begin (p := -1) (l := 0) (by rw [ht1]; exact g3) (by decide) (by decide)
    rw [bd_t f1, bd_t q1]
    exact ⟨_, rfl, q2.mono (by omega), hW2.mono (by omega)⟩
  · rw [if_neg c0] at hN
    rw [if_neg c0, if_neg c0]
    by_cases c2 : k = 2
    · rw [if_pos c2, if_pos c2]
      obtain ⟨m1, f1, f2, f3⟩ := failed_e (k := wtr s a) hC X hW (by omega) hs (hwb.imp id fun g => ⟨g.1, g.2.1⟩)
      unfold fj_X4_note_101
      rw [bp_t (wtr_e hC), bd_t f1]
      exact ⟨_, rfl, f2.mono (by omega), f3.mono (by omega)⟩
    · rw [if_neg c2] at hN
      rw [if_neg c2, if_neg c2]
      by_cases c6 : k = 6
      · rw [if_pos c6, if_pos c6]
        obtain ⟨m1, f1, f2, f3⟩ := failed_e (k := wtr s a) hC X hW (by omega) hs (hwb.imp id fun g => ⟨g.1, g.2.1⟩)
        unfold fj_X4_note_101
        rw [bp_t (wtr_e hC), bd_t f1]
        exact ⟨_, rfl, f2.mono (by omega), f3.mono (by omega)⟩
      · rw [if_neg c6] at hN
        rw [if_neg c6, if_neg c6]
        by_cases c4 : k = 4
        · obtain ⟨g1, g2⟩ := h4 c4
          rw [if_pos c4, if_pos c4, bp_t (queue_e hC.1 g1 g2)]
          obtain ⟨m1, f1, f2⟩ := hC.qadd (v := b) (by omega) g1 g2
          have hq6 : okc m (35 + 2 * a) 6 := by
            obtain ⟨-, -, -, -, L, hR, -⟩ := hC
            exact (hR _ (qrow g1 g2)).1.1.1
          rw [gd_t hq6, bd_t f1]
          refine ⟨_, rfl, f2.mono (by omega), ((hW.qset fun v hv => ?_).s0 (by decide) (by decide) (by decide) (by decide) (by decide) (Or.inl (by decide))).mono (by omega)⟩
          rcases List.mem_append.mp hv with g | g
          · exact hW.2.2.2.2.1 a g1 g2 v g
          · rw [List.mem_singleton.mp g]
            exact ⟨b0, b1⟩
        · rw [if_neg c4] at hN
          rw [if_neg c4, if_neg c4]
          by_cases c7 : k = 7
          · rw [if_pos c7] at hN
            rw [if_pos c7, if_pos c7, up_t]
            obtain ⟨m1, f1, f2, f3⟩ := tell_e X hs 13 BIG 0 (st s 0 8 1) _ B (by decide) (by decide) (by decide) (by decide) (hC.p17 (j := 8) (v := 1) (by decide) (by decide)) (hW.s0 (by decide) (by decide) (by decide) (by decide) (by decide) (Or.inl (by decide))) (by omega) hN
            unfold fm_X4_tellCancel
            rw [bd_t f1]
            exact ⟨_, rfl, f2.mono (by omega), f3.mono (by omega)⟩
          · rw [if_neg c7, if_neg c7]
            obtain ⟨m1, f1, f2, f3⟩ := ended_e (k := wtr s a) (n := k) hC X hW b0 b1 (hwb.imp id fun g => ⟨g.1, g.2.1, by rcases g.2.2.1 with q | q <;> omega⟩)
            unfold fj_X4_note_116
            rw [bp_t (wtr_e hC), bd_t f1]
            exact ⟨_, rfl, f2.mono (by omega), f3.mono (by omega)⟩
end NOT2
