/-! THE TELLING: branches end, begin, race, win, are dropped. -/
section RAC
variable {m0 m m' M : MM} {x : CX} {s : TS} {B : Int} {a b c e j v k h n l w p g t : Int}
theorem rem_g {i q : Int} (h0 : 0 ≤ i) (h1 : i < sg s 0 5 - 1) (hq : q ≠ 2) : sg (sRem k s) (2 + i) q = sg s (2 + (if i < k then i else i + 1)) q := by
  rw [← rem_all]
  have e : ∀ u g w : Int, sg (sFixR u g w (sRem0 k s)) (2 + i) q = (sRem0 k s).1 (2 + i) q := fun u g w => if_neg (fun hh => hq hh.1)
  rw [e, rem0_g h0 h1]
  rfl
theorem rem_5 : sg (sRem k s) 0 5 = sg s 0 5 - 1 := by
  rw [← rem_all]
  have e : ∀ u g w : Int, sg (sFixR u g w (sRem0 k s)) 0 5 = sg (sRem0 k s) 0 5 := fun u g w => by
    show (if (5 : Int) = 2 ∧ 2 ≤ (0 : Int) ∧ (0 : Int) < 2 + u ∧ (sRem0 k s).1 0 2 = g then w else (sRem0 k s).1 0 5) = (sRem0 k s).1 0 5
    exact if_neg (fun hh => by have := hh.1; omega)
  rw [e, rem0_5]
theorem rem_o {a q : Int} (h : a = 0 ∧ q ≠ 5 ∧ q ≠ 2 ∨ a = 1) : sg (sRem k s) a q = sg s a q := by
  have e : sg (sRem k s) a q = (if a = 0 ∧ q = 5 then s.1 0 5 - 1 else if 2 ≤ a ∧ a < 2 + (s.1 0 5 - 1) then
    (if q = 2 ∧ s.1 (if a < 2 + k then a else a + 1) 2 = s.1 (2 + k) 0 then s.1 (2 + k) 2 else s.1 (if a < 2 + k then a else a + 1) q) else s.1 a q) := rfl
  rw [e, if_neg (by omega), if_neg (by omega)]
  rfl
theorem rem_h {i : Int} : sh (sRem k s) i = sh s (if i < k then i else i + 1) := by
  show (if i < k then s.2.1 i else s.2.1 (i + 1)) = _
  unfold sh
  split <;> rfl
theorem SW.rem (hW : SW x s B) (h0 : 0 ≤ k) (h1 : k < sg s 0 5) : SW x (sRem k s) B := by
  obtain ⟨h12, hv, hb, hu, hq, h6, h29, h5, h30, h10⟩ := hW
  have e0 : ∀ i, i ≠ 5 → i ≠ 2 → sg (sRem k s) 0 i = sg s 0 i := fun i g1 g2 => rem_o (Or.inl ⟨rfl, g1, g2⟩)
  refine ⟨by rw [e0 12 (by decide) (by decide)]; exact h12, fun a g1 g2 => by rw [rem_o (Or.inr rfl)]; exact hv a g1 g2, fun i g1 g2 => ?_, hu, hq, by rw [e0 6 (by decide) (by decide)]; exact h6, by rw [e0 29 (by decide) (by decide)]; exact h29, by rw [rem_5]; omega, by rw [e0 30 (by decide) (by decide)]; exact h30, by rw [e0 10 (by decide) (by decide)]; exact h10⟩
  rw [rem_5] at g2
  have hbb := hb (if i < k then i else i + 1) (by split <;> omega) (by split <;> omega)
  unfold BrW at hbb ⊢
  rw [e0 6 (by decide) (by decide), e0 30 (by decide) (by decide), rem_g g1 g2 (by decide), rem_g g1 g2 (by decide), rem_g g1 g2 (by decide), rem_g g1 g2 (by decide), rem_g g1 g2 (by decide), rem_h]
  exact hbb
theorem val_e (hC : CR m0 m s B) (h0 : 0 ≤ a) (h1 : a < 6) : fm_X8_value a m = some (sg s 1 a) := by
  unfold fm_X8_value
  simp only [lx_p]
  rw [if_neg (by omega), if_pos h1, gd_t ⟨h0, h1⟩, hC.c18 h0 h1]
theorem end_e (hC : CR m0 m s B) (X : XC m0 x) (hW : SW x s B) (hB : B < 268435456) (hs : x.1 3 ≤ x.1 0) (hk : 0 ≤ k) (hk2 : k < sg s 0 5) : ∃ m', fm_X4_endBranch (m 19 k) m = some (0, m') ∧ CR m0 m' (sEnd x k s) (B + 1) ∧ SW x (sEnd x k s) (B + 1) := by
  have ho := hC.ob hk (by have := hC.th.2.2; omega)
  have hv := hW.2.1 0 (by decide) (by decide)
  unfold sEnd
  by_cases c : sg s (2 + k) 0 = 0
  · obtain ⟨m1, f1, f2⟩ := command_e (k := 14) (a := sg s 1 0) (b := 0) hC X hW hB hs (by decide) (by decide) hv.1 (by omega) (by decide) (by decide)
    have hc := hW.cmd (c := 14) (a := sg s 1 0) (b := 0) hs
    have e : fm_X4_endBranch (m 19 k) m = (if (sCmd x 14 (sg s 1 0) 0 s).1 < 0 then some (0, m1) else some (0, mset m1 17 9 14)) := by
      unfold fm_X4_endBranch
      simp only [lx_p]
      rw [gd_t ho.2.2, hC.br hk hk2 (by decide) (by decide), if_pos c, bp_t (val_e hC (by decide) (by decide)), bd_t f1]
      simp only [up_t]
    rw [e, if_pos c]
    generalize hr : sCmd x 14 (sg s 1 0) 0 s = r at f2 hc
    obtain ⟨r, s1⟩ := r
    simp only at f2 hc ⊢
    split
    · exact ⟨_, rfl, f2, hc.mono (by omega)⟩
    · exact ⟨_, rfl, f2.p17 (by decide) (by decide), (hc.s0 (by decide) (by decide) (by decide) (by decide) (by decide) (Or.inl (by decide))).mono (by omega)⟩
  · obtain ⟨m1, f1, f2, -⟩ := remove_e hC hk hk2
    rw [if_neg c]
    refine ⟨m1, ?_, f2.mono (by omega), (hW.rem hk hk2).mono (by omega)⟩
    unfold fm_X4_endBranch
    simp only [lx_p]
    rw [gd_t ho.2.2, hC.br hk hk2 (by decide) (by decide), if_neg c, bd_t f1]
theorem find_new (hW : SW x s B) (h1 : sg s 0 5 < 12) : find (sBegin p l s) (sg s 0 6) = sg s 0 5 := by
  have e5 : sg (sBegin p l s) 0 5 = sg s 0 5 + 1 := by rw [begin_g (by decide), if_neg (by omega), if_pos ⟨rfl, rfl⟩]
  have h5 := hW.2.2.2.2.2.2.2.1
  have en : sg (sBegin p l s) (2 + sg s 0 5) 0 = sg s 0 6 := by
    rw [begin_g (by omega), if_neg (by omega), if_neg (by omega), if_pos rfl]
    rfl
  rcases find_b (s := sBegin p l s) (v := sg s 0 6) with g | ⟨g1, g2, g3⟩
  · exact absurd en (sFind_n (by omega) 12 0 (by decide) rfl g (sg s 0 5) h5.1 (by omega))
  · by_cases c : find (sBegin p l s) (sg s 0 6) < sg s 0 5
    · rw [begin_g (by omega), if_neg (by omega), if_neg (by omega), if_neg (by omega)] at g3
      have := (hW.br g1 c).1
      omega
    · omega
theorem below_e (hC : CR m0 m s B) (hW : SW x s B) (hB : B < 268435456) (hk : 0 ≤ k) (hk2 : k < sg s 0 5) (l0 : 0 ≤ l) (l1 : l ≤ 24) : ∃ m', fm_X4_beginBelow (m 19 k) l m = some (if sg s 0 5 < 12 then m' 19 (sg s 0 5) else 0, m') ∧ CR m0 m' (sBelow k l s) B ∧ SW x (sBelow k l s) (B + 1) ∧ ∀ i, m' 19 i = m 19 i := by
  have ht := hC.th
  have ho := hC.ob hk (by omega)
  unfold sBelow
  by_cases c : sg s 0 5 < 12
  · obtain ⟨m1, f1, f2, f3⟩ := begin_e (p := sg s (2 + k) 0) (l := l) hC hW hB c
    rw [if_pos c]
    have hfn := find_e (v := sg s 0 6) f2
    rw [find_new hW c] at hfn
    have : obj m1 (sg s 0 5) = m1 19 (sg s 0 5) := if_neg (by omega)
    refine ⟨m1, ?_, f2, hW.begin c l0 l1, f3⟩
    rw [if_pos c]
    unfold fm_X4_beginBelow
    simp only [lx_p]
    rw [ht.1, if_pos c, gd_t ho.2.2, hC.br hk hk2 (by decide) (by decide), bd_t f1, bp_t hfn, this]
  · obtain ⟨m1, f1, f2⟩ := stuck_e (v := -1) hC
    rw [if_neg c]
    have h19 : ∀ i, m1 19 i = m 19 i := fun i => by
      unfold fm_X4_getStuck at f1
      rw [up_t, up_t] at f1
      cases f1
      rw [ms_a (by decide), ms_a (by decide)]
    refine ⟨m1, ?_, f2, hW.stk.mono (by omega), h19⟩
    rw [if_neg c]
    unfold fm_X4_beginBelow
    simp only [lx_p]
    rw [ht.1, if_neg c, bd_t f1]
theorem race_e (hC : CR m0 m s B) (hW : SW x s B) (hB : B < 268435456) (hk : 0 ≤ k) (hk2 : k < sg s 0 5) (l0 : 0 ≤ l) (l1 : l ≤ 24) : ∃ m1 m' o, fm_X4_beginBelow (m 19 k) l m = some (o, m1) ∧ fm_X4_race (m 19 k) o m1 = some (0, m') ∧ CR m0 m' (sRace k l s) B ∧ SW x (sRace k l s) (B + 1) := by
  obtain ⟨m1, f1, f2, f3, f4⟩ := below_e (l := l) hC hW hB hk hk2 l0 l1
  have ht := hC.th
  have h5 := hW.2.2.2.2.2.2.2.1
  unfold sRace
  unfold sBelow at f2 f3
  by_cases c : sg s 0 5 < 12
  · rw [if_pos c] at f1 f2 f3
    rw [if_pos c]
    simp only
    generalize hS : sBegin (sg s (2 + k) 0) l s = s1 at f2 f3
    have e5 : sg s1 0 5 = sg s 0 5 + 1 := by subst hS; rw [begin_g (by decide), if_neg (by omega), if_pos ⟨rfl, rfl⟩]
    have hok := f2.ob hk (by omega)
    have hon := f2.ob (k := sg s 0 5) (by omega) (by omega)
    rw [f4] at hok
    have hne : m 19 k ≠ m1 19 (sg s 0 5) := fun hh => by
      rw [← f4 k] at hh
      have := f2.inj hk (by omega) h5.1 c hh
      omega
    have ek : ∀ q, 0 ≤ q → q ≤ 9 → m1 (m 19 k) q = sg s1 (2 + k) q := fun q q1 q2 => by
      have := f2.br hk (by omega) q1 q2
      rw [f4] at this
      exact this
    -- the last two writes
    have fin : ∀ (m2 : MM) (s2 : TS), CR m0 m2 s2 B → SW x s2 (B + 1) → sg s2 0 5 = sg s 0 5 + 1 → (∀ i, m2 19 i = m1 19 i) → ∃ m', fj_X4_race_26 (m 19 k) (m1 19 (sg s 0 5)) m2 = some (0, m') ∧ CR m0 m' (st (st s2 (2 + k) 3 (sg s2 (2 + sg s 0 5) 0)) (2 + sg s 0 5) 3 (sg s2 (2 + k) 0)) B ∧ SW x (st (st s2 (2 + k) 3 (sg s2 (2 + sg s 0 5) 0)) (2 + sg s 0 5) 3 (sg s2 (2 + k) 0)) (B + 1) := by
      intro m2 s2 g1 g2 g3 g4
      have q1 := g1.ob hk (by omega)
      have q2 := g1.ob (k := sg s 0 5) (by omega) (by omega)
      rw [g4, f4] at q1
      rw [g4] at q2
      have r1 : m2 (m1 19 (sg s 0 5)) 0 = sg s2 (2 + sg s 0 5) 0 := by
        have := g1.br (k := sg s 0 5) (by omega) (by omega) (j := 0) (by decide) (by decide)
        rw [g4] at this
        exact this
      have r2 : m2 (m 19 k) 0 = sg s2 (2 + k) 0 := by
        have := g1.br hk (by omega) (j := 0) (by decide) (by decide)
        rw [g4, f4] at this
        exact this
      have w1 := g1.pB (k := k) (j := 3) (v := sg s2 (2 + sg s 0 5) 0) hk (by omega) (by decide) (by decide)
      rw [g4, f4] at w1
      have e05 : sg (st s2 (2 + k) 3 (sg s2 (2 + sg s 0 5) 0)) 0 5 = sg s 0 5 + 1 := by rw [st_g, if_neg (by omega)]; exact g3
      have w2 := w1.pB (k := sg s 0 5) (j := 3) (v := sg s2 (2 + k) 0) h5.1 (by omega) (by decide) (by decide)
      rw [ms_a (by omega), g4] at w2
      refine ⟨_, ?_, w2, (g2.s6 hk (Or.inr (Or.inr (Or.inl rfl)))).s6 h5.1 (Or.inr (Or.inr (Or.inl rfl)))⟩
      unfold fj_X4_race_26
      simp only [lx_p, up_t]
      rw [gd_t q2.2.2, gd_t q1.2.2, r1, ms_j (by decide), r2]
    have hf := find_e (v := sg s1 (2 + k) 3) f2
    have hfb := find_b (s := s1) (v := sg s1 (2 + k) 3)
    by_cases cf : find s1 (sg s1 (2 + k) 3) < 0
    · rw [if_pos cf]
      obtain ⟨m', g1, g2, g3⟩ := fin m1 s1 f2 f3 e5 (fun _ => rfl)
      refine ⟨m1, m', _, f1, ?_, g2, g3⟩
      have eo : obj m1 (find s1 (sg s1 (2 + k) 3)) = 0 := if_pos cf
      unfold fm_X4_race
      simp only [lx_p]
      rw [if_neg (by omega), gd_t hok.2.2, ek 3 (by decide) (by decide), bp_t hf, eo, if_pos rfl]
      exact g1
    · rw [if_neg cf]
      obtain ⟨c1, c2, c3⟩ := hfb.resolve_left (by omega)
      have hof := f2.ob c1 (by omega)
      have w := f2.pB (k := find s1 (sg s1 (2 + k) 3)) (j := 3) (v := -1) c1 c2 (by decide) (by decide)
      obtain ⟨m', g1, g2, g3⟩ := fin _ _ w (f3.s6 c1 (Or.inr (Or.inr (Or.inl rfl)))) (by rw [st_g, if_neg (by omega)]; exact e5) (fun i => ms_a (by omega))
      refine ⟨m1, m', _, f1, ?_, g2, g3⟩
      have eo : obj m1 (find s1 (sg s1 (2 + k) 3)) = m1 19 (find s1 (sg s1 (2 + k) 3)) := if_neg cf
      unfold fm_X4_race
      simp only [lx_p, up_t]
      rw [if_neg (by omega), gd_t hok.2.2, ek 3 (by decide) (by decide), bp_t hf, eo, if_neg (by omega), gd_t hof.2.2]
      exact g1
  · rw [if_neg c] at f1 f2 f3
    rw [if_neg c]
    refine ⟨m1, m1, _, f1, ?_, f2, f3⟩
    unfold fm_X4_race
    rw [if_pos rfl]
theorem doom_e (hB : 0 ≤ B) : ∀ (n f : Nat) (k : Int) (s : TS) (m : MM), 0 ≤ k → k + n = 12 → n < f → CR m0 m s B → SW x s B → ∃ m', fl_X8_doom_7 f k m = some (0, m') ∧ CR m0 m' (sDoomL n k s) B ∧ SW x (sDoomL n k s) B := by
  intro n
  induction n with
  | zero =>
    intro f k s m h0 h1 h2 hC hW
    obtain ⟨f, rfl⟩ : ∃ g, f = g + 1 := ⟨f - 1, by omega⟩
    have ht := hC.th
    unfold fl_X8_doom_7 sDoomL
    simp only [lx_p]
    rw [ht.1, if_neg (by omega)]
    exact ⟨m, rfl, hC, hW⟩
  | succ n ih =>
    intro f k s m h0 h1 h2 hC hW
    obtain ⟨f, rfl⟩ : ∃ g, f = g + 1 := ⟨f - 1, by omega⟩
    have ht := hC.th
    unfold fl_X8_doom_7 sDoomL
    simp only [lx_p, up_t]
    rw [ht.1]
    by_cases c : k < sg s 0 5
    · have ho := hC.ob h0 (by omega)
      have hf := find_e (v := sg s (2 + k) 2) hC
      have hfb := find_b (s := s) (v := sg s (2 + k) 2)
      rw [if_pos c, if_pos c, if_pos (by omega), gd_t ⟨h0, by omega⟩, gd_t ho.2.2, hC.br h0 c (by decide) (by decide), bp_t hf, w32_id (by omega) (by omega)]
      by_cases cf : find s (sg s (2 + k) 2) < 0
      · have eo : obj m (find s (sg s (2 + k) 2)) = 0 := if_pos cf
        rw [eo, if_pos rfl, if_pos cf]
        exact ih f (k + 1) s m (by omega) (by omega) (by omega) hC hW
      · obtain ⟨c1, c2, c3⟩ := hfb.resolve_left (by omega)
        obtain ⟨o1, o2⟩ := obj_pos hC c1 c2
        have hof := hC.ob c1 (by omega)
        rw [o1, if_neg o2, if_neg cf, gd_t hof.2.2, hC.br c1 c2 (by decide) (by decide)]
        by_cases c9 : sg s (2 + find s (sg s (2 + k) 2)) 9 = 0
        · rw [if_pos c9, if_pos c9]
          exact ih f (k + 1) s m (by omega) (by omega) (by omega) hC hW
        · rw [if_neg c9, if_neg c9]
          exact ih f (k + 1) _ _ (by omega) (by omega) (by omega) (hC.pB (v := 1) h0 c (j := 9) (by decide) (by decide)) (hW.s6 h0 (Or.inr (Or.inl rfl)))
    · rw [if_neg c, if_neg c]
      exact ⟨m, rfl, hC, hW⟩
end RAC
