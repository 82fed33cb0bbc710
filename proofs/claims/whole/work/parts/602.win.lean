/-! THE TELLING: WIN, drops, UNDO, PATCH, BARE. -/
section WIN
variable {m0 m m' M : MM} {x : CX} {s : TS} {B : Int} {a b c e j v k h n l w p g t : Int}
theorem sn_doomL : ∀ (n : Nat) (k : Int) (s : TS), sn (sDoomL n k s) = sn s ∧ sg (sDoomL n k s) 0 5 = sg s 0 5 ∧ sg (sDoomL n k s) 0 30 = sg s 0 30 := by
  intro n
  induction n with
  | zero => intro k s; exact ⟨rfl, rfl, rfl⟩
  | succ n ih =>
    intro k s
    unfold sDoomL
    split
    · split
      · exact ih _ _
      · split
        · exact ih _ _
        · rename_i h1 h2 h3
          obtain ⟨g1, g2, g3⟩ := ih (k + 1) (st s (2 + k) 9 1)
          refine ⟨g1, ?_, ?_⟩
          · rw [g2]
            by_cases hk : 2 + k = 0
            · rw [st_g, if_neg (by omega)]
            · rw [st_g, if_neg (by omega)]
          · rw [g3, st_g, if_neg (by omega)]
    · exact ⟨rfl, rfl, rfl⟩
theorem nl_win : nl s ≤ nl (sWin x k s) := by
  unfold sWin
  simp only
  split
  · exact Int.le_refl _
  · split
    · split
      · generalize hs1 : st (st s (2 + k) 3 (-1)) (2 + find s (sg s (2 + k) 3)) 3 (-1) = s1
        have h0 : nl s = nl s1 := by subst hs1; rfl
        have hh := nl_cmd (x := x) (a := 11) (b := sg s1 (2 + find s (sg s (2 + k) 3)) 8) (c := 0) (s := s1)
        rw [h0]
        generalize hr : sCmd x 11 (sg s1 (2 + find s (sg s (2 + k) 3)) 8) 0 s1 = r at hh
        obtain ⟨r, s2⟩ := r
        simp only
        split
        · exact hh
        · have e : nl (sDoom k (sGo (find s (sg s (2 + k) 3)) (sg s2 (2 + k) 4) s2)) = nl s2 := by
            unfold nl sDoom
            rw [(sn_doomL _ _ _).1]
            rfl
          rw [e]
          exact hh
      · unfold nl sDoom
        rw [(sn_doomL _ _ _).1]
        exact Int.le_refl _
    · unfold nl sDoom
      rw [(sn_doomL _ _ _).1]
      exact Int.le_refl _
theorem doomP_e (hC : CR m0 m s B) (hW : SW x s B) (hk : 0 ≤ k) (hk2 : k < sg s 0 5) : ∃ m', fm_X8_doom (m 19 k) m = some (0, m') ∧ CR m0 m' (sDoom k s) B ∧ SW x (sDoom k s) B := by
  have ho := hC.ob hk (by have := hC.th.2.2; omega)
  obtain ⟨m', g1, g2, g3⟩ := doom_e (x := x) hC.len 12 BIG 0 _ _ (by decide) rfl (BIG_g (by omega)) (hC.pB (v := 1) hk hk2 (j := 9) (by decide) (by decide)) (hW.s6 hk (Or.inr (Or.inl rfl)))
  refine ⟨m', ?_, g2, g3⟩
  unfold fm_X8_doom
  rw [gd_t ho.2.2, up_t]
  exact g1
theorem win_e (hC : CR m0 m s B) (X : XC m0 x) (hW : SW x s B) (hB : B < 268435456) (hs : x.1 3 ≤ x.1 0) (hN : x.1 0 + nl s ≤ 524288) (hg : sg s 0 30 = 0) (hk : 0 ≤ k) (hk2 : k < sg s 0 5) : ∃ m', fm_X4_win (m 19 k) m = some (0, m') ∧ CR m0 m' (sWin x k s) (B + 1) ∧ SW x (sWin x k s) (B + 1) := by
  have ht := hC.th
  have ho := hC.ob hk (by omega)
  have hf := find_e (v := sg s (2 + k) 3) hC
  have hfb := find_b (s := s) (v := sg s (2 + k) 3)
  unfold sWin
  simp only
  by_cases cf : find s (sg s (2 + k) 3) < 0
  · have eo : obj m (find s (sg s (2 + k) 3)) = 0 := if_pos cf
    rw [if_pos cf]
    refine ⟨m, ?_, hC.mono (by omega), hW.mono (by omega)⟩
    unfold fm_X4_win
    simp only [lx_p]
    rw [gd_t ho.2.2, hC.br hk hk2 (by decide) (by decide), bp_t hf, eo, if_pos rfl]
  · obtain ⟨c1, c2, c3⟩ := hfb.resolve_left (by omega)
    obtain ⟨o1, o2⟩ := obj_pos hC c1 c2
    rw [if_neg cf]
    generalize hoo : find s (sg s (2 + k) 3) = o at hf c1 c2 o1 o2
    have hof := hC.ob c1 (by omega)
    have w1 := hC.pB (k := k) (j := 3) (v := -1) hk hk2 (by decide) (by decide)
    have w2 := w1.pB (k := o) (j := 3) (v := -1) c1 (by rw [st_g, if_neg (by omega)]; exact c2) (by decide) (by decide)
    rw [ms_a (by omega)] at w2
    have v2 := (hW.s6 (v := -1) hk (Or.inr (Or.inr (Or.inl rfl)))).s6 (j := 3) (v := -1) c1 (Or.inr (Or.inr (Or.inl rfl)))
    generalize hS1 : st (st s (2 + k) 3 (-1)) (2 + o) 3 (-1) = s1 at w2 v2
    generalize hM1 : mset (mset m (m 19 k) 3 (-1)) (m 19 o) 3 (-1) = m1 at w2
    have e5 : sg s1 0 5 = sg s 0 5 := by subst hS1; rw [st_g, if_neg (by omega), st_g, if_neg (by omega)]
    have e30 : sg s1 0 30 = 0 := by subst hS1; rw [st_g, if_neg (by omega), st_g, if_neg (by omega)]; exact hg
    have en : nl s1 = nl s := by subst hS1; rfl
    have e19 : ∀ i, m1 19 i = m 19 i := fun i => by subst hM1; rw [ms_a (by omega), ms_a (by omega)]
    have bo : ∀ q, 0 ≤ q → q ≤ 9 → m1 (m 19 o) q = sg s1 (2 + o) q := fun q q1 q2 => by
      have := w2.br c1 (by omega) q1 q2
      rw [e19] at this
      exact this
    have bk : ∀ q, 0 ≤ q → q ≤ 9 → m1 (m 19 k) q = sg s1 (2 + k) q := fun q q1 q2 => by
      have := w2.br hk (by omega) q1 q2
      rw [e19] at this
      exact this
    have ok1 := w2.ob hk (by omega)
    have ok2 := w2.ob c1 (by omega)
    rw [e19] at ok1 ok2
    have hd : fm_X4_win (m 19 k) m = (if sg s1 (2 + o) 0 = sg s1 (2 + k) 1 then
        (if sg s1 (2 + o) 7 = 1 ∨ sg s1 (2 + o) 7 = 2 then bd (fm_X4_command 11 (sg s1 (2 + o) 8) 0 m1) fun x_111 m_112 => (if x_111 < 0 then some (0, m_112) else fj_X4_win_70 (m 19 k) (m 19 o) m_112)
        else fj_X4_win_70 (m 19 k) (m 19 o) m1)
      else bd (fm_X8_doom (m 19 o) m1) fun x_127 m_128 => some (0, m_128)) := by
      unfold fm_X4_win
      simp only [lx_p, up_t]
      have okx : okc (mset m (m 19 k) 3 (-1)) (m 19 o) 2 := w1.1.k2 hof.1 hof.2.1
      rw [gd_t ho.2.2, hC.br hk hk2 (by decide) (by decide), bp_t hf, o1, if_neg o2, gd_t okx, hM1, bo 0 (by decide) (by decide), bk 1 (by decide) (by decide), bp_t (wfe_e c1), bo 7 (by decide) (by decide), bo 8 (by decide) (by decide)]
      by_cases q1 : sg s1 (2 + o) 0 = sg s1 (2 + k) 1
      · rw [if_pos q1, if_pos q1]
        by_cases q2 : sg s1 (2 + o) 7 = 1 ∨ sg s1 (2 + o) 7 = 2
        · rw [if_pos q2, if_pos q2, if_neg (by decide)]
        · rw [if_neg q2, if_neg q2, if_pos rfl]
      · rw [if_neg q1, if_neg q1]
    have h70 : ∀ (m2 : MM) (s2 : TS) (B' : Int), CR m0 m2 s2 B' → SW x s2 B' → sg s2 0 5 = sg s 0 5 → (∀ i : Int, 0 ≤ i → m2 19 i = m 19 i) → ∃ m', fj_X4_win_70 (m 19 k) (m 19 o) m2 = some (0, m') ∧ CR m0 m' (sDoom k (sGo o (sg s2 (2 + k) 4) s2)) B' ∧ SW x (sDoom k (sGo o (sg s2 (2 + k) 4) s2)) B' := by
      intro m2 s2 B' g1 g2 g3 g4
      have q1 := g1.ob hk (by omega)
      have q2 := g1.ob c1 (by omega)
      rw [g4 _ hk] at q1
      rw [g4 _ c1] at q2
      obtain ⟨k1, k2, -⟩ := g2.br hk (by omega)
      obtain ⟨m3, f1, f2, f3⟩ := go_e (l := sg s2 (2 + k) 4) g1 c1 (by omega) (g4 o c1)
      have e5' : sg (sGo o (sg s2 (2 + k) 4) s2) 0 5 = sg s 0 5 := by rw [go_g, if_neg (by omega), if_neg (by omega)]; exact g3
      obtain ⟨m4, r1, r2, r3⟩ := doomP_e f2 (g2.go c1 k2.1 k2.2) hk (by rw [e5']; exact hk2)
      rw [f3, g4 _ hk] at r1
      refine ⟨m4, ?_, r2, r3⟩
      have e4 : m2 (m 19 k) 4 = sg s2 (2 + k) 4 := by
        have := g1.br hk (by omega) (j := 4) (by decide) (by decide)
        rw [g4 _ hk] at this
        exact this
      unfold fj_X4_win_70
      simp only [lx_p]
      rw [gd_t q1.2.2, e4, gd_t q2.2.2, bd_t f1, bd_t r1]
    rw [hd]
    by_cases q1 : sg s1 (2 + o) 0 = sg s1 (2 + k) 1
    · rw [if_pos q1, if_pos q1]
      by_cases q2 : sg s1 (2 + o) 7 = 1 ∨ sg s1 (2 + o) 7 = 2
      · have hw := (v2.br c1 (by omega)).2.2.2.2.1 q2 e30
        have en2 : nl s1 = ((sn s1).length : Int) := rfl
        rw [if_pos q2, if_pos q2]
        obtain ⟨m2, f1, f2⟩ := command_e (k := 11) (a := sg s1 (2 + o) 8) (b := 0) w2 X v2 hB hs (by decide) (by decide) hw.1 (by omega) (by decide) (by decide)
        have hc := v2.cmd (c := 11) (a := sg s1 (2 + o) 8) (b := 0) hs
        have g5 : sg (sCmd x 11 (sg s1 (2 + o) 8) 0 s1).2 0 5 = sg s 0 5 := (cmd_g (Or.inr ⟨by decide, by decide, by decide⟩)).trans e5
        have h19 : ∀ i : Int, 0 ≤ i → m2 19 i = m 19 i := fun i hi => (cmd19 w2.1 f1 hi).trans (e19 i)
        rw [bd_t f1]
        generalize hr : sCmd x 11 (sg s1 (2 + o) 8) 0 s1 = r at f2 hc g5
        obtain ⟨r, s2⟩ := r
        simp only at f2 hc g5 ⊢
        by_cases cr : r < 0
        · rw [if_pos cr, if_pos cr]
          exact ⟨_, rfl, f2, hc.mono (by omega)⟩
        · rw [if_neg cr, if_neg cr]
          exact h70 m2 s2 (B + 1) f2 (hc.mono (by omega)) g5 h19
      · rw [if_neg q2, if_neg q2]
        obtain ⟨m', g1, g2, g3⟩ := h70 m1 s1 B w2 v2 e5 (fun i _ => e19 i)
        exact ⟨m', g1, g2.mono (by omega), g3.mono (by omega)⟩
    · rw [if_neg q1, if_neg q1]
      obtain ⟨m4, r1, r2, r3⟩ := doomP_e w2 v2 c1 (by omega)
      rw [e19] at r1
      rw [bd_t r1]
      exact ⟨m4, rfl, r2.mono (by omega), r3.mono (by omega)⟩
theorem nl_drop1 : ∀ (n : Nat) (k : Int) (s : TS), nl s ≤ nl (sDrop1 x n k s) := by
  intro n
  induction n with
  | zero => intro k s; exact Int.le_refl _
  | succ n ih =>
    intro k s
    unfold sDrop1
    split
    · split
      · split
        · exact Int.le_trans nl_cmd (ih _ _)
        · exact ih _ _
      · exact Int.le_refl _
    · exact Int.le_refl _
theorem nl_drop2 : ∀ (n : Nat) (k : Int) (s : TS), nl (sDrop2 n k s) = nl s := by
  intro n
  induction n with
  | zero => intro k s; rfl
  | succ n ih =>
    intro k s
    unfold sDrop2
    split
    · rfl
    · split
      · exact ih _ _
      · exact ih _ _
theorem drop1_e {K : MM → Option (Int × MM)} (X : XC m0 x) (hs : x.1 3 ≤ x.1 0) : ∀ (n f : Nat) (k : Int) (s : TS) (m : MM) (B : Int), 0 ≤ k → k ≤ 12 → 12 - k < n → n ≤ f → CR m0 m s B → SW x s B → B + n < 268435456 → x.1 0 + nl (sDrop1 x n k s) ≤ 524288 → ∃ m', fl_X4_dropDoomed_2 K f k m = K m' ∧ CR m0 m' (sDrop1 x n k s) (B + n) ∧ SW x (sDrop1 x n k s) (B + n) := by
  intro n
  induction n with
  | zero => intro f k s m B h1 h2 h3; omega
  | succ n ih =>
    intro f k s m B h1 h2 h3 h4 hC hW hB hN
    obtain ⟨f, rfl⟩ : ∃ g, f = g + 1 := ⟨f - 1, by omega⟩
    have ht := hC.th
    have hC2 := hC.mono (B' := B + (n + 1 : Nat)) (by omega)
    have hW2 := hW.mono (B' := B + (n + 1 : Nat)) (by omega)
    unfold fl_X4_dropDoomed_2
    unfold sDrop1 at hN ⊢
    simp only [lx_p]
    rw [ht.1]
    by_cases c1 : k < sg s 0 5
    · rw [if_pos c1] at hN
      rw [if_pos c1, if_pos c1, bp_t (goes_e hC)]
      by_cases cg : goes s = true
      · have ho := hC.ob h1 (by omega)
        rw [if_pos cg] at hN
        rw [if_pos cg, if_pos cg, if_neg (by decide), bp_t (branchAt_e hC h1), if_pos c1, if_neg (by omega), gd_t ho.2.2, hC.br h1 c1 (by decide) (by decide), w32_id (by omega) (by omega), bp_t (wfe_e h1), hC.br h1 c1 (by decide) (by decide), hC.br h1 c1 (by decide) (by decide)]
        by_cases c9 : sg s (2 + k) 9 = 0
        · rw [if_neg (fun hh => hh.1 c9)] at hN
          rw [if_pos c9, if_neg (fun hh => hh.1 c9)]
          obtain ⟨m', g1, g2, g3⟩ := ih f (k + 1) s m B (by omega) (by omega) (by omega) (by omega) hC hW (by omega) hN
          exact ⟨m', g1, g2.mono (by omega), g3.mono (by omega)⟩
        · rw [if_neg c9]
          by_cases c7 : sg s (2 + k) 7 = 1 ∨ sg s (2 + k) 7 = 2
          · rw [if_pos ⟨c9, c7⟩] at hN
            have hw8 := (hW.br h1 c1).2.2.2.2.1 c7 (goes_s cg).1
            have hnl := nl_drop1 (x := x) n (k + 1) (sCmd x 11 (sg s (2 + k) 8) 0 s).2
            have hnl2 := nl_cmd (x := x) (a := 11) (b := sg s (2 + k) 8) (c := 0) (s := s)
            have e8 : nl s = ((sn s).length : Int) := rfl
            rw [if_pos c7, if_neg (by decide), if_pos ⟨c9, c7⟩]
            obtain ⟨m1, f1, f2⟩ := command_e (k := 11) (a := sg s (2 + k) 8) (b := 0) hC X hW (by omega) hs (by decide) (by decide) hw8.1 (by omega) (by decide) (by decide)
            have hW1 := hW.cmd (c := 11) (a := sg s (2 + k) 8) (b := 0) hs
            rw [bd_t f1]
            obtain ⟨m', g1, g2, g3⟩ := ih f (k + 1) _ m1 (B + 1) (by omega) (by omega) (by omega) (by omega) f2 (hW1.mono (by omega)) (by omega) hN
            exact ⟨m', g1, g2.mono (by omega), g3.mono (by omega)⟩
          · rw [if_neg (fun hh => c7 hh.2)] at hN
            rw [if_neg c7, if_pos rfl, if_neg (fun hh => c7 hh.2)]
            obtain ⟨m', g1, g2, g3⟩ := ih f (k + 1) s m B (by omega) (by omega) (by omega) (by omega) hC hW (by omega) hN
            exact ⟨m', g1, g2.mono (by omega), g3.mono (by omega)⟩
      · rw [if_neg cg, if_neg cg, if_pos rfl]
        exact ⟨m, rfl, hC2, hW2⟩
    · rw [if_neg c1, if_neg c1]
      exact ⟨m, rfl, hC2, hW2⟩
theorem drop2_e : ∀ (n f : Nat) (k : Int) (s : TS) (m : MM), -1 ≤ k → k < sg s 0 5 → k + 1 < n → n ≤ f → CR m0 m s B → SW x s B → ∃ m', fl_X4_dropDoomed_75 f k m = some (0, m') ∧ CR m0 m' (sDrop2 n k s) B ∧ SW x (sDrop2 n k s) B := by
  intro n
  induction n with
  | zero => intro f k s m h1 h2 h3; omega
  | succ n ih =>
    intro f k s m h1 h2 h3 h4 hC hW
    obtain ⟨f, rfl⟩ : ∃ g, f = g + 1 := ⟨f - 1, by omega⟩
    have ht := hC.th
    unfold fl_X4_dropDoomed_75 sDrop2
    simp only [lx_p]
    by_cases c0 : k < 0
    · rw [if_pos c0, if_pos c0]
      exact ⟨m, rfl, hC, hW⟩
    · have ho := hC.ob (k := k) (by omega) (by omega)
      rw [if_neg c0, if_neg c0, bp_t (branchAt_e hC (by omega)), if_pos h2, if_neg (by omega), gd_t ho.2.2, hC.br (by omega) h2 (by decide) (by decide), w32_id (by omega) (by omega)]
      have ek : k + (-1) = k - 1 := by omega
      rw [ek]
      by_cases c9 : sg s (2 + k) 9 = 0
      · rw [if_pos c9, if_pos c9]
        exact ih f (k - 1) s m (by omega) (by omega) (by omega) (by omega) hC hW
      · rw [if_neg c9, if_neg c9]
        obtain ⟨m1, f1, f2, f3⟩ := remove_e hC (by omega) h2
        rw [bd_t f1]
        exact ih f (k - 1) _ m1 (by omega) (by rw [rem_5]; omega) (by omega) (by omega) f2 (hW.rem (by omega) h2)
theorem drop_e (hC : CR m0 m s B) (X : XC m0 x) (hW : SW x s B) (hB : B + 13 < 268435456) (hs : x.1 3 ≤ x.1 0) (hN : x.1 0 + nl (sDrop x s) ≤ 524288) : ∃ m', fm_X4_dropDoomed m = some (0, m') ∧ CR m0 m' (sDrop x s) (B + 13) ∧ SW x (sDrop x s) (B + 13) := by
  have eN : nl (sDrop x s) = nl (sDrop1 x 13 0 s) := nl_drop2 _ _ _
  obtain ⟨m1, f1, f2, f3⟩ := drop1_e (K := fun m_124 => fl_X4_dropDoomed_75 BIG (w32 (m_124 17 5 - 1)) m_124) X hs 13 BIG 0 s m B (by decide) (by decide) (by decide) (by decide) hC hW (by omega) (by rw [← eN]; exact hN)
  have ht := f2.th
  obtain ⟨m2, g1, g2, g3⟩ := drop2_e (x := x) 13 BIG (sg (sDrop1 x 13 0 s) 0 5 - 1) _ m1 (by omega) (by omega) (by omega) (by decide) f2 f3
  refine ⟨m2, ?_, g2, g3⟩
  unfold fm_X4_dropDoomed
  simp only [lx_p]
  rw [f1, ht.1, w32_id (by omega) (by omega)]
  exact g1
end WIN
