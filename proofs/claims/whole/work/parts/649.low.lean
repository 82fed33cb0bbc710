/-! THE TELLING, plain: while a branch goes on, no lower one can. -/
section LOW
variable {x : CX} {s s' s1 s2 : TS} {B : Int} {a b c d e i j v k h n l w p r t o q u : Int}
def LOW (s : TS) (k : Int) : Prop := ∀ j : Int, 0 ≤ j → j < k → sAble s j = false
/-- what lower branches look at is the same -/
def LoR (s s' : TS) (k : Int) : Prop := (∀ j q : Int, 0 ≤ j → j < k → (q = 0 ∨ q = 7 ∨ q = 8) → sg s' (2 + j) q = sg s (2 + j) q) ∧ (∀ n, sq s' n = sq s n) ∧ ∀ j : Int, 0 ≤ j → j < k → hasKid s' (sg s (2 + j) 0) = hasKid s (sg s (2 + j) 0)
theorem LoR.tr (h : LoR s s1 k) (g : LoR s1 s2 k) : LoR s s2 k := by
  refine ⟨fun j q j0 j1 hq => (g.1 j q j0 j1 hq).trans (h.1 j q j0 j1 hq), fun n => (g.2.1 n).trans (h.2.1 n), fun j j0 j1 => ?_⟩
  have := g.2.2 j j0 j1
  rw [h.1 j 0 j0 j1 (Or.inl rfl)] at this
  exact this.trans (h.2.2 j j0 j1)
theorem LoR.low (h : LoR s s' k) (hL : LOW s k) : LOW s' k := by
  intro j j0 j1
  have := hL j j0 j1
  unfold sAble at this ⊢
  rw [h.1 j 7 j0 j1 (by omega), h.1 j 8 j0 j1 (by omega), h.1 j 0 j0 j1 (by omega), h.2.1, h.2.2 j j0 j1]
  exact this
theorem kid_iff (h5 : sg s 0 5 ≤ 12) : hasKid s v = true ↔ ∃ i : Int, 0 ≤ i ∧ i < sg s 0 5 ∧ sg s (2 + i) 1 = v := by
  unfold hasKid
  rw [decide_eq_true_eq]
  constructor
  · intro h
    obtain ⟨g1, g2, g3⟩ := (sFind_b (s := s) (j := 1) (v := v) 12 0 (by decide)).resolve_left (by omega)
    exact ⟨_, g1, g2, g3⟩
  · rintro ⟨i, i0, i1, i2⟩
    rcases sFind_b (s := s) (j := 1) (v := v) 12 0 (by decide) with g | ⟨g1, -, -⟩
    · exact absurd i2 (sFind_n h5 12 0 (by decide) rfl g i i0 i1)
    · exact g1
theorem bool_iff {p q : Bool} (h : p = true ↔ q = true) : p = q := by
  cases p <;> cases q <;> simp_all
theorem kid_same (h5 : sg s' 0 5 = sg s 0 5) (h1 : ∀ i : Int, 0 ≤ i → sg s' (2 + i) 1 = sg s (2 + i) 1) : hasKid s' v = hasKid s v := by
  have key : ∀ (n : Nat) (k : Int), 0 ≤ k → sFind s' 1 v n k = sFind s 1 v n k := by
    intro n
    induction n with
    | zero => intro k _; rfl
    | succ n ih =>
      intro k hk
      unfold sFind
      rw [h5, h1 k hk, ih _ (by omega)]
  unfold hasKid
  rw [key 12 0 (by decide)]
/-- numbers, parents, queues are the same, and what other branches wait for -/
def SM (s s' : TS) (k : Int) : Prop := sg s' 0 5 = sg s 0 5 ∧ (∀ i : Int, 0 ≤ i → sg s' (2 + i) 0 = sg s (2 + i) 0) ∧ (∀ i : Int, 0 ≤ i → sg s' (2 + i) 1 = sg s (2 + i) 1) ∧ (∀ i q : Int, 0 ≤ i → i ≠ k → (q = 7 ∨ q = 8) → sg s' (2 + i) q = sg s (2 + i) q) ∧ s'.2.2.1 = s.2.2.1
theorem SM.tr (h : SM s s1 k) (g : SM s1 s2 k) : SM s s2 k := ⟨g.1.trans h.1, fun i i0 => (g.2.1 i i0).trans (h.2.1 i i0), fun i i0 => (g.2.2.1 i i0).trans (h.2.2.1 i i0), fun i q i0 hi hq => (g.2.2.2.1 i q i0 hi hq).trans (h.2.2.2.1 i q i0 hi hq), g.2.2.2.2.trans h.2.2.2.2⟩
theorem SM.of (h : ∀ a i : Int, (a = 0 ∧ i = 5) ∨ (2 ≤ a ∧ (i = 0 ∨ i = 1)) ∨ (2 ≤ a ∧ a ≠ 2 + k ∧ (i = 7 ∨ i = 8)) → sg s' a i = sg s a i) (hq : s'.2.2.1 = s.2.2.1) : SM s s' k :=
  ⟨h _ _ (by omega), fun i i0 => h _ _ (by omega), fun i i0 => h _ _ (by omega), fun i q i0 hi hq => h _ _ (by omega), hq⟩
theorem SM.lo (h : SM s s' k) : LoR s s' k := by
  refine ⟨fun j q j0 j1 hq => ?_, fun n => by unfold sq; rw [h.2.2.2.2], fun j j0 j1 => kid_same h.1 h.2.2.1⟩
  rcases hq with rfl | hq
  · exact h.2.1 j j0
  · exact h.2.2.2.1 j q j0 (by omega) hq
theorem SM.rf : SM s s k := SM.of (fun _ _ _ => rfl) rfl
theorem SM.sx (h : (a = 0 ∧ j ≠ 5) ∨ a = 1 ∨ (2 ≤ a ∧ j ≠ 0 ∧ j ≠ 1 ∧ (a = 2 + k ∨ (j ≠ 7 ∧ j ≠ 8)))) : SM s (st s a j v) k := SM.of (fun a' i hh => by rw [st_g, if_neg (by omega)]) rfl
theorem SM.go (k0 : 0 ≤ k) : SM s (sGo k l s) k := SM.of (fun a i hh => by rw [go_g, if_neg (by omega), if_neg (by omega)]) rfl
theorem SM.wait (k0 : 0 ≤ k) : SM s (sWait k w n s) k := SM.of (fun a i hh => by rw [wait_g, if_neg (by omega), if_neg (by omega)]) rfl
theorem SM.cmd : SM s (sCmd x c a b s).2 k := SM.of (fun a i hh => cmd_g (by omega)) cmd_l.2.1
theorem SM.fail (k0 : 0 ≤ k) : SM s (sFail x k s) k := by
  refine SM.of (fun a i hh => fail_a k0 (by omega) (by omega)) ?_
  unfold sFail
  split
  · rfl
  · show (if (sCmd x 15 0 0 (sGo k (sg s (2 + k) 4) s)).1 < 0 then (sCmd x 15 0 0 (sGo k (sg s (2 + k) 4) s)).2 else st (sCmd x 15 0 0 (sGo k (sg s (2 + k) 4) s)).2 0 9 15).2.2.1 = _
    split
    · exact cmd_l.2.1
    · exact cmd_l.2.1
theorem SM.cw {kd : Int} (k0 : 0 ≤ k) : SM s (match sCmd x kd a b s with
    | (r, s1) => sWait k w r s1) k := by
  show SM s (sWait k w (sCmd x kd a b s).1 (sCmd x kd a b s).2) k
  exact SM.cmd.tr (SM.wait k0)
theorem SM.endR {c : Int} : SM s (sEndR x c a s) k := by
  unfold sEndR
  show SM s (if (sCmd x c a 0 s).1 < 0 then (sCmd x c a 0 s).2 else st (sCmd x c a 0 s).2 0 9 c) k
  split
  · exact SM.cmd
  · exact SM.cmd.tr (SM.sx (by omega))
/-- what is to be shown of a line: the branch is where it was, if it is there, and lower ones see nothing of it -/
def LT (s s' : TS) (k : Int) : Prop := 0 ≤ find s' (sg s (2 + k) 0) → find s' (sg s (2 + k) 0) = k ∧ LoR s s' k
theorem SM.lt (h : SM s s' k) (hI : SI s) (h5 : sg s 0 5 ≤ 12) (k0 : 0 ≤ k) (k1 : k < sg s 0 5) : LT s s' k := by
  intro _
  refine ⟨?_, h.lo⟩
  have key : ∀ (v : Int) (n : Nat) (k : Int), 0 ≤ k → sFind s' 0 v n k = sFind s 0 v n k := by
    intro v n
    induction n with
    | zero => intro k _; rfl
    | succ n ih =>
      intro k hk
      unfold sFind
      rw [h.1, h.2.1 k hk, ih _ (by omega)]
  have : find s' (sg s (2 + k) 0) = find s (sg s (2 + k) 0) := key _ 12 0 (by decide)
  rw [this]
  exact find_at hI k0 k1 h5
theorem rem_kid (h5 : sg s 0 5 ≤ 12) (k0 : 0 ≤ k) (k1 : k < sg s 0 5) (hu : sg s (2 + k) 1 ≠ u) : hasKid (sRem k s) u = hasKid s u := by
  refine bool_iff ?_
  rw [kid_iff (by rw [rem_5]; omega), kid_iff h5]
  constructor
  · rintro ⟨i, i0, i1, i2⟩
    rw [rem_5] at i1
    rw [rem_g i0 i1 (by decide)] at i2
    exact ⟨_, by split <;> omega, by split <;> omega, i2⟩
  · rintro ⟨i, i0, i1, i2⟩
    have hne : i ≠ k := fun g => hu (by rw [← g]; exact i2)
    refine ⟨if i < k then i else i - 1, by split <;> omega, by rw [rem_5]; split <;> omega, ?_⟩
    rw [rem_g (by split <;> omega) (by split <;> omega) (by decide)]
    have : (if (if i < k then i else i - 1) < k then (if i < k then i else i - 1) else (if i < k then i else i - 1) + 1) = i := by
      by_cases c : i < k
      · rw [if_pos c, if_pos c]
      · rw [if_neg c, if_neg (by omega)]; omega
    rw [this]
    exact i2
theorem begin_kid (h5 : 0 ≤ sg s 0 5) (h1 : sg s 0 5 < 12) (hu : u ≠ p) : hasKid (sBegin p l s) u = hasKid s u := by
  refine bool_iff ?_
  rw [kid_iff (by rw [begin_5]; omega), kid_iff (by omega)]
  constructor
  · rintro ⟨i, i0, i1, i2⟩
    rw [begin_5] at i1
    by_cases c : i = sg s 0 5
    · rw [c, begin_n h5] at i2
      exact absurd i2.symm hu
    · rw [begin_b i0 (by omega)] at i2
      exact ⟨i, i0, by omega, i2⟩
  · rintro ⟨i, i0, i1, i2⟩
    exact ⟨i, i0, by rw [begin_5]; omega, by rw [begin_b i0 i1]; exact i2⟩
theorem begin_lo (hI : SI s) (h5 : 0 ≤ sg s 0 5) (h1 : sg s 0 5 < 12) (k0 : 0 ≤ k) (k1 : k < sg s 0 5) : LoR s (sBegin (sg s (2 + k) 0) l s) k :=
  ⟨fun j q j0 j1 _ => begin_b j0 (by omega), fun _ => rfl, fun j j0 j1 => begin_kid h5 h1 fun g => by
    have := num_inj hI j0 (by omega) k0 k1 g
    omega⟩
theorem LoR.st3 (h : LoR s s' k) (h3 : (2 ≤ a ∧ j ≠ 0 ∧ j ≠ 1 ∧ j ≠ 7 ∧ j ≠ 8) ∨ (a = 0 ∧ j ≠ 5)) : LoR s (st s' a j v) k := by
  refine h.tr ⟨fun i q i0 i1 hq => by rw [st_g, if_neg (by omega)], fun _ => rfl, fun i i0 i1 => ?_⟩
  exact kid_same (by rw [st_g, if_neg (by omega)]) fun i i0 => by rw [st_g, if_neg (by omega)]
theorem blw_ge (hI : SI s) (ho : 0 ≤ o) : ∀ (n : Nat) (p : Int), p < n → -1 ≤ p → p < sg s 0 6 → blw s o p → o ≤ p := by
  intro n
  induction n with
  | zero => intro p h0 h1 h2 h; rw [show p = -1 by omega] at h; exact absurd h (blw_m ho)
  | succ n ih =>
    intro p h0 h1 h2 h
    by_cases hp : p = -1
    · rw [hp] at h; exact absurd h (blw_m ho)
    · have hb := hI.2 p (by omega) h2
      rcases (blw_u hI (by omega) h2).mp h with g | g
      · omega
      · have := ih _ (by omega) hb.1 (by omega) g
        omega
theorem drop2_low : ∀ (n : Nat) (k : Int) (s : TS) (K : Int), 0 ≤ K → K < sg s 0 5 → sg s 0 5 ≤ 12 → k < sg s 0 5 → (∀ j : Int, 0 ≤ j → j ≤ K → sg s (2 + j) 9 = 0) → K < sg (sDrop2 n k s) 0 5 ∧ (∀ j q : Int, 0 ≤ j → j ≤ K → q ≠ 2 → sg (sDrop2 n k s) (2 + j) q = sg s (2 + j) q) ∧ (sDrop2 n k s).2.2 = s.2.2 ∧ ∀ u : Int, (∀ d : Int, 0 ≤ d → d < sg s 0 5 → sg s (2 + d) 9 ≠ 0 → sg s (2 + d) 1 ≠ u) → hasKid (sDrop2 n k s) u = hasKid s u := by
  intro n
  induction n with
  | zero => intro k s K K0 K1 h5 k1 h9; exact ⟨K1, fun _ _ _ _ _ => rfl, rfl, fun _ _ => rfl⟩
  | succ n ih =>
    intro k s K K0 K1 h5 k1 h9
    unfold sDrop2
    by_cases c : k < 0
    · rw [if_pos c]; exact ⟨K1, fun _ _ _ _ _ => rfl, rfl, fun _ _ => rfl⟩
    · rw [if_neg c]
      by_cases c9 : sg s (2 + k) 9 = 0
      · rw [if_pos c9]
        exact ih (k - 1) s K K0 K1 h5 (by omega) h9
      · rw [if_neg c9]
        have hKk : K < k := by
          by_cases q : K < k
          · exact q
          · exact absurd (h9 k (by omega) (by omega)) c9
        obtain ⟨g1, g2, g3, g4⟩ := ih (k - 1) (sRem k s) K K0 (by rw [rem_5]; omega) (by rw [rem_5]; omega) (by rw [rem_5]; omega) (fun j j0 j1 => by rw [rem_g j0 (by omega) (by decide), if_pos (by omega)]; exact h9 j j0 j1)
        refine ⟨g1, fun j q j0 j1 hq => ?_, g3, fun u hu => ?_⟩
        · rw [g2 j q j0 j1 hq, rem_g j0 (by omega) hq, if_pos (by omega)]
        · rw [g4 u fun d d0 d1 d9 => ?_]
          · exact rem_kid h5 (by omega) k1 (hu k (by omega) k1 c9)
          · rw [rem_5] at d1
            rw [rem_g d0 d1 (by decide)] at d9 ⊢
            exact hu _ (by split <;> omega) (by split <;> omega) d9
theorem drop2_mono (v : Int) : ∀ (n : Nat) (k : Int) (s : TS), SI s → sg s 0 5 ≤ 12 → k < sg s 0 5 → 0 ≤ find (sDrop2 n k s) v → 0 ≤ find s v := by
  intro n
  induction n with
  | zero => intro k s _ _ _ h; exact h
  | succ n ih =>
    intro k s hI h5 k1 h
    unfold sDrop2 at h
    by_cases c : k < 0
    · rw [if_pos c] at h; exact h
    · rw [if_neg c] at h
      split at h
      · exact ih _ _ hI h5 (by omega) h
      · have := ih _ _ (rem_si hI) (by rw [rem_5]; omega) (by rw [rem_5]; omega) h
        exact ((rem_there hI h5 (by omega) k1).mp this).1
/-- a doomed branch is there no more -/
theorem drop2_gone : ∀ (n : Nat) (k : Int) (s : TS) (j : Int), SI s → sg s 0 5 ≤ 12 → k < sg s 0 5 → k + 1 ≤ n → 0 ≤ j → j ≤ k → sg s (2 + j) 9 ≠ 0 → ¬ 0 ≤ find (sDrop2 n k s) (sg s (2 + j) 0) := by
  intro n
  induction n with
  | zero => intro k s j _ _ _ h1 h2 h3; omega
  | succ n ih =>
    intro k s j hI h5 k1 h1 h2 h3 h9 h
    unfold sDrop2 at h
    rw [if_neg (by omega)] at h
    by_cases c9 : sg s (2 + k) 9 = 0
    · rw [if_pos c9] at h
      have hjk : j ≠ k := fun g => h9 (by rw [g]; exact c9)
      exact ih (k - 1) s j hI h5 (by omega) (by omega) h2 (by omega) h9 h
    · rw [if_neg c9] at h
      by_cases hjk : j = k
      · have := drop2_mono _ _ _ _ (rem_si hI) (by rw [rem_5]; omega) (by rw [rem_5]; omega) h
        have := (rem_there hI h5 (by omega) k1).mp this
        rw [hjk] at this
        exact this.2 rfl
      · have e : ∀ q : Int, q ≠ 2 → sg (sRem k s) (2 + j) q = sg s (2 + j) q := fun q hq => by rw [rem_g h2 (by omega) hq, if_pos (by omega)]
        exact ih (k - 1) (sRem k s) j (rem_si hI) (by rw [rem_5]; omega) (by rw [rem_5]; omega) (by omega) h2 (by omega) (by rw [e 9 (by decide)]; exact h9) (by rw [e 0 (by decide)]; exact h)
/-- in the first round of drops only commands come -/
theorem drop1_sm : ∀ (n : Nat) (k : Int) (s : TS), 0 ≤ k → (∀ a i : Int, a ≠ 0 ∨ (i ≠ 12 ∧ i ≠ 30 ∧ i ≠ 31) → sg (sDrop1 x n k s) a i = sg s a i) ∧ (sDrop1 x n k s).2.2.1 = s.2.2.1 := by
  intro n
  induction n with
  | zero => intro k s _; exact ⟨fun _ _ _ => rfl, rfl⟩
  | succ n ih =>
    intro k s k0
    unfold sDrop1
    split
    · split
      · split
        · obtain ⟨g1, g2⟩ := ih (k + 1) (sCmd x 11 (sg s (2 + k) 8) 0 s).2 (by omega)
          exact ⟨fun a i h => (g1 a i h).trans (cmd_g h), g2.trans cmd_l.2.1⟩
        · exact ih _ _ (by omega)
      · exact ⟨fun _ _ _ => rfl, rfl⟩
    · exact ⟨fun _ _ _ => rfl, rfl⟩
theorem win_lt (hs : x.1 3 ≤ x.1 0) (hP : PI s) (hW : SW x s B) (k0 : 0 ≤ k) (k1 : k < sg s 0 5) (h30 : sg s 0 30 = 0) (hg : goes (sDrop x (sWin x k s)) = true) : LT s (sDrop x (sWin x k s)) k := by
  have h5 := hW.2.2.2.2.2.2.2.1
  have h6 := hW.2.2.2.2.2.1.1
  have hI := hP.1.1
  unfold sWin at hg ⊢
  simp only at hg ⊢
  by_cases cf : find s (sg s (2 + k) 3) < 0
  · rw [if_pos cf, drop_nd hP.2]
    exact SM.rf.lt hI h5.2 k0 k1
  · rw [if_neg cf] at hg ⊢
    obtain ⟨o0, o1, o2⟩ := (find_b (s := s) (v := sg s (2 + k) 3)).resolve_left (by omega)
    generalize find s (sg s (2 + k) 3) = o at *
    have es : ∀ p q : Int, (p < 2 ∨ q ≠ 3) → sg (st (st s (2 + k) 3 (-1)) (2 + o) 3 (-1)) p q = sg s p q := fun p q hh => by rw [st_g, if_neg (by omega), st_g, if_neg (by omega)]
    have el : (st (st s (2 + k) 3 (-1)) (2 + o) 3 (-1)).2 = s.2 := rfl
    have hW2 := (hW.s6 (k := k) (j := 3) (v := -1) k0 (Or.inr (Or.inr (Or.inl rfl)))).s6 (k := o) (j := 3) (v := -1) o0 (Or.inr (Or.inr (Or.inl rfl)))
    have hV2 : IV (st (st s (2 + k) 3 (-1)) (2 + o) 3 (-1)) := by
      refine IV.cg (Cg.of fun a i hh => es a i (by omega)) (fun i i0 => es _ _ (by omega)) (fun i i0 => ?_) h6 hP.1
      rw [st_g]
      split
      · exact Or.inr rfl
      · rw [st_g]
        split
        · exact Or.inr rfl
        · exact Or.inl rfl
    have hN2 : ND (st (st s (2 + k) 3 (-1)) (2 + o) 3 (-1)) := fun i i0 i1 => by
      rw [es 0 5 (by omega)] at i1
      rw [es _ 9 (by omega)]
      exact hP.2 i i0 i1
    generalize hS2 : st (st s (2 + k) 3 (-1)) (2 + o) 3 (-1) = s2 at *
    rw [es (2 + o) 0 (by omega), es (2 + k) 1 (by omega), o2] at hg ⊢
    have hpa := hP.1.2.2.2.2 k k0 k1
    by_cases cp : sg s (2 + k) 3 = sg s (2 + k) 1
    · rw [if_pos cp] at hg ⊢
      -- the branch itself is dropped
      have gone : ∀ s3 : TS, IV s3 → ND s3 → SW x s3 B → sg s3 0 5 = sg s 0 5 → sg s3 (2 + k) 0 = sg s (2 + k) 0 → LT s (sDrop x (sDoom k s3)) k := by
        intro s3 q1 q2 q3 q4 q5 hh
        exfalso
        obtain ⟨d1, d2⟩ := doom_d q1.1 q1.2.1 q2 q3 k0 (by omega)
        have hWd := w_doom k0 q3
        have hdm : sg (sDoom k s3) (2 + k) 9 ≠ 0 := by
          rw [d2 k k0 (by omega)]
          have hn := (q3.br k0 (by omega)).1
          exact (blw_u q1.1 hn.1 hn.2).mpr (Or.inl rfl)
        obtain ⟨z1, z2⟩ := drop1_sm (x := x) 13 0 (sDoom k s3) (by decide)
        have hI1 : SI (sDrop1 x 13 0 (sDoom k s3)) := (Cg.of fun a i h => z1 a i (by omega)).si (d1.cg.si q1.1)
        unfold sDrop at hh
        simp only at hh
        have e5 : sg (sDrop1 x 13 0 (sDoom k s3)) 0 5 = sg s 0 5 := by rw [z1 _ _ (by omega), d1.1 _ _ (by omega), q4]
        have e0 : sg (sDrop1 x 13 0 (sDoom k s3)) (2 + k) 0 = sg s (2 + k) 0 := by rw [z1 _ _ (by omega), d1.1 _ _ (by omega), q5]
        rw [← e0] at hh
        exact drop2_gone 13 _ _ k hI1 (by omega) (by omega) (by omega) k0 (by omega) (by rw [z1 _ _ (by omega)]; exact hdm) hh
      have e2 : sg s2 0 5 = sg s 0 5 := es _ _ (by omega)
      have e20 : sg s2 (2 + k) 0 = sg s (2 + k) 0 := es _ _ (by omega)
      have z6 : 0 ≤ sg s2 0 6 := by rw [es _ _ (by omega)]; exact h6
      have via : ∀ s3 : TS, IV s3 → ND s3 → SW x s3 B → sg s3 0 5 = sg s 0 5 → sg s3 (2 + k) 0 = sg s (2 + k) 0 → LT s (sDrop x (sDoom k (sGo o (sg s3 (2 + k) 4) s3))) k := by
        intro s3 q1 q2 q3 q4 q5
        have hb4 := (q3.br k0 (by omega)).2.1
        have q6 := q3.2.2.2.2.2.1.1
        refine gone _ (q1.of q6 fun a i hh => by rw [go_g, if_neg (by omega), if_neg (by omega)]) (fun i i0 i1 => ?_) (q3.go o0 hb4.1 hb4.2) (by rw [go_g, if_neg (by omega), if_neg (by omega)]; exact q4) (by rw [go_g, if_neg (by omega), if_neg (by omega)]; exact q5)
        rw [go_g, if_neg (by omega), if_neg (by omega)] at i1
        rw [go_g, if_neg (by omega), if_neg (by omega)]
        exact q2 i i0 i1
      by_cases cw : sg s2 (2 + o) 7 = 1 ∨ sg s2 (2 + o) 7 = 2
      · rw [if_pos cw] at hg ⊢
        have p3 : IV (sCmd x 11 (sg s2 (2 + o) 8) 0 s2).2 := hV2.of z6 fun p i hh => cmd_g (by omega)
        have n3 : ND (sCmd x 11 (sg s2 (2 + o) 8) 0 s2).2 := fun i i0 i1 => by
          rw [cmd_g (by omega)] at i1
          rw [cmd_g (by omega)]
          exact hN2 i i0 i1
        by_cases cn : (sCmd x 11 (sg s2 (2 + o) 8) 0 s2).1 < 0
        · exfalso
          rw [if_pos cn] at hg
          have h30' := u_drop (goes_s hg).1
          unfold sCmd at cn h30'
          split at cn
          · rename_i z1
            rw [if_pos z1] at h30'
            split at cn
            · rename_i z2
              have z3 := nc_b (hW2.1).2
              have z4 := hW2.1
              have : nc x (sg s2 0 12) < 0 := cn
              omega
            · rename_i z2
              rw [if_neg z2] at h30'
              exact absurd h30' u_stuck
          · rename_i z1
            rw [if_neg z1] at h30'
            split at cn
            · rename_i z2
              rw [if_pos z2] at h30'
              exact absurd h30' u_stuck
            · have : x.1 0 + ((sn s2).length : Int) < 0 := cn
              have z4 := hW2.1
              omega
        · rw [if_neg cn]
          exact via _ p3 n3 (hW2.cmd hs) ((cmd_g (by omega)).trans e2) ((cmd_g (by omega)).trans e20)
      · rw [if_neg cw]
        exact via s2 hV2 hN2 hW2 e2 e20
    · rw [if_neg cp] at hg ⊢
      -- the other is dropped, with all below it
      intro _
      have hrv : 0 ≤ sg s (2 + k) 3 ∧ sg s (-1) (sg s (2 + k) 3) = sg s (2 + k) 0 := by
        rcases hP.1.2.2.2.1 k k0 k1 with g | ⟨g1, g2⟩
        · have := (hW.br o0 o1).1; omega
        · refine ⟨g1, g2.resolve_right fun g => cp ?_⟩
          rw [hpa, g]
      have hr6 := hP.1.2.2.1 k k0 k1
      have hpv := hI.2 _ hrv.1 hr6
      have e2 : sg s2 0 5 = sg s 0 5 := es _ _ (by omega)
      obtain ⟨d1, d2⟩ := doom_d hV2.1 hV2.2.1 hN2 hW2 o0 (by omega)
      rw [es (2 + o) 0 (by omega), o2] at d2
      have hcgd : ∀ n : Int, sg s2 (-1) n = sg s (-1) n := fun n => es _ _ (by omega)
      have dd : ∀ j : Int, 0 ≤ j → j < sg s 0 5 → (sg (sDoom o s2) (2 + j) 9 ≠ 0 ↔ blw s (sg s (2 + k) 3) (sg s (2 + j) 0)) := fun j j0 j1 => by
        rw [d2 j j0 (by omega), es _ 0 (by omega), blw_cg hcgd]
      obtain ⟨z1, z2⟩ := drop1_sm (x := x) 13 0 (sDoom o s2) (by decide)
      have ea : ∀ p q : Int, (p ≠ 0 ∨ (q ≠ 12 ∧ q ≠ 30 ∧ q ≠ 31)) → (p < 2 ∨ (q ≠ 3 ∧ q ≠ 9)) → sg (sDrop1 x 13 0 (sDoom o s2)) p q = sg s p q := fun p q g1 g2 => by
        rw [z1 p q g1, d1.1 p q (by omega), es p q (by omega)]
      have e9 : ∀ j : Int, 0 ≤ j → sg (sDrop1 x 13 0 (sDoom o s2)) (2 + j) 9 = sg (sDoom o s2) (2 + j) 9 := fun j j0 => z1 _ _ (by omega)
      have hunder : ∀ j : Int, 0 ≤ j → j < sg s 0 5 → blw s (sg s (2 + k) 3) (sg s (2 + j) 0) → sg s (2 + k) 3 ≤ sg s (2 + j) 0 := fun j j0 j1 g => by
        have hn := (hW.br j0 j1).1
        exact blw_ge hI hrv.1 (sg s (2 + j) 0 + 1).toNat _ (by omega) (by omega) hn.2 g
      have hlow : ∀ j : Int, 0 ≤ j → j ≤ k → sg (sDrop1 x 13 0 (sDoom o s2)) (2 + j) 9 = 0 := fun j j0 j1 => by
        rw [e9 j j0]
        by_cases q : sg (sDoom o s2) (2 + j) 9 = 0
        · exact q
        · have g := hunder j j0 (by omega) ((dd j j0 (by omega)).mp q)
          by_cases hjk : j = k
          · rw [hjk] at g; omega
          · have := hI.1 j k j0 (by omega) k1
            omega
      have e5 : sg (sDrop1 x 13 0 (sDoom o s2)) 0 5 = sg s 0 5 := ea _ _ (by omega) (by omega)
      obtain ⟨y1, y2, y3, y4⟩ := drop2_low 13 (sg (sDrop1 x 13 0 (sDoom o s2)) 0 5 - 1) (sDrop1 x 13 0 (sDoom o s2)) k k0 (by omega) (by omega) (by omega) hlow
      have hfin : sDrop x (sDoom o s2) = sDrop2 13 (sg (sDrop1 x 13 0 (sDoom o s2)) 0 5 - 1) (sDrop1 x 13 0 (sDoom o s2)) := rfl
      have hPd : PI (sDrop x (sDoom o s2)) := drop_pi hs (hV2.e9 d1 (by rw [es _ _ (by omega)]; exact h6)) (w_doom o0 hW2)
      have hWd : SW x (sDrop x (sDoom o s2)) B := w_drop hs (w_doom o0 hW2)
      rw [hfin] at hPd hWd ⊢
      have y0 : sg (sDrop2 13 (sg (sDrop1 x 13 0 (sDoom o s2)) 0 5 - 1) (sDrop1 x 13 0 (sDoom o s2))) (2 + k) 0 = sg s (2 + k) 0 := by rw [y2 k 0 k0 (Int.le_refl _) (by decide), ea _ _ (by omega) (by omega)]
      refine ⟨?_, fun j q j0 j1 hq => ?_, fun n => ?_, fun j j0 j1 => ?_⟩
      · rw [← y0]
        exact find_at hPd.1.1 k0 y1 hWd.2.2.2.2.2.2.2.1.2
      · rw [y2 j q j0 (by omega) (by omega), ea _ _ (by omega) (by omega)]
      · unfold sq
        rw [y3, z2, d1.2, ← hS2]
        rfl
      · rw [y4 _ fun d d0 d1' d9 => ?_]
        · exact kid_same e5 fun i i0 => ea _ _ (by omega) (by omega)
        · rw [e5] at d1'
          rw [e9 d d0] at d9
          rw [ea _ _ (by omega) (by omega), hP.1.2.2.2.2 d d0 d1']
          have hb := (dd d d0 d1').mp d9
          have hn := (hW.br d0 d1').1
          have hjk := hI.1 j k j0 j1 k1
          rcases (blw_u hI hn.1 hn.2).mp hb with g | g
          · rw [g, hrv.2]
            omega
          · have hpd := hI.2 _ hn.1 hn.2
            have := blw_ge hI hrv.1 (sg s (-1) (sg s (2 + d) 0) + 1).toNat _ (by omega) hpd.1 (by omega) g
            omega
end LOW
