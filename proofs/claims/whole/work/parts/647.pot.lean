/-! THE TELLING, plain: no arrival needs as many turns: each turn takes something off. -/
section POT
variable {x : CX} {s s' s2 : TS} {B : Int} {a b c d e i j v k h n l w p r t o q : Int}
def wgt (s : TS) (i : Int) : Int := if i < sg s 0 5 then (if sg s (2 + i) 7 = 0 then 1 else 2) else 0
def pw (s : TS) : Nat → Int → Int
  | 0, _ => 0
  | n + 1, k => wgt s k + pw s n (k + 1)
def pot (s : TS) : Int := 3 * (60 - sg s 0 29) + pw s 12 0
theorem wgt_i (h : i < sg s 0 5) : wgt s i = if sg s (2 + i) 7 = 0 then 1 else 2 := if_pos h
theorem wgt_o (h : ¬ i < sg s 0 5) : wgt s i = 0 := if_neg h
theorem wgt_b : 0 ≤ wgt s i ∧ wgt s i ≤ 2 := by
  unfold wgt
  split
  · split <;> omega
  · omega
theorem pw_b : ∀ (n : Nat) (k : Int), 0 ≤ pw s n k ∧ pw s n k ≤ 2 * n := by
  intro n
  induction n with
  | zero => intro k; exact ⟨Int.le_refl _, Int.le_refl _⟩
  | succ n ih =>
    intro k
    have := ih (k + 1)
    have := wgt_b (s := s) (i := k)
    show 0 ≤ wgt s k + pw s n (k + 1) ∧ wgt s k + pw s n (k + 1) ≤ _
    omega
theorem pw_out (h : ∀ i : Int, i ≠ k → 0 ≤ i → wgt s' i ≤ wgt s i) : ∀ (n : Nat) (j : Int), k < j → 0 ≤ j → pw s' n j ≤ pw s n j := by
  intro n
  induction n with
  | zero => intro j _ _; exact Int.le_refl _
  | succ n ih =>
    intro j h0 h1
    have := ih (j + 1) (by omega) (by omega)
    have := h j (by omega) h1
    show wgt s' j + pw s' n (j + 1) ≤ wgt s j + pw s n (j + 1)
    omega
/-- at one place d more, at the others no more -/
theorem pw_in (h : ∀ i : Int, i ≠ k → 0 ≤ i → wgt s' i ≤ wgt s i) (hk : wgt s' k ≤ wgt s k + d) : ∀ (n : Nat) (j : Int), j ≤ k → k < j + n → 0 ≤ j → pw s' n j ≤ pw s n j + d := by
  intro n
  induction n with
  | zero => intro j h0 h1; omega
  | succ n ih =>
    intro j h0 h1 h2
    show wgt s' j + pw s' n (j + 1) ≤ wgt s j + pw s n (j + 1) + d
    by_cases c : j = k
    · have := pw_out h n (j + 1) (by omega) (by omega)
      rw [c] at this ⊢
      omega
    · have := ih (j + 1) (by omega) (by omega) (by omega)
      have := h j c h2
      omega
theorem pw_le (h : ∀ i : Int, 0 ≤ i → wgt s' i ≤ wgt s i) : pw s' 12 0 ≤ pw s 12 0 := pw_out (k := -1) (fun i _ i0 => h i i0) 12 0 (by decide) (by decide)
theorem wgt_same (h5 : sg s' 0 5 = sg s 0 5) (h7 : sg s' (2 + i) 7 = sg s (2 + i) 7) : wgt s' i ≤ wgt s i := by
  unfold wgt
  rw [h5, h7]
  exact Int.le_refl _
theorem wgt_go (h5 : sg s' 0 5 = sg s 0 5) (h7 : sg s' (2 + i) 7 = 0) : wgt s' i ≤ wgt s i := by
  unfold wgt
  rw [h5, h7]
  split
  · rw [if_pos rfl]; split <;> omega
  · omega
theorem rem_pw1 : ∀ (n : Nat) (j : Int), 0 ≤ k → k ≤ j → pw (sRem k s) n j = pw s n (j + 1) := by
  intro n
  induction n with
  | zero => intro j _ _; rfl
  | succ n ih =>
    intro j k0 h
    show wgt (sRem k s) j + pw (sRem k s) n (j + 1) = wgt s (j + 1) + pw s n (j + 1 + 1)
    rw [ih (j + 1) k0 (by omega)]
    have : wgt (sRem k s) j = wgt s (j + 1) := by
      by_cases c : j < sg s 0 5 - 1
      · rw [wgt_i (by rw [rem_5]; exact c), wgt_i (s := s) (by omega), rem_g (by omega) c (by decide), if_neg (show ¬ j < k by omega)]
      · rw [wgt_o (by rw [rem_5]; exact c), wgt_o (by omega)]
    rw [this]
theorem rem_pw2 : ∀ (n : Nat) (j : Int), 0 ≤ j → j ≤ k → k < j + n + 1 → k < sg s 0 5 → pw (sRem k s) n j + wgt s k = pw s (n + 1) j := by
  intro n
  induction n with
  | zero =>
    intro j h0 h1 h2 h3
    have : j = k := by omega
    rw [this]
    show 0 + wgt s k = wgt s k + 0
    omega
  | succ n ih =>
    intro j h0 h1 h2 h3
    show wgt (sRem k s) j + pw (sRem k s) n (j + 1) + wgt s k = wgt s j + pw s (n + 1) (j + 1)
    by_cases c : j = k
    · have e := rem_pw1 (s := s) (k := k) (n + 1) k (by omega) (Int.le_refl _)
      have e2 : pw (sRem k s) (n + 1) k = wgt (sRem k s) k + pw (sRem k s) n (k + 1) := rfl
      rw [c]
      omega
    · have e := ih (j + 1) (by omega) (by omega) (by omega) h3
      have : wgt (sRem k s) j = wgt s j := by
        rw [wgt_i (by rw [rem_5]; omega), wgt_i (s := s) (by omega), rem_g h0 (by omega) (by decide), if_pos (show j < k by omega)]
      omega
theorem pw_rem (h5 : sg s 0 5 ≤ 12) (k0 : 0 ≤ k) (k1 : k < sg s 0 5) : pw (sRem k s) 12 0 + 1 ≤ pw s 12 0 := by
  have e := rem_pw2 (s := s) (k := k) 12 0 (by decide) k0 (by omega) k1
  have e13 : ∀ (n : Nat) (j : Int), sg s 0 5 ≤ j + n → pw s (n + 1) j = pw s n j := by
    intro n
    induction n with
    | zero =>
      intro j h
      show wgt s j + 0 = 0
      unfold wgt
      rw [if_neg (by omega)]
      rfl
    | succ n ih =>
      intro j h
      show wgt s j + pw s (n + 1) (j + 1) = wgt s j + pw s n (j + 1)
      rw [ih (j + 1) (by omega)]
  rw [e13 12 0 (by omega)] at e
  have : 1 ≤ wgt s k := by
    unfold wgt
    rw [if_pos k1]
    split <;> omega
  omega
theorem pw_begin (h0 : 0 ≤ sg s 0 5) (h1 : sg s 0 5 < 12) : pw (sBegin p l s) 12 0 ≤ pw s 12 0 + 1 := by
  refine pw_in (k := sg s 0 5) (d := 1) (fun i hi i0 => ?_) ?_ 12 0 h0 (by omega) (by decide)
  · by_cases c : i < sg s 0 5
    · rw [wgt_i (by rw [begin_5]; omega), wgt_i (s := s) c, begin_b i0 c]
      exact Int.le_refl _
    · rw [wgt_o (by rw [begin_5]; omega), wgt_o (s := s) c]
      exact Int.le_refl _
  · rw [wgt_i (by rw [begin_5]; omega), wgt_o (s := s) (by omega), begin_n h0]
    show (if (0 : Int) = 0 then (1 : Int) else 2) ≤ 0 + 1
    rw [if_pos rfl]
    decide
theorem pw_at (h5 : sg s' 0 5 = sg s 0 5) (h7 : ∀ i : Int, 0 ≤ i → i ≠ k → sg s' (2 + i) 7 = sg s (2 + i) 7) (k0 : 0 ≤ k) (k1 : k < 12) (hk : wgt s' k ≤ wgt s k + d) : pw s' 12 0 ≤ pw s 12 0 + d :=
  pw_in (fun i hi i0 => wgt_same h5 (h7 i i0 hi)) hk 12 0 k0 (by omega) (by decide)
theorem pw_go (k0 : 0 ≤ k) : pw (sGo k l s) 12 0 ≤ pw s 12 0 := by
  refine pw_le fun i i0 => ?_
  by_cases c : i = k
  · exact wgt_go (by rw [go_g, if_neg (by omega), if_neg (by omega)]) (by rw [go_g, if_neg (by omega), if_pos (by omega)])
  · exact wgt_same (by rw [go_g, if_neg (by omega), if_neg (by omega)]) (by rw [go_g, if_neg (by omega), if_neg (by omega)])
theorem pw_eq (h5 : sg s' 0 5 = sg s 0 5) (h7 : ∀ i : Int, 0 ≤ i → sg s' (2 + i) 7 = sg s (2 + i) 7) : pw s' 12 0 ≤ pw s 12 0 := pw_le fun i i0 => wgt_same h5 (h7 i i0)
theorem pw_cmd : pw (sCmd x c a b s).2 12 0 ≤ pw s 12 0 := pw_eq (cmd_g (by omega)) fun i i0 => cmd_g (by omega)
theorem pw_st (h : (a = 0 ∧ j ≠ 5) ∨ a = 1 ∨ (2 ≤ a ∧ j ≠ 7)) : pw (st s a j v) 12 0 ≤ pw s 12 0 := pw_eq (by rw [st_g, if_neg (by omega)]) fun i i0 => by rw [st_g, if_neg (by omega)]
theorem pw_wait (k0 : 0 ≤ k) (k1 : k < sg s 0 5) (h5 : sg s 0 5 ≤ 12) : pw (sWait k w n s) 12 0 ≤ pw s 12 0 + 1 := by
  refine pw_at (k := k) (d := 1) (by rw [wait_g, if_neg (by omega), if_neg (by omega)]) (fun i i0 hi => by rw [wait_g, if_neg (by omega), if_neg (by omega)]) k0 (by omega) ?_
  have e5 : sg (sWait k w n s) 0 5 = sg s 0 5 := by rw [wait_g, if_neg (by omega), if_neg (by omega)]
  rw [wgt_i (by rw [e5]; exact k1), wgt_i (s := s) k1]
  split <;> split <;> omega
theorem pw_fail (k0 : 0 ≤ k) : pw (sFail x k s) 12 0 ≤ pw s 12 0 := by
  unfold sFail
  split
  · rename_i v t hv
    have e : pw (sth (sGo k v (sGo k (sg s (2 + k) 4) s)) k t) 12 0 = pw (sGo k v (sGo k (sg s (2 + k) 4) s)) 12 0 := Int.le_antisymm (pw_eq rfl fun _ _ => rfl) (pw_eq rfl fun _ _ => rfl)
    rw [e]
    exact Int.le_trans (pw_go k0) (pw_go k0)
  · show pw (if (sCmd x 15 0 0 (sGo k (sg s (2 + k) 4) s)).1 < 0 then (sCmd x 15 0 0 (sGo k (sg s (2 + k) 4) s)).2 else st (sCmd x 15 0 0 (sGo k (sg s (2 + k) 4) s)).2 0 9 15) 12 0 ≤ _
    have h1 : pw (sCmd x 15 0 0 (sGo k (sg s (2 + k) 4) s)).2 12 0 ≤ pw s 12 0 := Int.le_trans pw_cmd (pw_go k0)
    split
    · exact h1
    · exact Int.le_trans (pw_st (by omega)) h1
theorem pw_stk : pw (sStuck s v) 12 0 ≤ pw s 12 0 := Int.le_trans (pw_st (by omega)) (pw_st (by omega))
theorem pw_e9 (h : E9 s s') : pw s' 12 0 ≤ pw s 12 0 := pw_eq (h.1 _ _ (by omega)) fun i i0 => h.1 _ _ (by omega)
theorem pw_drop1 : ∀ (n : Nat) (k : Int) (s : TS), pw (sDrop1 x n k s) 12 0 ≤ pw s 12 0 := by
  intro n
  induction n with
  | zero => intro k s; exact Int.le_refl _
  | succ n ih =>
    intro k s
    unfold sDrop1
    split
    · split
      · split
        · exact Int.le_trans (ih _ _) pw_cmd
        · exact ih _ _
      · exact Int.le_refl _
    · exact Int.le_refl _
theorem pw_drop2 : ∀ (n : Nat) (k : Int) (s : TS), k < sg s 0 5 → sg s 0 5 ≤ 12 → pw (sDrop2 n k s) 12 0 ≤ pw s 12 0 := by
  intro n
  induction n with
  | zero => intro k s _ _; exact Int.le_refl _
  | succ n ih =>
    intro k s k1 h5
    unfold sDrop2
    by_cases c : k < 0
    · rw [if_pos c]; exact Int.le_refl _
    · rw [if_neg c]
      split
      · exact ih _ _ (by omega) h5
      · have := pw_rem (s := s) (k := k) h5 (by omega) k1
        have := ih (k - 1) (sRem k s) (by rw [rem_5]; omega) (by rw [rem_5]; omega)
        omega
theorem pw_drop (hs : x.1 3 ≤ x.1 0) (hW : SW x s B) : pw (sDrop x s) 12 0 ≤ pw s 12 0 := by
  have hW1 : SW x (sDrop1 x 13 0 s) B := w_drop1 hs _ _ _ hW
  have h5 := hW1.2.2.2.2.2.2.2.1
  unfold sDrop
  simp only
  exact Int.le_trans (pw_drop2 13 _ _ (by omega) h5.2) (pw_drop1 _ _ _)
theorem pw_win (k0 : 0 ≤ k) : pw (sWin x k s) 12 0 ≤ pw s 12 0 := by
  unfold sWin
  simp only
  split
  · exact Int.le_refl _
  · rename_i cf
    generalize find s (sg s (2 + k) 3) = o at cf
    have h2 : pw (st (st s (2 + k) 3 (-1)) (2 + o) 3 (-1)) 12 0 ≤ pw s 12 0 := Int.le_trans (pw_st (by omega)) (pw_st (by omega))
    generalize st (st s (2 + k) 3 (-1)) (2 + o) 3 (-1) = s2 at h2
    have hdm : ∀ (s3 : TS) (l : Int), pw s3 12 0 ≤ pw s 12 0 → pw (sDoom k (sGo o l s3)) 12 0 ≤ pw s 12 0 := fun s3 l g1 => Int.le_trans (pw_e9 (e9_doom k0)) (Int.le_trans (pw_go (by omega)) g1)
    split
    · split
      · show pw (if (sCmd x 11 (sg s2 (2 + o) 8) 0 s2).1 < 0 then (sCmd x 11 (sg s2 (2 + o) 8) 0 s2).2 else sDoom k (sGo o (sg (sCmd x 11 (sg s2 (2 + o) 8) 0 s2).2 (2 + k) 4) (sCmd x 11 (sg s2 (2 + o) 8) 0 s2).2)) 12 0 ≤ _
        have h3 : pw (sCmd x 11 (sg s2 (2 + o) 8) 0 s2).2 12 0 ≤ pw s 12 0 := Int.le_trans pw_cmd h2
        split
        · exact h3
        · exact hdm _ _ h3
      · exact hdm _ _ h2
    · exact Int.le_trans (pw_e9 (e9_doom (by omega))) h2
end POT
