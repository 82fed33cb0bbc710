/-! THE TELLING: what lines leave alone, II (made from 605 by gen646). -/
section KR1
variable {x : CX} {s : TS} {B : Int} {a b c e j v k h n l w p g t q : Int}
def KR (q : Int) : Prop := q = 29 ∨ q = 40 ∨ q = 41
theorem kr_cmd (hq : KR q) : sg (sCmd x a b c s).2 0 q = sg s 0 q := cmd_g (Or.inr (by unfold KR at hq; omega))
theorem kr_go (hq : KR q) : sg (sGo k l s) 0 q = sg s 0 q := by
  unfold KR at hq
  rw [go_g, if_neg (by omega), if_neg (by omega)]
theorem kr_wait (hq : KR q) : sg (sWait k w n s) 0 q = sg s 0 q := by
  unfold KR at hq
  rw [wait_g, if_neg (by omega), if_neg (by omega)]
theorem kr_fail (hk : 0 ≤ k) (hq : KR q) : sg (sFail x k s) 0 q = sg s 0 q := fail_g (by omega) (Or.inr (by unfold KR at hq; omega))
theorem kr_begin (h5 : 0 ≤ sg s 0 5) (hq : KR q) : sg (sBegin p l s) 0 q = sg s 0 q := by
  unfold KR at hq
  rw [begin_g (by decide), if_neg (by omega), if_neg (by omega), if_neg (by omega)]
theorem kr_rem (hq : KR q) : sg (sRem k s) 0 q = sg s 0 q := rem_o (Or.inl ⟨rfl, by unfold KR at hq; omega, by unfold KR at hq; omega⟩)
theorem kr_st {a' j' v' : Int} (hq : KR q) (h : a' ≠ 0 ∨ (j' ≠ 29 ∧ j' ≠ 40 ∧ j' ≠ 41)) : sg (st s a' j' v') 0 q = sg s 0 q := by
  unfold KR at hq
  rw [st_g, if_neg (by omega)]
theorem kr_stuck (hq : KR q) : sg (sStuck s v) 0 q = sg s 0 q := by
  unfold sStuck
  rw [kr_st hq (by omega), kr_st hq (by omega)]
theorem kr_end (hq : KR q) : sg (sEnd x k s) 0 q = sg s 0 q := by
  unfold sEnd
  split
  · have h := kr_cmd (x := x) (a := 14) (b := sg s 1 0) (c := 0) (s := s) hq
    generalize hr : sCmd x 14 (sg s 1 0) 0 s = r at h
    obtain ⟨r, s1⟩ := r
    simp only at h ⊢
    split
    · exact h
    · rw [kr_st hq (by omega)]
      exact h
  · exact kr_rem hq
theorem kr_below (h5 : 0 ≤ sg s 0 5) (hq : KR q) : sg (sBelow k l s) 0 q = sg s 0 q := by
  unfold sBelow
  split
  · exact kr_begin h5 hq
  · exact kr_stuck hq
theorem kr_race (h5 : 0 ≤ sg s 0 5) (hk : 0 ≤ k) (hq : KR q) : sg (sRace k l s) 0 q = sg s 0 q := by
  unfold sRace
  split
  · simp only
    rw [kr_st hq (by omega), kr_st hq (by omega)]
    split
    · exact kr_begin h5 hq
    · rw [kr_st hq (by omega)]
      exact kr_begin h5 hq
  · exact kr_stuck hq
theorem kr_doomL (hq : KR q) : ∀ (n : Nat) (k : Int) (s : TS), sg (sDoomL n k s) 0 q = sg s 0 q := by
  intro n
  induction n with
  | zero => intro k s; rfl
  | succ n ih =>
    intro k s
    unfold sDoomL
    split
    · split
      · exact ih _ _
      · split
        · exact ih _ _
        · rw [ih, kr_st hq (by omega)]
    · rfl
theorem kr_doom (hq : KR q) : sg (sDoom k s) 0 q = sg s 0 q := by
  unfold sDoom
  rw [kr_doomL hq, kr_st hq (by omega)]
theorem kr_win (hq : KR q) : sg (sWin x k s) 0 q = sg s 0 q := by
  unfold sWin
  simp only
  split
  · rfl
  · have h0 : sg (st (st s (2 + k) 3 (-1)) (2 + find s (sg s (2 + k) 3)) 3 (-1)) 0 q = sg s 0 q := by rw [kr_st hq (by omega), kr_st hq (by omega)]
    generalize st (st s (2 + k) 3 (-1)) (2 + find s (sg s (2 + k) 3)) 3 (-1) = s1 at h0
    split
    · split
      · have h := kr_cmd (x := x) (a := 11) (b := sg s1 (2 + find s (sg s (2 + k) 3)) 8) (c := 0) (s := s1) hq
        generalize hr : sCmd x 11 (sg s1 (2 + find s (sg s (2 + k) 3)) 8) 0 s1 = r at h
        obtain ⟨r, s2⟩ := r
        simp only at h ⊢
        split
        · exact h.trans h0
        · rw [kr_doom hq, kr_go hq]
          exact h.trans h0
      · rw [kr_doom hq, kr_go hq]
        exact h0
    · rw [kr_doom hq]
      exact h0
theorem kr_drop1 (hq : KR q) : ∀ (n : Nat) (k : Int) (s : TS), sg (sDrop1 x n k s) 0 q = sg s 0 q := by
  intro n
  induction n with
  | zero => intro k s; rfl
  | succ n ih =>
    intro k s
    unfold sDrop1
    split
    · split
      · split
        · rw [ih, kr_cmd hq]
        · exact ih _ _
      · rfl
    · rfl
theorem kr_drop2 (hq : KR q) : ∀ (n : Nat) (k : Int) (s : TS), sg (sDrop2 n k s) 0 q = sg s 0 q := by
  intro n
  induction n with
  | zero => intro k s; rfl
  | succ n ih =>
    intro k s
    unfold sDrop2
    split
    · rfl
    · split
      · exact ih _ _
      · rw [ih, kr_rem hq]
theorem kr_drop (hq : KR q) : sg (sDrop x s) 0 q = sg s 0 q := by
  unfold sDrop
  simp only
  rw [kr_drop2 hq, kr_drop1 hq]
theorem kr_undo (hq : KR q) : sg (sUndo x k s) 0 q = sg s 0 q := by
  unfold sUndo
  split
  · exact kr_go hq
  · rename_i v t hu
    have h := kr_cmd (x := x) (a := 8) (b := v / 1000) (c := v % 1000) (s := stu s t) hq
    generalize hr : sCmd x 8 (v / 1000) (v % 1000) (stu s t) = r at h
    obtain ⟨r, s1⟩ := r
    simp only at h ⊢
    rw [kr_wait hq]
    exact h
theorem kr_patch (hq : KR q) : sg (sPatch x p s).2 0 q = sg s 0 q := by
  unfold sPatch
  split
  · split
    · show sg (sCmd x 12 p 0 _).2 0 q = _
      rw [kr_cmd hq, kr_st hq (by omega)]
    · rfl
  · rfl
theorem kr_bare (hk : 0 ≤ k) (hq : KR q) : sg (sBare k s).2 0 q = sg s 0 q := by
  unfold sBare
  simp only
  generalize (if 0 < sg s (2 + k) 5 then sg s (2 + k) 5 - 1 else 0) = y
  split
  · show sg (st (st s (2 + k) 5 y) (2 + k) 6 0) 0 q = _
    rw [kr_st hq (by omega), kr_st hq (by omega)]
  · show sg (st (st s (2 + k) 5 y) (2 + k) 6 _) 0 q = _
    rw [kr_st hq (by omega), kr_st hq (by omega)]
theorem kr_cw {kd : Int} (hq : KR q) : sg (match sCmd x kd a b s with
    | (r, s1) => sWait k w r s1) 0 q = sg s 0 q := by
  have h := kr_cmd (x := x) (a := kd) (b := a) (c := b) (s := s) hq
  generalize hr : sCmd x kd a b s = r at h
  obtain ⟨r, s1⟩ := r
  simp only at h ⊢
  rw [kr_wait hq]
  exact h
theorem kr_line (h0 : 0 ≤ c) (h1 : c ≤ 23) (h5 : 0 ≤ sg s 0 5) (hk : 0 ≤ k) (hq : KR q) : sg (sLine x k c a b s) 0 q = sg s 0 q := by
  have g5 : 0 ≤ sg (sGo k (sg s (2 + k) 4 + 1) s) 0 5 := by rw [go_g, if_neg (by omega), if_neg (by omega)]; exact h5
  have hc : c = 0 ∨ c = 1 ∨ c = 2 ∨ c = 3 ∨ c = 4 ∨ c = 5 ∨ c = 6 ∨ c = 7 ∨ c = 8 ∨ c = 9 ∨ c = 10 ∨ c = 11 ∨ c = 12 ∨ c = 13 ∨ c = 14 ∨ c = 15 ∨ c = 16 ∨ c = 17 ∨ c = 18 ∨ c = 19 ∨ c = 20 ∨ c = 21 ∨ c = 22 ∨ c = 23 := by omega
  rcases hc with rfl | rfl | rfl | rfl | rfl | rfl | rfl | rfl | rfl | rfl | rfl | rfl | rfl | rfl | rfl | rfl | rfl | rfl | rfl | rfl | rfl | rfl | rfl | rfl
  · rw [sl0]
    rw [kr_go hq, kr_st hq (by omega)]
  · rw [sl1]
    rw [kr_go hq, kr_st hq (by omega)]
  · rw [sl2]
    exact kr_cw hq
  · rw [sl3]
    exact kr_cw hq
  · rw [sl4]
    exact kr_wait hq
  · rw [sl5]
    exact kr_cw hq
  · rw [sl6]
    split <;> exact kr_go hq
  · rw [sl7]
    exact kr_go hq
  · rw [sl8]
    rw [kr_below g5 hq, kr_go hq]
  · rw [sl9]
    exact kr_wait hq
  · rw [sl10]
    rw [kr_race g5 hk hq, kr_go hq]
  · rw [sl11]
    rw [kr_drop hq, kr_win hq, kr_go hq]
  · rw [sl12]
    exact kr_go hq
  · rw [sl13]
    exact kr_go hq
  · rw [sl14]
    exact kr_go (s := stu s _) hq
  · rw [sl15]
    exact kr_undo hq
  · rw [sl16]
    exact kr_end hq
  · rw [sl17]
    exact kr_fail hk hq
  · rw [sl18]
    have h := kr_cmd (x := x) (a := 16) (b := sg s 1 a) (c := 0) (s := s) hq
    generalize hr : sCmd x 16 (sg s 1 a) 0 s = r at h
    obtain ⟨r, s1⟩ := r
    simp only at h ⊢
    split
    · exact h
    · rw [kr_st hq (by omega)]
      exact h
  · rw [sl19]
    have h := kr_patch (x := x) (p := a) (s := s) hq
    generalize hr : sPatch x a s = r at h
    obtain ⟨r, s1⟩ := r
    simp only at h ⊢
    rw [kr_go hq]
    exact h
  · rw [sl20]
    rw [kr_go hq, kr_st hq (by omega)]
  · rw [sl21]
    rw [kr_go hq, kr_st hq (by omega)]
  · rw [sl22]
    have h := kr_bare (k := k) (s := s) hk hq
    generalize hr : sBare k s = r at h
    obtain ⟨r, s1⟩ := r
    simp only at h ⊢
    split
    · rw [kr_fail hk hq, kr_go hq]
      exact h
    · rw [kr_go hq]
      exact h
  · rw [sl23]
    rw [kr_go hq, kr_cmd hq]
theorem kr_lineA (h5 : 0 ≤ sg s 0 5) (hk : 0 ≤ k) (hq : KR q) : sg (sLine x k c a b s) 0 q = sg s 0 q := by
  by_cases h : c < 0 ∨ 23 < c
  · rw [sl_o h]
    exact kr_line (by decide) (by decide) h5 hk hq
  · exact kr_line (by omega) (by omega) h5 hk hq
theorem kr_awake (hq : KR q) : sg (sAwake x k s) 0 q = sg s 0 q := by
  unfold sAwake
  split
  · rw [kr_go hq]
    exact kr_st (s := s) (a' := 1) (j' := bOf x (sg s (2 + k) 4)) (v' := (sq s (sg s (2 + k) 8)).headD 0) hq (Or.inl (by decide))
  · exact kr_go hq
theorem kr_tell (hq : KR q) : ∀ (n : Nat) (k : Int) (s : TS), 0 ≤ k → sg (sTell x n k s) 0 q = sg s 0 q := by
  intro n
  induction n with
  | zero => intro k s hk; rfl
  | succ n ih =>
    intro k s hk
    unfold sTell
    split
    · split
      · split
        · rw [ih _ _ (by omega), kr_st hq (by omega)]
        split
        · have h := kr_cmd (x := x) (a := 11) (b := sg s (2 + k) 8) (c := 0) (s := s) hq
          generalize hr : sCmd x 11 (sg s (2 + k) 8) 0 s = r at h
          obtain ⟨r, s1⟩ := r
          simp only at h ⊢
          split
          · rw [ih _ _ (by omega)]
            exact h
          · rw [ih _ _ (by omega), kr_fail hk hq]
            exact h
        · rw [ih _ _ (by omega), kr_fail hk hq]
      · rfl
    · rfl
end KR1
