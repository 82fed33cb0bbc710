/-! THE TELLING: what turns leave alone; the news grow. -/
section KEP
variable {x : CX} {s : TS} {B : Int} {a b c e j v k h n l w p g t q : Int}
def KQ (q : Int) : Prop := q = 10 ∨ q = 11 ∨ q = 13 ∨ q = 28
theorem kp_cmd (hq : KQ q) : sg (sCmd x a b c s).2 0 q = sg s 0 q := cmd_g (Or.inr (by unfold KQ at hq; omega))
theorem kp_go (hq : KQ q) : sg (sGo k l s) 0 q = sg s 0 q := by
  unfold KQ at hq
  rw [go_g, if_neg (by omega), if_neg (by omega)]
theorem kp_wait (hq : KQ q) : sg (sWait k w n s) 0 q = sg s 0 q := by
  unfold KQ at hq
  rw [wait_g, if_neg (by omega), if_neg (by omega)]
theorem kp_fail (hk : 0 ≤ k) (hq : KQ q) : sg (sFail x k s) 0 q = sg s 0 q := fail_g (by omega) (Or.inr (by unfold KQ at hq; omega))
theorem kp_begin (h5 : 0 ≤ sg s 0 5) (hq : KQ q) : sg (sBegin p l s) 0 q = sg s 0 q := by
  unfold KQ at hq
  rw [begin_g (by decide), if_neg (by omega), if_neg (by omega), if_neg (by omega)]
theorem kp_rem (hq : KQ q) : sg (sRem k s) 0 q = sg s 0 q := rem_o (Or.inl ⟨rfl, by unfold KQ at hq; omega, by unfold KQ at hq; omega⟩)
theorem kp_st {a' j' v' : Int} (hq : KQ q) (h : a' ≠ 0 ∨ (j' ≠ 10 ∧ j' ≠ 11 ∧ j' ≠ 13 ∧ j' ≠ 28)) : sg (st s a' j' v') 0 q = sg s 0 q := by
  unfold KQ at hq
  rw [st_g, if_neg (by omega)]
theorem kp_stuck (hq : KQ q) : sg (sStuck s v) 0 q = sg s 0 q := by
  unfold sStuck
  rw [kp_st hq (by omega), kp_st hq (by omega)]
theorem kp_end (hq : KQ q) : sg (sEnd x k s) 0 q = sg s 0 q := by
  unfold sEnd
  split
  · have h := kp_cmd (x := x) (a := 14) (b := sg s 1 0) (c := 0) (s := s) hq
    generalize hr : sCmd x 14 (sg s 1 0) 0 s = r at h
    obtain ⟨r, s1⟩ := r
    simp only at h ⊢
    split
    · exact h
    · rw [kp_st hq (by omega)]
      exact h
  · exact kp_rem hq
theorem kp_below (h5 : 0 ≤ sg s 0 5) (hq : KQ q) : sg (sBelow k l s) 0 q = sg s 0 q := by
  unfold sBelow
  split
  · exact kp_begin h5 hq
  · exact kp_stuck hq
theorem kp_race (h5 : 0 ≤ sg s 0 5) (hk : 0 ≤ k) (hq : KQ q) : sg (sRace k l s) 0 q = sg s 0 q := by
  unfold sRace
  split
  · simp only
    rw [kp_st hq (by omega), kp_st hq (by omega)]
    split
    · exact kp_begin h5 hq
    · rw [kp_st hq (by omega)]
      exact kp_begin h5 hq
  · exact kp_stuck hq
theorem kp_doomL (hq : KQ q) : ∀ (n : Nat) (k : Int) (s : TS), sg (sDoomL n k s) 0 q = sg s 0 q := by
  intro n
  induction n with
  | zero => intro k s; rfl
  | succ n ih =>
    intro k s
    unfold sDoomL
    split
    · split
      · exact ih _ _
      · split
        · exact ih _ _
        · rw [ih, kp_st hq (by omega)]
    · rfl
theorem kp_doom (hq : KQ q) : sg (sDoom k s) 0 q = sg s 0 q := by
  unfold sDoom
  rw [kp_doomL hq, kp_st hq (by omega)]
theorem kp_win (hq : KQ q) : sg (sWin x k s) 0 q = sg s 0 q := by
  unfold sWin
  simp only
  split
  · rfl
  · have h0 : sg (st (st s (2 + k) 3 (-1)) (2 + find s (sg s (2 + k) 3)) 3 (-1)) 0 q = sg s 0 q := by rw [kp_st hq (by omega), kp_st hq (by omega)]
    generalize st (st s (2 + k) 3 (-1)) (2 + find s (sg s (2 + k) 3)) 3 (-1) = s1 at h0
    split
    · split
      · have h := kp_cmd (x := x) (a := 11) (b := sg s1 (2 + find s (sg s (2 + k) 3)) 8) (c := 0) (s := s1) hq
        generalize hr : sCmd x 11 (sg s1 (2 + find s (sg s (2 + k) 3)) 8) 0 s1 = r at h
        obtain ⟨r, s2⟩ := r
        simp only at h ⊢
        split
        · exact h.trans h0
        · rw [kp_doom hq, kp_go hq]
          exact h.trans h0
      · rw [kp_doom hq, kp_go hq]
        exact h0
    · rw [kp_doom hq]
      exact h0
theorem kp_drop1 (hq : KQ q) : ∀ (n : Nat) (k : Int) (s : TS), sg (sDrop1 x n k s) 0 q = sg s 0 q := by
  intro n
  induction n with
  | zero => intro k s; rfl
  | succ n ih =>
    intro k s
    unfold sDrop1
    split
    · split
      · split
        · rw [ih, kp_cmd hq]
        · exact ih _ _
      · rfl
    · rfl
theorem kp_drop2 (hq : KQ q) : ∀ (n : Nat) (k : Int) (s : TS), sg (sDrop2 n k s) 0 q = sg s 0 q := by
  intro n
  induction n with
  | zero => intro k s; rfl
  | succ n ih =>
    intro k s
    unfold sDrop2
    split
    · rfl
    · split
      · exact ih _ _
      · rw [ih, kp_rem hq]
theorem kp_drop (hq : KQ q) : sg (sDrop x s) 0 q = sg s 0 q := by
  unfold sDrop
  simp only
  rw [kp_drop2 hq, kp_drop1 hq]
theorem kp_undo (hq : KQ q) : sg (sUndo x k s) 0 q = sg s 0 q := by
  unfold sUndo
  split
  · exact kp_go hq
  · rename_i v t hu
    have h := kp_cmd (x := x) (a := 8) (b := v / 1000) (c := v % 1000) (s := stu s t) hq
    generalize hr : sCmd x 8 (v / 1000) (v % 1000) (stu s t) = r at h
    obtain ⟨r, s1⟩ := r
    simp only at h ⊢
    rw [kp_wait hq]
    exact h
theorem kp_patch (hq : KQ q) : sg (sPatch x p s).2 0 q = sg s 0 q := by
  unfold sPatch
  split
  · split
    · show sg (sCmd x 12 p 0 _).2 0 q = _
      rw [kp_cmd hq, kp_st hq (by omega)]
    · rfl
  · rfl
theorem kp_bare (hk : 0 ≤ k) (hq : KQ q) : sg (sBare k s).2 0 q = sg s 0 q := by
  unfold sBare
  simp only
  generalize (if 0 < sg s (2 + k) 5 then sg s (2 + k) 5 - 1 else 0) = y
  split
  · show sg (st (st s (2 + k) 5 y) (2 + k) 6 0) 0 q = _
    rw [kp_st hq (by omega), kp_st hq (by omega)]
  · show sg (st (st s (2 + k) 5 y) (2 + k) 6 _) 0 q = _
    rw [kp_st hq (by omega), kp_st hq (by omega)]
theorem kp_cw {kd : Int} (hq : KQ q) : sg (match sCmd x kd a b s with
    | (r, s1) => sWait k w r s1) 0 q = sg s 0 q := by
  have h := kp_cmd (x := x) (a := kd) (b := a) (c := b) (s := s) hq
  generalize hr : sCmd x kd a b s = r at h
  obtain ⟨r, s1⟩ := r
  simp only at h ⊢
  rw [kp_wait hq]
  exact h
theorem sl0 : sLine x k 0 a b s = sGo k (sg s (2 + k) 4 + 1) (st s 1 a b) := rfl
theorem sl1 : sLine x k 1 a b s = sGo k (sg s (2 + k) 4 + 1) (st s 1 a ((sg s 1 a + sg s 1 b) % 1000)) := rfl
theorem sl2 : sLine x k 2 a b s = (match sCmd x 8 a (sg s 1 b) s with
    | (r, s1) => sWait k 1 r s1) := rfl
theorem sl3 : sLine x k 3 a b s = (match sCmd x 9 a 0 s with
    | (r, s1) => sWait k 1 r s1) := rfl
theorem sl4 : sLine x k 4 a b s = sWait k 3 a s := rfl
theorem sl5 : sLine x k 5 a b s = (match sCmd x 10 a (sg s 1 b) s with
    | (r, s1) => sWait k 1 r s1) := rfl
theorem sl6 : sLine x k 6 a b s = (if sg s 1 a = 0 then sGo k b s else sGo k (sg s (2 + k) 4 + 1) s) := rfl
theorem sl7 : sLine x k 7 a b s = sGo k a s := rfl
theorem sl8 : sLine x k 8 a b s = sBelow k a (sGo k (sg s (2 + k) 4 + 1) s) := rfl
theorem sl9 : sLine x k 9 a b s = sWait k 4 0 s := rfl
theorem sl10 : sLine x k 10 a b s = sRace k a (sGo k (sg s (2 + k) 4 + 1) s) := rfl
theorem sl11 : sLine x k 11 a b s = sDrop x (sWin x k (sGo k (sg s (2 + k) 4 + 1) s)) := rfl
theorem sl12 : sLine x k 12 a b s = sth (sGo k (sg s (2 + k) 4 + 1) s) k (a :: sh s k) := rfl
theorem sl13 : sLine x k 13 a b s = sth (sGo k (sg s (2 + k) 4 + 1) s) k (sh s k).tail := rfl
theorem sl14 : sLine x k 14 a b s = sGo k (sg s (2 + k) 4 + 1) (stu s ((1000 * a + sg s 1 b) :: su s)) := rfl
theorem sl15 : sLine x k 15 a b s = sUndo x k s := rfl
theorem sl16 : sLine x k 16 a b s = sEnd x k s := rfl
theorem sl17 : sLine x k 17 a b s = sFail x k s := rfl
theorem sl18 : sLine x k 18 a b s = (match sCmd x 16 (sg s 1 a) 0 s with
    | (r, s1) => if r < 0 then s1 else st s1 0 9 16) := rfl
theorem sl19 : sLine x k 19 a b s = (match sPatch x a s with
    | (p, s1) => sGo k (if p then sg s (2 + k) 4 + 1 else b) s1) := rfl
theorem sl20 : sLine x k 20 a b s = sGo k (sg s (2 + k) 4 + 1) (st s 1 a (ew (x.2.1 (sg s 0 28)) % 1024)) := rfl
theorem sl21 : sLine x k 21 a b s = sGo k (sg s (2 + k) 4 + 1) (st s (2 + k) 5 (sg s (2 + k) 5 + 1)) := rfl
theorem sl22 : sLine x k 22 a b s = (match sBare k s with
    | (f, s1) => if f then sFail x k (sGo k (sg s (2 + k) 4 + 1) s1) else sGo k (sg s (2 + k) 4 + 1) s1) := rfl
theorem sl23 : sLine x k 23 a b s = sGo k (sg s (2 + k) 4 + 1) (sCmd x 13 (sg s 1 a) 0 s).2 := rfl
theorem sl_o (h : c < 0 ∨ 23 < c) : sLine x k c a b s = sLine x k 22 a b s := by
  rw [sl22]
  unfold sLine
  rw [if_neg (show ¬ (c = 0) by omega), if_neg (show ¬ (c = 1) by omega), if_neg (show ¬ (c = 2) by omega), if_neg (show ¬ (c = 3) by omega), if_neg (show ¬ (c = 4) by omega), if_neg (show ¬ (c = 5) by omega), if_neg (show ¬ (c = 6) by omega), if_neg (show ¬ (c = 7) by omega), if_neg (show ¬ (c = 8) by omega), if_neg (show ¬ (c = 9) by omega), if_neg (show ¬ (c = 10) by omega), if_neg (show ¬ (c = 11) by omega), if_neg (show ¬ (c = 12) by omega), if_neg (show ¬ (c = 13) by omega), if_neg (show ¬ (c = 14) by omega), if_neg (show ¬ (c = 15) by omega), if_neg (show ¬ (c = 16) by omega), if_neg (show ¬ (c = 17) by omega), if_neg (show ¬ (c = 18) by omega), if_neg (show ¬ (c = 19) by omega), if_neg (show ¬ (c = 20) by omega), if_neg (show ¬ (c = 21) by omega), if_neg (show ¬ (c = 23) by omega)]
theorem kp_line (h0 : 0 ≤ c) (h1 : c ≤ 23) (h5 : 0 ≤ sg s 0 5) (hk : 0 ≤ k) (hq : KQ q) : sg (sLine x k c a b s) 0 q = sg s 0 q := by
  have g5 : 0 ≤ sg (sGo k (sg s (2 + k) 4 + 1) s) 0 5 := by rw [go_g, if_neg (by omega), if_neg (by omega)]; exact h5
  have hc : c = 0 ∨ c = 1 ∨ c = 2 ∨ c = 3 ∨ c = 4 ∨ c = 5 ∨ c = 6 ∨ c = 7 ∨ c = 8 ∨ c = 9 ∨ c = 10 ∨ c = 11 ∨ c = 12 ∨ c = 13 ∨ c = 14 ∨ c = 15 ∨ c = 16 ∨ c = 17 ∨ c = 18 ∨ c = 19 ∨ c = 20 ∨ c = 21 ∨ c = 22 ∨ c = 23 := by omega
  rcases hc with rfl | rfl | rfl | rfl | rfl | rfl | rfl | rfl | rfl | rfl | rfl | rfl | rfl | rfl | rfl | rfl | rfl | rfl | rfl | rfl | rfl | rfl | rfl | rfl
  · rw [sl0]
    rw [kp_go hq, kp_st hq (by omega)]
  · rw [sl1]
    rw [kp_go hq, kp_st hq (by omega)]
  · rw [sl2]
    exact kp_cw hq
  · rw [sl3]
    exact kp_cw hq
  · rw [sl4]
    exact kp_wait hq
  · rw [sl5]
    exact kp_cw hq
  · rw [sl6]
    split <;> exact kp_go hq
  · rw [sl7]
    exact kp_go hq
  · rw [sl8]
    rw [kp_below g5 hq, kp_go hq]
  · rw [sl9]
    exact kp_wait hq
  · rw [sl10]
    rw [kp_race g5 hk hq, kp_go hq]
  · rw [sl11]
    rw [kp_drop hq, kp_win hq, kp_go hq]
  · rw [sl12]
    exact kp_go hq
  · rw [sl13]
    exact kp_go hq
  · rw [sl14]
    exact kp_go (s := stu s _) hq
  · rw [sl15]
    exact kp_undo hq
  · rw [sl16]
    exact kp_end hq
  · rw [sl17]
    exact kp_fail hk hq
  · rw [sl18]
    have h := kp_cmd (x := x) (a := 16) (b := sg s 1 a) (c := 0) (s := s) hq
    generalize hr : sCmd x 16 (sg s 1 a) 0 s = r at h
    obtain ⟨r, s1⟩ := r
    simp only at h ⊢
    split
    · exact h
    · rw [kp_st hq (by omega)]
      exact h
  · rw [sl19]
    have h := kp_patch (x := x) (p := a) (s := s) hq
    generalize hr : sPatch x a s = r at h
    obtain ⟨r, s1⟩ := r
    simp only at h ⊢
    rw [kp_go hq]
    exact h
  · rw [sl20]
    rw [kp_go hq, kp_st hq (by omega)]
  · rw [sl21]
    rw [kp_go hq, kp_st hq (by omega)]
  · rw [sl22]
    have h := kp_bare (k := k) (s := s) hk hq
    generalize hr : sBare k s = r at h
    obtain ⟨r, s1⟩ := r
    simp only at h ⊢
    split
    · rw [kp_fail hk hq, kp_go hq]
      exact h
    · rw [kp_go hq]
      exact h
  · rw [sl23]
    rw [kp_go hq, kp_cmd hq]
theorem kp_lineA (h5 : 0 ≤ sg s 0 5) (hk : 0 ≤ k) (hq : KQ q) : sg (sLine x k c a b s) 0 q = sg s 0 q := by
  by_cases h : c < 0 ∨ 23 < c
  · rw [sl_o h]
    exact kp_line (by decide) (by decide) h5 hk hq
  · exact kp_line (by omega) (by omega) h5 hk hq
theorem kp_awake (hq : KQ q) : sg (sAwake x k s) 0 q = sg s 0 q := by
  unfold sAwake
  split
  · rw [kp_go hq]
    exact kp_st (s := s) (a' := 1) (j' := bOf x (sg s (2 + k) 4)) (v' := (sq s (sg s (2 + k) 8)).headD 0) hq (Or.inl (by decide))
  · exact kp_go hq
theorem kp_turn (h5 : 0 ≤ sg s 0 5) (hk : 0 ≤ k) (hq : KQ q) : sg (sTurn x k s) 0 q = sg s 0 q := by
  unfold sTurn
  split
  · exact kp_awake hq
  split
  · exact kp_end hq
  split
  · exact kp_stuck hq
  · rw [kp_lineA (by rw [st_g, if_neg (by omega), st_g, if_neg (by omega)]; exact h5) hk hq, kp_st hq (by omega), kp_st hq (by omega)]
theorem kp_tell (hq : KQ q) : ∀ (n : Nat) (k : Int) (s : TS), 0 ≤ k → sg (sTell x n k s) 0 q = sg s 0 q := by
  intro n
  induction n with
  | zero => intro k s hk; rfl
  | succ n ih =>
    intro k s hk
    unfold sTell
    split
    · split
      · split
        · rw [ih _ _ (by omega), kp_st hq (by omega)]
        split
        · have h := kp_cmd (x := x) (a := 11) (b := sg s (2 + k) 8) (c := 0) (s := s) hq
          generalize hr : sCmd x 11 (sg s (2 + k) 8) 0 s = r at h
          obtain ⟨r, s1⟩ := r
          simp only at h ⊢
          split
          · rw [ih _ _ (by omega)]
            exact h
          · rw [ih _ _ (by omega), kp_fail hk hq]
            exact h
        · rw [ih _ _ (by omega), kp_fail hk hq]
      · rfl
    · rfl
theorem kp_note (h5 : 0 ≤ sg s 0 5) (hq : KQ q) : sg (sNote x k a b s) 0 q = sg s 0 q := by
  have hf : sg (sFailed x (wtr s a) s) 0 q = sg s 0 q := by
    unfold sFailed
    split
    · rfl
    split
    · exact kp_go hq
    · exact kp_fail (by omega) hq
  unfold sNote
  split
  · rw [kp_begin (by rw [st_g, if_neg (by omega), st_g, if_neg (by omega)]; exact h5) hq, kp_st hq (by omega), kp_st hq (by omega)]
  split
  · exact hf
  split
  · exact hf
  split
  · exact kp_st (s := stq s a (sq s a ++ [b])) hq (by omega)
  split
  · rw [kp_tell hq _ _ _ (by decide), kp_st hq (by omega)]
  · unfold sEnded
    split
    · rfl
    split
    · exact kp_go hq
    split
    · exact kp_go hq
    · rw [kp_go hq, kp_st hq (by omega)]
/-- the news grow -/
theorem nl_cw {kd : Int} : nl s ≤ nl (match sCmd x kd a b s with
    | (r, s1) => sWait k w r s1) := by
  have h := nl_cmd (x := x) (a := kd) (b := a) (c := b) (s := s)
  generalize hr : sCmd x kd a b s = r at h
  obtain ⟨r, s1⟩ := r
  exact h
theorem nl_end : nl s ≤ nl (sEnd x k s) := by
  unfold sEnd
  split
  · have h := nl_cmd (x := x) (a := 14) (b := sg s 1 0) (c := 0) (s := s)
    generalize hr : sCmd x 14 (sg s 1 0) 0 s = r at h
    obtain ⟨r, s1⟩ := r
    simp only at h ⊢
    split <;> exact h
  · exact Int.le_refl _
theorem nl_race : nl (sRace k l s) = nl s := by
  unfold sRace
  split
  · simp only
    split <;> rfl
  · rfl
theorem nl_line (h0 : 0 ≤ c) (h1 : c ≤ 23) : nl s ≤ nl (sLine x k c a b s) := by
  have hc : c = 0 ∨ c = 1 ∨ c = 2 ∨ c = 3 ∨ c = 4 ∨ c = 5 ∨ c = 6 ∨ c = 7 ∨ c = 8 ∨ c = 9 ∨ c = 10 ∨ c = 11 ∨ c = 12 ∨ c = 13 ∨ c = 14 ∨ c = 15 ∨ c = 16 ∨ c = 17 ∨ c = 18 ∨ c = 19 ∨ c = 20 ∨ c = 21 ∨ c = 22 ∨ c = 23 := by omega
  rcases hc with rfl | rfl | rfl | rfl | rfl | rfl | rfl | rfl | rfl | rfl | rfl | rfl | rfl | rfl | rfl | rfl | rfl | rfl | rfl | rfl | rfl | rfl | rfl | rfl
  · rw [sl0]
    exact Int.le_refl _
  · rw [sl1]
    exact Int.le_refl _
  · rw [sl2]
    exact nl_cw
  · rw [sl3]
    exact nl_cw
  · rw [sl4]
    exact Int.le_refl _
  · rw [sl5]
    exact nl_cw
  · rw [sl6]
    split <;> exact Int.le_refl _
  · rw [sl7]
    exact Int.le_refl _
  · rw [sl8]
    unfold sBelow
    split <;> exact Int.le_refl _
  · rw [sl9]
    exact Int.le_refl _
  · rw [sl10]
    rw [nl_race]
    exact Int.le_refl _
  · rw [sl11]
    have n1 : nl (sDrop x (sWin x k (sGo k (sg s (2 + k) 4 + 1) s))) = nl (sDrop1 x 13 0 (sWin x k (sGo k (sg s (2 + k) 4 + 1) s))) := nl_drop2 _ _ _
    have n2 := nl_drop1 (x := x) 13 0 (sWin x k (sGo k (sg s (2 + k) 4 + 1) s))
    have n3 := nl_win (x := x) (k := k) (s := sGo k (sg s (2 + k) 4 + 1) s)
    have n4 : nl (sGo k (sg s (2 + k) 4 + 1) s) = nl s := rfl
    omega
  · rw [sl12]
    exact Int.le_refl _
  · rw [sl13]
    exact Int.le_refl _
  · rw [sl14]
    exact Int.le_refl _
  · rw [sl15]
    unfold sUndo
    split
    · exact Int.le_refl _
    · exact nl_cw (s := stu s _)
  · rw [sl16]
    exact nl_end
  · rw [sl17]
    exact nl_fail
  · rw [sl18]
    have h := nl_cmd (x := x) (a := 16) (b := sg s 1 a) (c := 0) (s := s)
    generalize hr : sCmd x 16 (sg s 1 a) 0 s = r at h
    obtain ⟨r, s1⟩ := r
    simp only at h ⊢
    split <;> exact h
  · rw [sl19]
    have h : nl s ≤ nl (sPatch x a s).2 := by
      unfold sPatch
      split
      · split
        · exact nl_cmd (s := st s 0 7 _)
        · exact Int.le_refl _
      · exact Int.le_refl _
    generalize hr : sPatch x a s = r at h
    obtain ⟨r, s1⟩ := r
    exact h
  · rw [sl20]
    exact Int.le_refl _
  · rw [sl21]
    exact Int.le_refl _
  · rw [sl22]
    have h : nl (sBare k s).2 = nl s := by
      unfold sBare
      simp only
      split <;> split <;> rfl
    generalize hr : sBare k s = r at h
    obtain ⟨r, s1⟩ := r
    simp only at h ⊢
    have e : nl (sGo k (sg s (2 + k) 4 + 1) s1) = nl s := h
    split
    · have := nl_fail (x := x) (k := k) (s := sGo k (sg s (2 + k) 4 + 1) s1)
      omega
    · omega
  · rw [sl23]
    exact nl_cmd
theorem nl_lineA : nl s ≤ nl (sLine x k c a b s) := by
  by_cases h : c < 0 ∨ 23 < c
  · rw [sl_o h]
    exact nl_line (by decide) (by decide)
  · exact nl_line (by omega) (by omega)
theorem nl_turn : nl s ≤ nl (sTurn x k s) := by
  unfold sTurn
  split
  · unfold sAwake
    split <;> exact Int.le_refl _
  split
  · exact nl_end
  split
  · exact Int.le_refl _
  · exact nl_lineA (s := st (st s 0 29 _) 0 40 _)
theorem nl_on : ∀ (n : Nat) (s : TS), nl s ≤ nl (sOn x n s) := by
  intro n
  induction n with
  | zero => intro s; exact Int.le_refl _
  | succ n ih =>
    intro s
    unfold sOn
    split
    · exact Int.le_refl _
    split
    · exact Int.le_trans nl_turn (ih _)
    · exact Int.le_refl _
end KEP
