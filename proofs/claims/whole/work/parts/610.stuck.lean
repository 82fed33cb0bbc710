/-! THE TELLING, plain: once stuck, always stuck. -/
section U30
variable {x : CX} {s s' : TS} {B : Int} {a b c e i j v k h n l w p t : Int}
theorem u_st {a' j' v' : Int} (h : a' ≠ 0 ∨ j' ≠ 30) : sg (st s a' j' v') 0 30 = sg s 0 30 := by rw [st_g, if_neg (by omega)]
theorem u_go : sg (sGo k l s) 0 30 = sg s 0 30 := by rw [go_g, if_neg (by omega), if_neg (by omega)]
theorem u_wait : sg (sWait k w n s) 0 30 = sg s 0 30 := by rw [wait_g, if_neg (by omega), if_neg (by omega)]
theorem u_stuck : sg (sStuck s v) 0 30 ≠ 0 := by
  have : sg (sStuck s v) 0 30 = 1 := rfl
  omega
theorem u_cmd (h : sg (sCmd x a b c s).2 0 30 = 0) : sg s 0 30 = 0 := by
  unfold sCmd at h
  split at h
  · split at h
    · exact h
    · exact absurd h u_stuck
  · split at h
    · exact absurd h u_stuck
    · exact h
theorem u_fail (h : sg (sFail x k s) 0 30 = 0) : sg s 0 30 = 0 := by
  unfold sFail at h
  split at h
  · rw [show ∀ q, sg (sth q k _) 0 30 = sg q 0 30 from fun _ => rfl, u_go, u_go] at h
    exact h
  · generalize hr : sCmd x 15 0 0 (sGo k (sg s (2 + k) 4) s) = r at h
    obtain ⟨r, s1⟩ := r
    simp only at h
    have h1 : sg s1 0 30 = 0 := by
      split at h
      · exact h
      · rw [u_st (by omega)] at h
        exact h
    have h2 := u_cmd (x := x) (a := 15) (b := 0) (c := 0) (s := sGo k (sg s (2 + k) 4) s) (by rw [hr]; exact h1)
    rw [u_go] at h2
    exact h2
theorem u_begin (h5 : 0 ≤ sg s 0 5) : sg (sBegin p l s) 0 30 = sg s 0 30 := by rw [begin_g (by decide), if_neg (by omega), if_neg (by omega), if_neg (by omega)]
theorem u_rem : sg (sRem k s) 0 30 = sg s 0 30 := rem_o (Or.inl ⟨rfl, by decide, by decide⟩)
theorem u_end (h : sg (sEnd x k s) 0 30 = 0) : sg s 0 30 = 0 := by
  unfold sEnd at h
  split at h
  · generalize hr : sCmd x 14 (sg s 1 0) 0 s = r at h
    obtain ⟨r, s1⟩ := r
    simp only at h
    have h1 : sg s1 0 30 = 0 := by
      split at h
      · exact h
      · rw [u_st (by omega)] at h
        exact h
    exact u_cmd (x := x) (a := 14) (b := sg s 1 0) (c := 0) (s := s) (by rw [hr]; exact h1)
  · rw [u_rem] at h
    exact h
theorem u_below (h5 : 0 ≤ sg s 0 5) (h : sg (sBelow k l s) 0 30 = 0) : sg s 0 30 = 0 := by
  unfold sBelow at h
  split at h
  · rw [u_begin h5] at h
    exact h
  · exact absurd h u_stuck
theorem u_race (h5 : 0 ≤ sg s 0 5) (h : sg (sRace k l s) 0 30 = 0) : sg s 0 30 = 0 := by
  unfold sRace at h
  split at h
  · simp only at h
    rw [u_st (by omega), u_st (by omega)] at h
    split at h
    · rw [u_begin h5] at h
      exact h
    · rw [u_st (by omega), u_begin h5] at h
      exact h
  · exact absurd h u_stuck
theorem u_doom : sg (sDoom k s) 0 30 = sg s 0 30 := by
  unfold sDoom
  rw [(sn_doomL _ _ _).2.2, u_st (by omega)]
theorem u_win (h : sg (sWin x k s) 0 30 = 0) : sg s 0 30 = 0 := by
  unfold sWin at h
  simp only at h
  split at h
  · exact h
  · have e1 : sg (st (st s (2 + k) 3 (-1)) (2 + find s (sg s (2 + k) 3)) 3 (-1)) 0 30 = sg s 0 30 := by rw [u_st (by omega), u_st (by omega)]
    generalize st (st s (2 + k) 3 (-1)) (2 + find s (sg s (2 + k) 3)) 3 (-1) = s1 at h e1
    split at h
    · split at h
      · generalize hr : sCmd x 11 (sg s1 (2 + find s (sg s (2 + k) 3)) 8) 0 s1 = r at h
        obtain ⟨r, s2⟩ := r
        simp only at h
        have h1 : sg s2 0 30 = 0 := by
          split at h
          · exact h
          · rw [u_doom, u_go] at h
            exact h
        have := u_cmd (x := x) (a := 11) (b := sg s1 (2 + find s (sg s (2 + k) 3)) 8) (c := 0) (s := s1) (by rw [hr]; exact h1)
        rw [e1] at this
        exact this
      · rw [u_doom, u_go, e1] at h
        exact h
    · rw [u_doom, e1] at h
      exact h
theorem u_drop1 : ∀ (n : Nat) (k : Int) (s : TS), sg (sDrop1 x n k s) 0 30 = 0 → sg s 0 30 = 0 := by
  intro n
  induction n with
  | zero => intro k s h; exact h
  | succ n ih =>
    intro k s h
    unfold sDrop1 at h
    split at h
    · split at h
      · split at h
        · exact u_cmd (ih _ _ h)
        · exact ih _ _ h
      · exact h
    · exact h
theorem u_drop2 : ∀ (n : Nat) (k : Int) (s : TS), sg (sDrop2 n k s) 0 30 = sg s 0 30 := by
  intro n
  induction n with
  | zero => intro k s; rfl
  | succ n ih =>
    intro k s
    unfold sDrop2
    split
    · rfl
    · split
      · exact ih _ _
      · rw [ih, u_rem]
theorem u_drop (h : sg (sDrop x s) 0 30 = 0) : sg s 0 30 = 0 := by
  unfold sDrop at h
  simp only at h
  rw [u_drop2] at h
  exact u_drop1 _ _ _ h
theorem u_cw {kd : Int} (h : sg (match sCmd x kd a b s with
    | (r, s1) => sWait k w r s1) 0 30 = 0) : sg s 0 30 = 0 := by
  generalize hr : sCmd x kd a b s = r at h
  obtain ⟨r, s1⟩ := r
  simp only at h
  rw [u_wait] at h
  exact u_cmd (x := x) (a := kd) (b := a) (c := b) (s := s) (by rw [hr]; exact h)
theorem u_line (h0 : 0 ≤ c) (h1 : c ≤ 23) (h5 : 0 ≤ sg s 0 5) (h : sg (sLine x k c a b s) 0 30 = 0) : sg s 0 30 = 0 := by
  have g5 : 0 ≤ sg (sGo k (sg s (2 + k) 4 + 1) s) 0 5 := by rw [go_g, if_neg (by omega), if_neg (by omega)]; exact h5
  have hc : c = 0 ∨ c = 1 ∨ c = 2 ∨ c = 3 ∨ c = 4 ∨ c = 5 ∨ c = 6 ∨ c = 7 ∨ c = 8 ∨ c = 9 ∨ c = 10 ∨ c = 11 ∨ c = 12 ∨ c = 13 ∨ c = 14 ∨ c = 15 ∨ c = 16 ∨ c = 17 ∨ c = 18 ∨ c = 19 ∨ c = 20 ∨ c = 21 ∨ c = 22 ∨ c = 23 := by omega
  rcases hc with rfl | rfl | rfl | rfl | rfl | rfl | rfl | rfl | rfl | rfl | rfl | rfl | rfl | rfl | rfl | rfl | rfl | rfl | rfl | rfl | rfl | rfl | rfl | rfl
  · rw [sl0, u_go, u_st (by omega)] at h; exact h
  · rw [sl1, u_go, u_st (by omega)] at h; exact h
  · rw [sl2] at h; exact u_cw h
  · rw [sl3] at h; exact u_cw h
  · rw [sl4, u_wait] at h; exact h
  · rw [sl5] at h; exact u_cw h
  · rw [sl6] at h
    split at h <;> (rw [u_go] at h; exact h)
  · rw [sl7, u_go] at h; exact h
  · rw [sl8] at h
    have := u_below g5 h
    rw [u_go] at this
    exact this
  · rw [sl9, u_wait] at h; exact h
  · rw [sl10] at h
    have := u_race g5 h
    rw [u_go] at this
    exact this
  · rw [sl11] at h
    have := u_win (u_drop h)
    rw [u_go] at this
    exact this
  · rw [sl12, show ∀ q t, sg (sth q k t) 0 30 = sg q 0 30 from fun _ _ => rfl, u_go] at h; exact h
  · rw [sl13, show ∀ q t, sg (sth q k t) 0 30 = sg q 0 30 from fun _ _ => rfl, u_go] at h; exact h
  · rw [sl14, u_go] at h; exact h
  · rw [sl15] at h
    unfold sUndo at h
    split at h
    · rw [u_go] at h; exact h
    · rename_i v t hu
      exact u_cw (s := stu s t) h
  · rw [sl16] at h; exact u_end h
  · rw [sl17] at h; exact u_fail h
  · rw [sl18] at h
    generalize hr : sCmd x 16 (sg s 1 a) 0 s = r at h
    obtain ⟨r, s1⟩ := r
    simp only at h
    have h1 : sg s1 0 30 = 0 := by
      split at h
      · exact h
      · rw [u_st (by omega)] at h
        exact h
    exact u_cmd (x := x) (a := 16) (b := sg s 1 a) (c := 0) (s := s) (by rw [hr]; exact h1)
  · rw [sl19] at h
    have hp : sg (sPatch x a s).2 0 30 = 0 → sg s 0 30 = 0 := by
      intro hh
      unfold sPatch at hh
      split at hh
      · split at hh
        · have := u_cmd (s := st s 0 7 _) hh
          rw [u_st (by omega)] at this
          exact this
        · exact hh
      · exact hh
    generalize hr : sPatch x a s = r at h hp
    obtain ⟨r, s1⟩ := r
    simp only at h hp
    rw [u_go] at h
    exact hp h
  · rw [sl20, u_go, u_st (by omega)] at h; exact h
  · rw [sl21, u_go, u_st (by omega)] at h; exact h
  · rw [sl22] at h
    have hb : sg (sBare k s).2 0 30 = sg s 0 30 := by
      unfold sBare
      simp only
      generalize (if 0 < sg s (2 + k) 5 then sg s (2 + k) 5 - 1 else 0) = y
      split
      · show sg (st (st s (2 + k) 5 y) (2 + k) 6 0) 0 30 = _
        rw [u_st (by omega), u_st (by omega)]
      · show sg (st (st s (2 + k) 5 y) (2 + k) 6 _) 0 30 = _
        rw [u_st (by omega), u_st (by omega)]
    generalize hr : sBare k s = r at h hb
    obtain ⟨r, s1⟩ := r
    simp only at h hb
    rw [← hb]
    split at h
    · have := u_fail h
      rw [u_go] at this
      exact this
    · rw [u_go] at h
      exact h
  · rw [sl23, u_go] at h; exact u_cmd h
theorem u_turn (hcw : CodeW x) (hl0 : 0 ≤ sg s (2 + k) 4) (h5 : 0 ≤ sg s 0 5) (h : sg (sTurn x k s) 0 30 = 0) : sg s 0 30 = 0 := by
  unfold sTurn at h
  split at h
  · unfold sAwake at h
    split at h
    · rw [u_go, show ∀ q n t, sg (stq q n t) 0 30 = sg q 0 30 from fun _ _ _ => rfl, u_st (by omega)] at h
      exact h
    · rw [u_go] at h
      exact h
  · split at h
    · exact u_end h
    · split at h
      · exact absurd h u_stuck
      · rename_i g1 g2 g3
        have hw := hcw (sg s (2 + k) 4) hl0 (by omega)
        have := u_line hw.1 hw.2.1 (by rw [st_g, if_neg (by omega), st_g, if_neg (by omega)]; exact h5) h
        rw [u_st (by omega), u_st (by omega)] at this
        exact this
theorem u_tell : ∀ (n : Nat) (k : Int) (s : TS), sg (sTell x n k s) 0 30 = 0 → sg s 0 30 = 0 := by
  intro n
  induction n with
  | zero => intro k s h; exact h
  | succ n ih =>
    intro k s h
    unfold sTell at h
    split at h
    · split at h
      · split at h
        · have := ih _ _ h
          rw [u_st (by omega)] at this
          exact this
        · split at h
          · generalize hr : sCmd x 11 (sg s (2 + k) 8) 0 s = r at h
            obtain ⟨r, s1⟩ := r
            simp only at h
            have h1 : sg s1 0 30 = 0 := by
              split at h
              · exact ih _ _ h
              · exact u_fail (ih _ _ h)
            exact u_cmd (x := x) (a := 11) (b := sg s (2 + k) 8) (c := 0) (s := s) (by rw [hr]; exact h1)
          · exact u_fail (ih _ _ h)
      · exact h
    · exact h
theorem u_note (h5 : 0 ≤ sg s 0 5) (h : sg (sNote x k a b s) 0 30 = 0) : sg s 0 30 = 0 := by
  have hf : sg (sFailed x (wtr s a) s) 0 30 = 0 → sg s 0 30 = 0 := by
    intro hh
    unfold sFailed at hh
    split at hh
    · exact hh
    · split at hh
      · rw [u_go] at hh; exact hh
      · exact u_fail hh
  unfold sNote at h
  split at h
  · rw [u_begin (by rw [st_g, if_neg (by omega), st_g, if_neg (by omega)]; exact h5), u_st (by omega), u_st (by omega)] at h
    exact h
  · split at h
    · exact hf h
    · split at h
      · exact hf h
      · split at h
        · rw [u_st (by omega)] at h
          exact h
        · split at h
          · have := u_tell _ _ _ h
            rw [u_st (by omega)] at this
            exact this
          · unfold sEnded at h
            split at h
            · exact h
            · split at h
              · rw [u_go] at h; exact h
              · split at h
                · rw [u_go] at h; exact h
                · rw [u_go, u_st (by omega)] at h; exact h
end U30
