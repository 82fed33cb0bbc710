/-! THE TELLING, plain: what is asked of a state at the end holds before (made from 610). -/
section OKB
variable {x : CX} {s s' : TS} {B : Int} {a b c e i j v k h n l w p t : Int} {Ok : TS → Prop}
/-- Ok looks at whether a run is stuck, by what, at the pointer to commands and at the news alone, and holds before a command where it holds behind it -/
def OKH (x : CX) (Ok : TS → Prop) : Prop := (∀ s s' : TS, sg s' 0 30 = sg s 0 30 → sg s' 0 12 = sg s 0 12 → sg s' 0 31 = sg s 0 31 → sn s' = sn s → (Ok s' ↔ Ok s)) ∧ (∀ (s : TS) (k a b : Int), Ok (sCmd x k a b s).2 → Ok s) ∧ ∀ (s : TS) (v : Int), Ok (sStuck s v) → Ok s
theorem o_sx (O : OKH x Ok) {l : List Int} : Ok (sth s k l) ↔ Ok s := O.1 _ _ rfl rfl rfl rfl
theorem o_qx (O : OKH x Ok) {l : List Int} : Ok (stq s k l) ↔ Ok s := O.1 _ _ rfl rfl rfl rfl
theorem o_ux (O : OKH x Ok) {l : List Int} : Ok (stu s l) ↔ Ok s := O.1 _ _ rfl rfl rfl rfl
theorem o_st (O : OKH x Ok) {a' j' v' : Int} (h : a' ≠ 0 ∨ (j' ≠ 30 ∧ j' ≠ 12 ∧ j' ≠ 31)) : Ok (st s a' j' v') ↔ Ok s := O.1 _ _ (u_st (by omega)) (by rw [st_g, if_neg (by omega)]) (by rw [st_g, if_neg (by omega)]) rfl
theorem o_go (O : OKH x Ok) : Ok (sGo k l s) ↔ Ok s := O.1 _ _ u_go (by rw [go_g, if_neg (by omega), if_neg (by omega)]) (by rw [go_g, if_neg (by omega), if_neg (by omega)]) rfl
theorem o_wait (O : OKH x Ok) : Ok (sWait k w n s) ↔ Ok s := O.1 _ _ u_wait (by rw [wait_g, if_neg (by omega), if_neg (by omega)]) (by rw [wait_g, if_neg (by omega), if_neg (by omega)]) rfl
theorem o_cmd (O : OKH x Ok) (h : Ok (sCmd x a b c s).2) : Ok s := O.2.1 _ _ _ _ h
theorem o_begin (O : OKH x Ok) (h5 : 0 ≤ sg s 0 5) : Ok (sBegin p l s) ↔ Ok s := O.1 _ _ (u_begin h5) (by rw [begin_g (by decide), if_neg (by omega), if_neg (by omega), if_neg (by omega)]) (by rw [begin_g (by decide), if_neg (by omega), if_neg (by omega), if_neg (by omega)]) rfl
theorem o_rem (O : OKH x Ok) : Ok (sRem k s) ↔ Ok s := O.1 _ _ u_rem (rem_o (Or.inl ⟨rfl, by decide, by decide⟩)) (rem_o (Or.inl ⟨rfl, by decide, by decide⟩)) rfl
theorem doom_12 {j : Int} (hj : j ≠ 9) : sg (sDoom k s) 0 j = sg s 0 j := by
  have key : ∀ (n : Nat) (k : Int) (s : TS), sg (sDoomL n k s) 0 j = sg s 0 j := by
    intro n
    induction n with
    | zero => intro k s; rfl
    | succ n ih =>
      intro k s
      unfold sDoomL
      split
      · split
        · exact ih _ _
        · split
          · exact ih _ _
          · rw [ih, st_g, if_neg (by omega)]
      · rfl
  unfold sDoom
  rw [key, st_g, if_neg (by omega)]
theorem o_doom (O : OKH x Ok) : Ok (sDoom k s) ↔ Ok s := O.1 _ _ u_doom (doom_12 (by decide)) (doom_12 (by decide)) ((sn_doomL _ _ _).1)
theorem sn_drop2 : ∀ (n : Nat) (k : Int) (s : TS), sn (sDrop2 n k s) = sn s := by
  intro n
  induction n with
  | zero => intro k s; rfl
  | succ n ih =>
    intro k s
    unfold sDrop2
    split
    · rfl
    · split
      · exact ih _ _
      · rw [ih]; rfl
theorem o_drop2 (O : OKH x Ok) {n : Nat} : Ok (sDrop2 n k s) ↔ Ok s := O.1 _ _ (u_drop2 _ _ _) (drop2_s _ _ _).2.2.1 (drop2_s _ _ _).1 (sn_drop2 _ _ _)
theorem o_fail (O : OKH x Ok) (h : Ok (sFail x k s)) : Ok s := by
  unfold sFail at h
  split at h
  · rw [o_sx O, o_go O, o_go O] at h
    exact h
  · generalize hr : sCmd x 15 0 0 (sGo k (sg s (2 + k) 4) s) = r at h
    obtain ⟨r, s1⟩ := r
    simp only at h
    have h1 : Ok s1 := by
      split at h
      · exact h
      · rw [o_st O (by omega)] at h
        exact h
    have h2 := o_cmd O (x := x) (a := 15) (b := 0) (c := 0) (s := sGo k (sg s (2 + k) 4) s) (by rw [hr]; exact h1)
    rw [o_go O] at h2
    exact h2
theorem o_end (O : OKH x Ok) (h : Ok (sEnd x k s)) : Ok s := by
  unfold sEnd at h
  split at h
  · generalize hr : sCmd x 14 (sg s 1 0) 0 s = r at h
    obtain ⟨r, s1⟩ := r
    simp only at h
    have h1 : Ok s1 := by
      split at h
      · exact h
      · rw [o_st O (by omega)] at h
        exact h
    exact o_cmd O (x := x) (a := 14) (b := sg s 1 0) (c := 0) (s := s) (by rw [hr]; exact h1)
  · rw [o_rem O] at h
    exact h
theorem o_below (O : OKH x Ok) (h5 : 0 ≤ sg s 0 5) (h : Ok (sBelow k l s)) : Ok s := by
  unfold sBelow at h
  split at h
  · rw [o_begin O h5] at h
    exact h
  · exact O.2.2 _ _ h
theorem o_race (O : OKH x Ok) (h5 : 0 ≤ sg s 0 5) (h : Ok (sRace k l s)) : Ok s := by
  unfold sRace at h
  split at h
  · simp only at h
    rw [o_st O (by omega), o_st O (by omega)] at h
    split at h
    · rw [o_begin O h5] at h
      exact h
    · rw [o_st O (by omega), o_begin O h5] at h
      exact h
  · exact O.2.2 _ _ h
theorem o_win (O : OKH x Ok) (h : Ok (sWin x k s)) : Ok s := by
  unfold sWin at h
  simp only at h
  split at h
  · exact h
  · have e1 : (Ok (st (st s (2 + k) 3 (-1)) (2 + find s (sg s (2 + k) 3)) 3 (-1)) ↔ Ok s) := by rw [o_st O (by omega), o_st O (by omega)]
    generalize st (st s (2 + k) 3 (-1)) (2 + find s (sg s (2 + k) 3)) 3 (-1) = s1 at h e1
    split at h
    · split at h
      · generalize hr : sCmd x 11 (sg s1 (2 + find s (sg s (2 + k) 3)) 8) 0 s1 = r at h
        obtain ⟨r, s2⟩ := r
        simp only at h
        have h1 : Ok s2 := by
          split at h
          · exact h
          · rw [o_doom O, o_go O] at h
            exact h
        have := o_cmd O (x := x) (a := 11) (b := sg s1 (2 + find s (sg s (2 + k) 3)) 8) (c := 0) (s := s1) (by rw [hr]; exact h1)
        rw [e1] at this
        exact this
      · rw [o_doom O, o_go O, e1] at h
        exact h
    · rw [o_doom O, e1] at h
      exact h
theorem o_drop1 (O : OKH x Ok) : ∀ (n : Nat) (k : Int) (s : TS), Ok (sDrop1 x n k s) → Ok s := by
  intro n
  induction n with
  | zero => intro k s h; exact h
  | succ n ih =>
    intro k s h
    unfold sDrop1 at h
    split at h
    · split at h
      · split at h
        · exact o_cmd O (ih _ _ h)
        · exact ih _ _ h
      · exact h
    · exact h
theorem o_drop (O : OKH x Ok) (h : Ok (sDrop x s)) : Ok s := by
  unfold sDrop at h
  simp only at h
  rw [o_drop2 O] at h
  exact o_drop1 O _ _ _ h
theorem o_cw (O : OKH x Ok) {kd : Int} (h : Ok (match sCmd x kd a b s with
    | (r, s1) => sWait k w r s1)) : Ok s := by
  generalize hr : sCmd x kd a b s = r at h
  obtain ⟨r, s1⟩ := r
  simp only at h
  rw [o_wait O] at h
  exact o_cmd O (x := x) (a := kd) (b := a) (c := b) (s := s) (by rw [hr]; exact h)
theorem o_line (O : OKH x Ok) (h0 : 0 ≤ c) (h1 : c ≤ 23) (h5 : 0 ≤ sg s 0 5) (h : Ok (sLine x k c a b s)) : Ok s := by
  have g5 : 0 ≤ sg (sGo k (sg s (2 + k) 4 + 1) s) 0 5 := by rw [go_g, if_neg (by omega), if_neg (by omega)]; exact h5
  have hc : c = 0 ∨ c = 1 ∨ c = 2 ∨ c = 3 ∨ c = 4 ∨ c = 5 ∨ c = 6 ∨ c = 7 ∨ c = 8 ∨ c = 9 ∨ c = 10 ∨ c = 11 ∨ c = 12 ∨ c = 13 ∨ c = 14 ∨ c = 15 ∨ c = 16 ∨ c = 17 ∨ c = 18 ∨ c = 19 ∨ c = 20 ∨ c = 21 ∨ c = 22 ∨ c = 23 := by omega
  rcases hc with rfl | rfl | rfl | rfl | rfl | rfl | rfl | rfl | rfl | rfl | rfl | rfl | rfl | rfl | rfl | rfl | rfl | rfl | rfl | rfl | rfl | rfl | rfl | rfl
  · rw [sl0, o_go O, o_st O (by omega)] at h; exact h
  · rw [sl1, o_go O, o_st O (by omega)] at h; exact h
  · rw [sl2] at h; exact o_cw O h
  · rw [sl3] at h; exact o_cw O h
  · rw [sl4, o_wait O] at h; exact h
  · rw [sl5] at h; exact o_cw O h
  · rw [sl6] at h
    split at h <;> (rw [o_go O] at h; exact h)
  · rw [sl7, o_go O] at h; exact h
  · rw [sl8] at h
    have := o_below O g5 h
    rw [o_go O] at this
    exact this
  · rw [sl9, o_wait O] at h; exact h
  · rw [sl10] at h
    have := o_race O g5 h
    rw [o_go O] at this
    exact this
  · rw [sl11] at h
    have := o_win O (o_drop O h)
    rw [o_go O] at this
    exact this
  · rw [sl12, o_sx O, o_go O] at h; exact h
  · rw [sl13, o_sx O, o_go O] at h; exact h
  · rw [sl14, o_go O, o_ux O] at h; exact h
  · rw [sl15] at h
    unfold sUndo at h
    split at h
    · rw [o_go O] at h; exact h
    · rename_i v t hu
      exact (o_ux O).mp (o_cw O (s := stu s t) h)
  · rw [sl16] at h; exact o_end O h
  · rw [sl17] at h; exact o_fail O h
  · rw [sl18] at h
    generalize hr : sCmd x 16 (sg s 1 a) 0 s = r at h
    obtain ⟨r, s1⟩ := r
    simp only at h
    have h1 : Ok s1 := by
      split at h
      · exact h
      · rw [o_st O (by omega)] at h
        exact h
    exact o_cmd O (x := x) (a := 16) (b := sg s 1 a) (c := 0) (s := s) (by rw [hr]; exact h1)
  · rw [sl19] at h
    have hp : Ok (sPatch x a s).2 → Ok s := by
      intro hh
      unfold sPatch at hh
      split at hh
      · split at hh
        · have := o_cmd O (s := st s 0 7 _) hh
          rw [o_st O (by omega)] at this
          exact this
        · exact hh
      · exact hh
    generalize hr : sPatch x a s = r at h hp
    obtain ⟨r, s1⟩ := r
    simp only at h hp
    rw [o_go O] at h
    exact hp h
  · rw [sl20, o_go O, o_st O (by omega)] at h; exact h
  · rw [sl21, o_go O, o_st O (by omega)] at h; exact h
  · rw [sl22] at h
    have hb : (Ok (sBare k s).2 ↔ Ok s) := by
      unfold sBare
      simp only
      generalize (if 0 < sg s (2 + k) 5 then sg s (2 + k) 5 - 1 else 0) = y
      split
      · show Ok (st (st s (2 + k) 5 y) (2 + k) 6 0) ↔ _
        rw [o_st O (by omega), o_st O (by omega)]
      · show Ok (st (st s (2 + k) 5 y) (2 + k) 6 _) ↔ _
        rw [o_st O (by omega), o_st O (by omega)]
    generalize hr : sBare k s = r at h hb
    obtain ⟨r, s1⟩ := r
    simp only at h hb
    rw [← hb]
    split at h
    · have := o_fail O h
      rw [o_go O] at this
      exact this
    · rw [o_go O] at h
      exact h
  · rw [sl23, o_go O] at h; exact o_cmd O h
theorem o_turn (O : OKH x Ok) (hcw : CodeW x) (hl0 : 0 ≤ sg s (2 + k) 4) (h5 : 0 ≤ sg s 0 5) (h : Ok (sTurn x k s)) : Ok s := by
  unfold sTurn at h
  split at h
  · unfold sAwake at h
    split at h
    · rw [o_go O, o_qx O, o_st O (by omega)] at h
      exact h
    · rw [o_go O] at h
      exact h
  · split at h
    · exact o_end O h
    · split at h
      · exact O.2.2 _ _ h
      · rename_i g1 g2 g3
        have hw := hcw (sg s (2 + k) 4) hl0 (by omega)
        have := o_line O hw.1 hw.2.1 (by rw [st_g, if_neg (by omega), st_g, if_neg (by omega)]; exact h5) h
        rw [o_st O (by omega), o_st O (by omega)] at this
        exact this
theorem o_tell (O : OKH x Ok) : ∀ (n : Nat) (k : Int) (s : TS), Ok (sTell x n k s) → Ok s := by
  intro n
  induction n with
  | zero => intro k s h; exact h
  | succ n ih =>
    intro k s h
    unfold sTell at h
    split at h
    · split at h
      · split at h
        · have := ih _ _ h
          rw [o_st O (by omega)] at this
          exact this
        · split at h
          · generalize hr : sCmd x 11 (sg s (2 + k) 8) 0 s = r at h
            obtain ⟨r, s1⟩ := r
            simp only at h
            have h1 : Ok s1 := by
              split at h
              · exact ih _ _ h
              · exact o_fail O (ih _ _ h)
            exact o_cmd O (x := x) (a := 11) (b := sg s (2 + k) 8) (c := 0) (s := s) (by rw [hr]; exact h1)
          · exact o_fail O (ih _ _ h)
      · exact h
    · exact h
theorem o_note (O : OKH x Ok) (h5 : 0 ≤ sg s 0 5) (h : Ok (sNote x k a b s)) : Ok s := by
  have hf : Ok (sFailed x (wtr s a) s) → Ok s := by
    intro hh
    unfold sFailed at hh
    split at hh
    · exact hh
    · split at hh
      · rw [o_go O] at hh; exact hh
      · exact o_fail O hh
  unfold sNote at h
  split at h
  · rw [o_begin O (by rw [st_g, if_neg (by omega), st_g, if_neg (by omega)]; exact h5), o_st O (by omega), o_st O (by omega)] at h
    exact h
  · split at h
    · exact hf h
    · split at h
      · exact hf h
      · split at h
        · rw [o_st O (by omega), o_qx O] at h
          exact h
        · split at h
          · have := o_tell O _ _ _ h
            rw [o_st O (by omega)] at this
            exact this
          · unfold sEnded at h
            split at h
            · exact h
            · split at h
              · rw [o_go O] at h; exact h
              · split at h
                · rw [o_go O] at h; exact h
                · rw [o_go O, o_st O (by omega)] at h; exact h
end OKB
