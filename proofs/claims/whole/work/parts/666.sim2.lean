/-! THE TELLING, plain: one telling as another: a branch's turn. -/
section SI2
variable {x x' : CX} {s t s1 s2 : TS} {B : Int} {a b c e i j v k h n l w p q r o u kd : Int} {L : List (Int × Int × Int)} {J : TS → Int → List (Int × Int × Int) → Prop} {Kp : TS → Int → Prop} {Ok : TS → Prop}
theorem sm_h (h : Sm J q t s) : sh t k = sh s k := by
  obtain ⟨p, L, rfl, -⟩ := h; rfl
theorem sm_q (h : Sm J q t s) : sq t k = sq s k := by
  obtain ⟨p, L, rfl, -⟩ := h; rfl
theorem sm_u (h : Sm J q t s) : su t = su s := by
  obtain ⟨p, L, rfl, -⟩ := h; rfl
theorem sm_goes (h : Sm J q t s) : goes t = goes s := by
  obtain ⟨p, L, rfl, -⟩ := h; exact ax_goes
theorem sm_find (h : Sm J q t s) : find t v = find s v := by
  obtain ⟨p, L, rfl, -⟩ := h; exact ax_fnd
theorem sm_wtr (h : Sm J q t s) : wtr t e = wtr s e := by
  obtain ⟨p, L, rfl, -⟩ := h; exact ax_wtr
theorem sm_first (h : Sm J q t s) : first t = first s := by
  obtain ⟨p, L, rfl, -⟩ := h; exact ax_first
theorem sm_cw (H : SIMH x x' J Ok Kp) (h : Sm J q t s) (k0 : 0 ≤ k) (hf : Ok (match sCmd x kd a b s with | (r, s1) => sWait k w r s1)) : Sm J q (match sCmd x' kd a b t with | (r, s1) => sWait k w r s1) (match sCmd x kd a b s with | (r, s1) => sWait k w r s1) := by
  have e : ∀ (y : CX) (u : TS), (match sCmd y kd a b u with | (r, s1) => sWait k w r s1) = sWait k w (sCmd y kd a b u).1 (sCmd y kd a b u).2 := fun y u => rfl
  rw [e, e]
  rw [e, o_wait H.2.2.2.2.2] at hf
  obtain ⟨e1, e2⟩ := sm_cmd H h hf
  rw [e1]
  exact sm_wait H e2 k0
theorem o_endR (O : OKH x Ok) : Ok (sEndR x k a s) ↔ Ok (sCmd x k a 0 s).2 := by
  have e : sEndR x k a s = if (sCmd x k a 0 s).1 < 0 then (sCmd x k a 0 s).2 else st (sCmd x k a 0 s).2 0 9 k := rfl
  rw [e]
  split
  · exact Iff.rfl
  · exact o_st O (by omega)
theorem sm_endR (H : SIMH x x' J Ok Kp) (h : Sm J q t s) (hf : Ok (sEndR x k a s)) : Sm J q (sEndR x' k a t) (sEndR x k a s) := by
  rw [o_endR H.2.2.2.2.2] at hf
  obtain ⟨e1, e2⟩ := sm_cmd H h hf
  have e : ∀ (y : CX) (u : TS), sEndR y k a u = if (sCmd y k a 0 u).1 < 0 then (sCmd y k a 0 u).2 else st (sCmd y k a 0 u).2 0 9 k := fun y u => rfl
  rw [e, e, e1]
  split
  · exact e2
  · exact sm_sx H e2 (by omega)
theorem sm_fail (H : SIMH x x' J Ok Kp) (h : Sm J q t s) (k0 : 0 ≤ k) (hf : Ok (sFail x k s)) : Sm J q (sFail x' k t) (sFail x k s) := by
  have e4 := sm_g (a := 2 + k) (j := 4) h (by omega)
  have e : ∀ (y : CX) (u : TS), sFail y k u = match sh u k with
    | v :: t => sth (sGo k v (sGo k (sg u (2 + k) 4) u)) k t
    | [] => sEndR y 15 0 (sGo k (sg u (2 + k) 4) u) := fun y u => rfl
  rw [e] at hf
  rw [e, e, sm_h h, e4]
  generalize sh s k = z at hf ⊢
  cases z with
  | nil => exact sm_endR H (sm_go H h k0) hf
  | cons v y => exact sm_sth H (sm_go H (sm_go H h k0) k0)
theorem sm_end (H : SIMH x x' J Ok Kp) (h : Sm J q t s) (k0 : 0 ≤ k) (hf : Ok (sEnd x k s)) : Sm J q (sEnd x' k t) (sEnd x k s) := by
  have e : ∀ (y : CX) (u : TS), sEnd y k u = if sg u (2 + k) 0 = 0 then sEndR y 14 (sg u 1 0) u else sRem k u := fun y u => rfl
  rw [e] at hf
  rw [e, e, sm_g h (by omega), sm_g h (by omega)]
  by_cases c : sg s (2 + k) 0 = 0
  · rw [if_pos c] at hf
    rw [if_pos c, if_pos c]
    exact sm_endR H h hf
  · rw [if_neg c, if_neg c]
    exact sm_rem H h k0
theorem sm_can (H : SIMH x x' J Ok Kp) (h : Sm J q t s) (k0 : 0 ≤ k) (hf : Ok (sCan x k s)) : Sm J q (sCan x' k t) (sCan x k s) := by
  unfold sCan at hf ⊢
  rw [sm_g h (by omega), sm_g h (by omega)]
  by_cases c : sg s (2 + k) 7 = 1 ∨ sg s (2 + k) 7 = 2
  · rw [if_pos c] at hf
    rw [if_pos c, if_pos c]
    have hf1 : Ok (sCmd x 11 (sg s (2 + k) 8) 0 s).2 := by
      by_cases c2 : (sCmd x 11 (sg s (2 + k) 8) 0 s).1 < 0
      · rw [if_pos c2] at hf; exact hf
      · rw [if_neg c2] at hf; exact o_fail H.2.2.2.2.2 hf
    obtain ⟨e1, e2⟩ := sm_cmd H h hf1
    rw [e1]
    by_cases c2 : (sCmd x 11 (sg s (2 + k) 8) 0 s).1 < 0
    · rw [if_pos c2, if_pos c2]; exact e2
    · rw [if_neg c2] at hf
      rw [if_neg c2, if_neg c2]; exact sm_fail H e2 k0 hf
  · rw [if_neg c] at hf
    rw [if_neg c, if_neg c]
    exact sm_fail H h k0 hf
theorem sm_tell (H : SIMH x x' J Ok Kp) : ∀ (n : Nat) (k : Int) (t s : TS), 0 ≤ k → Sm J q t s → (Ok (sTell x n k s)) → Sm J q (sTell x' n k t) (sTell x n k s) := by
  intro n
  induction n with
  | zero => intro k t s k0 h hf; exact h
  | succ n ih =>
    intro k t s k0 h hf
    rw [tell_u] at hf
    rw [tell_u, tell_u, sm_goes h, sm_g h (by omega), sm_g h (by omega)]
    by_cases c1 : k < sg s 0 5
    · rw [if_pos c1] at hf
      rw [if_pos c1, if_pos c1]
      by_cases c2 : goes s = true
      · rw [if_pos c2] at hf
        rw [if_pos c2, if_pos c2]
        by_cases c3 : 0 < sg s (2 + k) 5
        · rw [if_pos c3] at hf
          rw [if_pos c3, if_pos c3]
          exact ih _ _ _ (by omega) (sm_sx H h (by omega)) hf
        · rw [if_neg c3] at hf
          rw [if_neg c3, if_neg c3]
          exact ih _ _ _ (by omega) (sm_can H h k0 (o_tell H.2.2.2.2.2 _ _ _ hf)) hf
      · rw [if_neg c2, if_neg c2]; exact h
    · rw [if_neg c1, if_neg c1]; exact h
theorem sm_let (H : SIMH x x' J Ok Kp) (h : Sm J q t s) (k0 : 0 ≤ k) (hf : Ok (sLet x k s)) : Sm J q (sLet x' k t) (sLet x k s) := by
  unfold sLet at hf ⊢
  rw [sm_g h (by omega), sm_g h (by omega)]
  by_cases c : sg s (2 + k) 7 = 1 ∨ sg s (2 + k) 7 = 2
  · rw [if_pos c] at hf
    rw [if_pos c, if_pos c]
    exact (sm_cmd H h hf).2
  · rw [if_neg c, if_neg c]; exact h
theorem sm_drop1 (H : SIMH x x' J Ok Kp) : ∀ (n : Nat) (k : Int) (t s : TS), 0 ≤ k → Sm J q t s → (Ok (sDrop1 x n k s)) → Sm J q (sDrop1 x' n k t) (sDrop1 x n k s) := by
  intro n
  induction n with
  | zero => intro k t s k0 h hf; exact h
  | succ n ih =>
    intro k t s k0 h hf
    rw [drop1_u] at hf
    rw [drop1_u, drop1_u, sm_goes h, sm_g h (by omega), sm_g h (by omega)]
    by_cases c1 : k < sg s 0 5
    · rw [if_pos c1] at hf
      rw [if_pos c1, if_pos c1]
      by_cases c2 : goes s = true
      · rw [if_pos c2] at hf
        rw [if_pos c2, if_pos c2]
        by_cases c3 : sg s (2 + k) 9 ≠ 0
        · rw [if_pos c3] at hf
          rw [if_pos c3, if_pos c3]
          exact ih _ _ _ (by omega) (sm_let H h k0 (o_drop1 H.2.2.2.2.2 _ _ _ hf)) hf
        · rw [if_neg c3] at hf
          rw [if_neg c3, if_neg c3]
          exact ih _ _ _ (by omega) h hf
      · rw [if_neg c2, if_neg c2]; exact h
    · rw [if_neg c1, if_neg c1]; exact h
theorem sm_drop (H : SIMH x x' J Ok Kp) (h : Sm J q t s) (hf : Ok (sDrop x s)) : Sm J q (sDrop x' t) (sDrop x s) := by
  have e : ∀ (y : CX) (u : TS), sDrop y u = sDrop2 13 (sg (sDrop1 y 13 0 u) 0 5 - 1) (sDrop1 y 13 0 u) := fun y u => rfl
  rw [e, o_drop2 H.2.2.2.2.2] at hf
  have h1 := sm_drop1 H 13 0 t s (by decide) h hf
  rw [e, e, sm_g h1 (by omega)]
  exact sm_drop2 H h1
theorem sm_win (H : SIMH x x' J Ok Kp) (h : Sm J q t s) (k0 : 0 ≤ k) (hf : Ok (sWin x k s)) : Sm J q (sWin x' k t) (sWin x k s) := by
  have hfb := find_b (s := s) (v := sg s (2 + k) 3)
  have e : ∀ (y : CX) (u : TS), sWin y k u = (if find u (sg u (2 + k) 3) < 0 then u else if sg (st (st u (2 + k) 3 (-1)) (2 + find u (sg u (2 + k) 3)) 3 (-1)) (2 + find u (sg u (2 + k) 3)) 0 = sg (st (st u (2 + k) 3 (-1)) (2 + find u (sg u (2 + k) 3)) 3 (-1)) (2 + k) 1 then
        (if sg (st (st u (2 + k) 3 (-1)) (2 + find u (sg u (2 + k) 3)) 3 (-1)) (2 + find u (sg u (2 + k) 3)) 7 = 1 ∨ sg (st (st u (2 + k) 3 (-1)) (2 + find u (sg u (2 + k) 3)) 3 (-1)) (2 + find u (sg u (2 + k) 3)) 7 = 2 then (match sCmd y 11 (sg (st (st u (2 + k) 3 (-1)) (2 + find u (sg u (2 + k) 3)) 3 (-1)) (2 + find u (sg u (2 + k) 3)) 8) 0 (st (st u (2 + k) 3 (-1)) (2 + find u (sg u (2 + k) 3)) 3 (-1)) with
          | (r, s2) => if r < 0 then s2 else sDoom k (sGo (find u (sg u (2 + k) 3)) (sg s2 (2 + k) 4) s2))
        else sDoom k (sGo (find u (sg u (2 + k) 3)) (sg (st (st u (2 + k) 3 (-1)) (2 + find u (sg u (2 + k) 3)) 3 (-1)) (2 + k) 4) (st (st u (2 + k) 3 (-1)) (2 + find u (sg u (2 + k) 3)) 3 (-1))))
      else sDoom (find u (sg u (2 + k) 3)) (st (st u (2 + k) 3 (-1)) (2 + find u (sg u (2 + k) 3)) 3 (-1))) := fun y u => rfl
  rw [e] at hf
  rw [e, e, sm_g (a := 2 + k) (j := 3) h (by omega), sm_find h]
  by_cases cf : find s (sg s (2 + k) 3) < 0
  · rw [if_pos cf, if_pos cf]; exact h
  · have c1 : 0 ≤ find s (sg s (2 + k) 3) := by omega
    rw [if_neg cf] at hf
    rw [if_neg cf, if_neg cf]
    generalize find s (sg s (2 + k) 3) = o at c1 hf ⊢
    have h1 : Sm J q (st (st t (2 + k) 3 (-1)) (2 + o) 3 (-1)) (st (st s (2 + k) 3 (-1)) (2 + o) 3 (-1)) := sm_sx H (sm_sx H h (by omega)) (by omega)
    generalize st (st t (2 + k) 3 (-1)) (2 + o) 3 (-1) = t1 at h1
    generalize st (st s (2 + k) 3 (-1)) (2 + o) 3 (-1) = s1 at h1 hf
    rw [sm_g (a := 2 + o) (j := 0) h1 (by omega), sm_g (a := 2 + k) (j := 1) h1 (by omega), sm_g (a := 2 + o) (j := 7) h1 (by omega), sm_g (a := 2 + o) (j := 8) h1 (by omega), sm_g (a := 2 + k) (j := 4) h1 (by omega)]
    by_cases d1 : sg s1 (2 + o) 0 = sg s1 (2 + k) 1
    · rw [if_pos d1] at hf
      rw [if_pos d1, if_pos d1]
      by_cases d2 : sg s1 (2 + o) 7 = 1 ∨ sg s1 (2 + o) 7 = 2
      · rw [if_pos d2] at hf
        rw [if_pos d2, if_pos d2]
        have hf1 : Ok (sCmd x 11 (sg s1 (2 + o) 8) 0 s1).2 := by
          by_cases c2 : (sCmd x 11 (sg s1 (2 + o) 8) 0 s1).1 < 0
          · simp only [if_pos c2] at hf; exact hf
          · simp only [if_neg c2] at hf; rw [o_doom H.2.2.2.2.2, o_go H.2.2.2.2.2] at hf; exact hf
        obtain ⟨e1, e2⟩ := sm_cmd H h1 hf1
        simp only
        rw [e1]
        by_cases c2 : (sCmd x 11 (sg s1 (2 + o) 8) 0 s1).1 < 0
        · rw [if_pos c2, if_pos c2]; exact e2
        · rw [if_neg c2, if_neg c2, sm_g e2 (by omega)]
          exact sm_doom H (sm_go H e2 c1) k0
      · rw [if_neg d2, if_neg d2]
        exact sm_doom H (sm_go H h1 c1) k0
    · rw [if_neg d1, if_neg d1]
      exact sm_doom H h1 c1
theorem sm_below (H : SIMH x x' J Ok Kp) (h : Sm J q t s) (h5 : 0 ≤ sg s 0 5) (k0 : 0 ≤ k) : Sm J q (sBelow k l t) (sBelow k l s) := by
  unfold sBelow
  rw [sm_g (a := 0) (j := 5) h (by omega), sm_g (a := 2 + k) (j := 0) h (by omega)]
  split
  · exact sm_begin H h h5
  · exact sm_stk H h
theorem sm_race (H : SIMH x x' J Ok Kp) (h : Sm J q t s) (h5 : 0 ≤ sg s 0 5) (k0 : 0 ≤ k) : Sm J q (sRace k l t) (sRace k l s) := by
  unfold sRace
  rw [sm_g (a := 0) (j := 5) h (by omega), sm_g (a := 2 + k) (j := 0) h (by omega)]
  split
  · have h1 := sm_begin (o := sg s (2 + k) 0) (l := l) H h h5
    simp only
    generalize sBegin (sg s (2 + k) 0) l t = t1 at h1
    generalize sBegin (sg s (2 + k) 0) l s = s1 at h1
    have hfb := find_b (s := s1) (v := sg s1 (2 + k) 3)
    rw [sm_g (a := 2 + k) (j := 3) h1 (by omega), sm_find h1]
    have h2 : Sm J q (if find s1 (sg s1 (2 + k) 3) < 0 then t1 else st t1 (2 + find s1 (sg s1 (2 + k) 3)) 3 (-1)) (if find s1 (sg s1 (2 + k) 3) < 0 then s1 else st s1 (2 + find s1 (sg s1 (2 + k) 3)) 3 (-1)) := by
      split
      · exact h1
      · exact sm_sx H h1 (by omega)
    generalize (if find s1 (sg s1 (2 + k) 3) < 0 then t1 else st t1 (2 + find s1 (sg s1 (2 + k) 3)) 3 (-1)) = t2 at h2
    generalize (if find s1 (sg s1 (2 + k) 3) < 0 then s1 else st s1 (2 + find s1 (sg s1 (2 + k) 3)) 3 (-1)) = s2 at h2
    rw [sm_g (a := 2 + sg s 0 5) (j := 0) h2 (by omega), sm_g (a := 2 + k) (j := 0) h2 (by omega)]
    exact sm_sx H (sm_sx H h2 (by omega)) (by omega)
  · exact sm_stk H h
theorem sm_undo (H : SIMH x x' J Ok Kp) (h : Sm J q t s) (k0 : 0 ≤ k) (hf : Ok (sUndo x k s)) : Sm J q (sUndo x' k t) (sUndo x k s) := by
  unfold sUndo at hf ⊢
  rw [sm_u h, sm_g (a := 2 + k) (j := 4) h (by omega)]
  generalize su s = z at hf ⊢
  cases z with
  | nil => exact sm_go H h k0
  | cons v y => exact sm_cw H (sm_stu H h) k0 hf
theorem sm_bare (H : SIMH x x' J Ok Kp) (h : Sm J q t s) (k0 : 0 ≤ k) : (sBare k t).1 = (sBare k s).1 ∧ Sm J q (sBare k t).2 (sBare k s).2 := by
  unfold sBare
  simp only
  rw [sm_g (a := 2 + k) (j := 5) h (by omega), sm_g (a := 2 + k) (j := 6) h (by omega)]
  generalize (if 0 < sg s (2 + k) 5 then sg s (2 + k) 5 - 1 else 0) = z
  by_cases c : sg s (2 + k) 6 ≠ 0 ∧ z = 0
  · rw [if_pos c, if_pos c]
    exact ⟨rfl, sm_sx H (sm_sx H h (by omega)) (by omega)⟩
  · rw [if_neg c, if_neg c]
    exact ⟨rfl, sm_sx H (sm_sx H h (by omega)) (by omega)⟩
end SI2
