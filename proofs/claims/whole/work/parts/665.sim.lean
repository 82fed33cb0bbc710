/-! THE TELLING, plain: one telling as another, with other pointers and other news: what is not a command. -/
section SI1
variable {x x' : CX} {s t s1 s2 : TS} {B : Int} {a b c d e i j v k h n l w p q r o u kd : Int} {L : List (Int × Int × Int)} {J : TS → Int → List (Int × Int × Int) → Prop} {Kp : TS → Int → Prop} {Ok : TS → Prop}
/-- the same state with another pointer to commands, another to TASKs, other news -/
def ax (p q : Int) (L : List (Int × Int × Int)) (s : TS) : TS := (fun a j => if a = 0 ∧ j = 12 then p else if a = 0 ∧ j = 13 then q else s.1 a j, s.2.1, s.2.2.1, s.2.2.2.1, L)
theorem ax_g : sg (ax p q L s) a j = if a = 0 ∧ j = 12 then p else if a = 0 ∧ j = 13 then q else sg s a j := rfl
theorem ax_o (h : a ≠ 0 ∨ (j ≠ 12 ∧ j ≠ 13)) : sg (ax p q L s) a j = sg s a j := by rw [ax_g, if_neg (by omega), if_neg (by omega)]
theorem ax_st (h : a ≠ 0 ∨ (j ≠ 12 ∧ j ≠ 13)) : st (ax p q L s) a j v = ax p q L (st s a j v) := by
  refine Prod.ext ?_ rfl
  funext b i
  show (if b = a ∧ i = j then v else if b = 0 ∧ i = 12 then p else if b = 0 ∧ i = 13 then q else s.1 b i) = if b = 0 ∧ i = 12 then p else if b = 0 ∧ i = 13 then q else if b = a ∧ i = j then v else s.1 b i
  by_cases c1 : b = a ∧ i = j
  · rw [if_pos c1, if_neg (by omega), if_neg (by omega), if_pos c1]
  · rw [if_neg c1, if_neg c1]
theorem ax_12 : st (ax p q L s) 0 12 v = ax v q L (st s 0 12 w) := by
  refine Prod.ext ?_ rfl
  funext b i
  show (if b = 0 ∧ i = 12 then v else if b = 0 ∧ i = 12 then p else if b = 0 ∧ i = 13 then q else s.1 b i) = if b = 0 ∧ i = 12 then v else if b = 0 ∧ i = 13 then q else if b = 0 ∧ i = 12 then w else s.1 b i
  by_cases c1 : b = 0 ∧ i = 12
  · rw [if_pos c1, if_pos c1]
  · rw [if_neg c1, if_neg c1, if_neg c1, if_neg c1]
theorem ax_go (k0 : 0 ≤ k) : sGo k l (ax p q L s) = ax p q L (sGo k l s) := by
  unfold sGo
  rw [ax_st (by omega), ax_st (by omega)]
theorem ax_wait (k0 : 0 ≤ k) : sWait k w n (ax p q L s) = ax p q L (sWait k w n s) := by
  unfold sWait
  rw [ax_st (by omega), ax_st (by omega)]
theorem ax_stk : sStuck (ax p q L s) v = ax p q L (sStuck s v) := by
  unfold sStuck
  rw [ax_st (by omega), ax_st (by omega)]
theorem ax_goes : goes (ax p q L s) = goes s := by
  unfold goes
  rw [ax_o (by omega), ax_o (by omega)]
theorem ax_find {z : Int} (hz : z ≠ 12 ∧ z ≠ 13) : ∀ (n : Nat) (k : Int), 0 ≤ k → sFind (ax p q L s) z v n k = sFind s z v n k := by
  intro n
  induction n with
  | zero => intro k _; rfl
  | succ n ih =>
    intro k k0
    unfold sFind
    rw [ax_o (by omega), ax_o (by omega), ih _ (by omega)]
theorem ax_fnd : find (ax p q L s) v = find s v := ax_find ⟨by decide, by decide⟩ 12 0 (by decide)
theorem ax_kid : hasKid (ax p q L s) v = hasKid s v := by
  unfold hasKid
  rw [ax_find ⟨by decide, by decide⟩ 12 0 (by decide)]
theorem ax_wtr : wtr (ax p q L s) e = wtr s e := by
  have key : ∀ (n : Nat) (k : Int), 0 ≤ k → sWtr (ax p q L s) e n k = sWtr s e n k := by
    intro n
    induction n with
    | zero => intro k _; rfl
    | succ n ih =>
      intro k k0
      unfold sWtr
      rw [ax_o (by omega), ax_o (by omega), ax_o (by omega), ih _ (by omega)]
  exact key 12 0 (by decide)
theorem ax_able (k0 : 0 ≤ k) : sAble (ax p q L s) k = sAble s k := by
  unfold sAble
  rw [ax_o (by omega), ax_o (by omega), ax_o (by omega), ax_kid]
  rfl
theorem ax_first : first (ax p q L s) = first s := by
  have key : ∀ (n : Nat) (k : Int), 0 ≤ k → sFirst (ax p q L s) n k = sFirst s n k := by
    intro n
    induction n with
    | zero => intro k _; rfl
    | succ n ih =>
      intro k k0
      unfold sFirst
      rw [ax_o (by omega), ax_able k0, ih _ (by omega)]
  exact key 12 0 (by decide)
theorem ax_rem (k0 : 0 ≤ k) : sRem k (ax p q L s) = ax p q L (sRem k s) := by
  have e : ∀ a j : Int, (a ≠ 0 ∨ (j ≠ 12 ∧ j ≠ 13)) → (ax p q L s).1 a j = s.1 a j := fun a j h => ax_o h
  refine Prod.ext ?_ rfl
  funext a j
  show (if a = 0 ∧ j = 5 then (ax p q L s).1 0 5 - 1 else if 2 ≤ a ∧ a < 2 + ((ax p q L s).1 0 5 - 1) then
    (if j = 2 ∧ (ax p q L s).1 (if a < 2 + k then a else a + 1) 2 = (ax p q L s).1 (2 + k) 0 then (ax p q L s).1 (2 + k) 2 else (ax p q L s).1 (if a < 2 + k then a else a + 1) j) else (ax p q L s).1 a j) = (if a = 0 ∧ j = 12 then p else if a = 0 ∧ j = 13 then q else (if a = 0 ∧ j = 5 then s.1 0 5 - 1 else if 2 ≤ a ∧ a < 2 + (s.1 0 5 - 1) then
    (if j = 2 ∧ s.1 (if a < 2 + k then a else a + 1) 2 = s.1 (2 + k) 0 then s.1 (2 + k) 2 else s.1 (if a < 2 + k then a else a + 1) j) else s.1 a j))
  rw [e 0 5 (by omega), e (2 + k) 0 (by omega), e (2 + k) 2 (by omega)]
  by_cases c1 : a = 0 ∧ j = 12
  · rw [if_pos c1, if_neg (by omega), if_neg (by omega), c1.1, c1.2]
    rfl
  · rw [if_neg c1]
    by_cases c2 : a = 0 ∧ j = 13
    · rw [if_pos c2, if_neg (by omega), if_neg (by omega), c2.1, c2.2]
      rfl
    · rw [if_neg c2]
      by_cases c3 : a = 0 ∧ j = 5
      · rw [if_pos c3, if_pos c3]
      · rw [if_neg c3, if_neg c3]
        by_cases c4 : 2 ≤ a ∧ a < 2 + (s.1 0 5 - 1)
        · rw [if_pos c4, if_pos c4, e (if a < 2 + k then a else a + 1) 2 (by split <;> omega), e (if a < 2 + k then a else a + 1) j (by split <;> omega)]
        · rw [if_neg c4, if_neg c4, e a j (by omega)]
theorem ax_begin (h5 : 0 ≤ sg s 0 5) : sBegin o l (ax p q L s) = ax p q L (sBegin o l s) := by
  have e5 : sg (ax p q L s) 0 5 = sg s 0 5 := ax_o (by omega)
  have e6 : sg (ax p q L s) 0 6 = sg s 0 6 := ax_o (by omega)
  refine Prod.ext ?_ ?_
  · funext a i
    show sg (sBegin o l (ax p q L s)) a i = sg (ax p q L (sBegin o l s)) a i
    rw [ax_g]
    by_cases ha : a = -1
    · subst ha
      rw [begin_p (by rw [e5]; exact h5), e6, ax_o (by omega), if_neg (show ¬((-1 : Int) = 0 ∧ i = 12) by omega), if_neg (show ¬((-1 : Int) = 0 ∧ i = 13) by omega), begin_p h5]
    · rw [begin_g ha, begin_g ha, e5, e6, ax_g]
      by_cases c1 : a = 0 ∧ i = 6
      · rw [if_pos c1, if_neg (by omega), if_neg (by omega), if_pos c1]
      · rw [if_neg c1, if_neg c1]
        by_cases c2 : a = 0 ∧ i = 5
        · rw [if_pos c2, if_neg (by omega), if_neg (by omega), if_pos c2]
        · rw [if_neg c2, if_neg c2]
          by_cases c3 : a = 2 + sg s 0 5
          · rw [if_pos c3, if_neg (by omega), if_neg (by omega), if_pos c3]
          · rw [if_neg c3, if_neg c3]
  · show (sBegin o l (ax p q L s)).2 = _
    unfold sBegin
    rw [e5]
    rfl
theorem ax_doomL : ∀ (n : Nat) (k : Int) (s : TS), 0 ≤ k → sDoomL n k (ax p q L s) = ax p q L (sDoomL n k s) := by
  intro n
  induction n with
  | zero => intro k s _; rfl
  | succ n ih =>
    intro k s k0
    have hf := find_b (s := s) (v := sg s (2 + k) 2)
    unfold sDoomL
    rw [ax_o (by omega), ax_o (by omega), ax_fnd]
    by_cases c1 : k < sg s 0 5
    · rw [if_pos c1, if_pos c1]
      by_cases c2 : find s (sg s (2 + k) 2) < 0
      · rw [if_pos c2, if_pos c2]
        exact ih _ _ (by omega)
      · rw [if_neg c2, if_neg c2, ax_o (by omega)]
        split
        · exact ih _ _ (by omega)
        · rw [ax_st (by omega)]
          exact ih _ _ (by omega)
    · rw [if_neg c1, if_neg c1]
theorem ax_doom (k0 : 0 ≤ k) : sDoom k (ax p q L s) = ax p q L (sDoom k s) := by
  unfold sDoom
  rw [ax_st (by omega)]
  exact ax_doomL _ _ _ (by decide)
theorem ax_drop2 : ∀ (n : Nat) (k : Int) (s : TS), sDrop2 n k (ax p q L s) = ax p q L (sDrop2 n k s) := by
  intro n
  induction n with
  | zero => intro k s; rfl
  | succ n ih =>
    intro k s
    unfold sDrop2
    by_cases c : k < 0
    · rw [if_pos c, if_pos c]
    · rw [if_neg c, if_neg c, ax_o (by omega)]
      split
      · exact ih _ _
      · rw [ax_rem (by omega)]
        exact ih _ _
/-- two states of which one is the other with other pointers and news, and J tells how -/
def Sm (J : TS → Int → List (Int × Int × Int) → Prop) (q : Int) (t s : TS) : Prop := ∃ p L, t = ax p q L s ∧ J s p L
/-- what makes the commands of the one those of the other -/
def SIMH (x x' : CX) (J : TS → Int → List (Int × Int × Int) → Prop) (Ok : TS → Prop) (Kp : TS → Int → Prop) : Prop := x'.1 5 = x.1 5 ∧ x'.2.2 = x.2.2 ∧ (∀ (s : TS) (p : Int) (L : List (Int × Int × Int)) (k a b q : Int), J s p L → Ok (sCmd x k a b s).2 → ∃ p' L', sCmd x' k a b (ax p q L s) = ((sCmd x k a b s).1, ax p' q L' (sCmd x k a b s).2) ∧ J (sCmd x k a b s).2 p' L') ∧ (∀ (s s1 : TS) (p : Int) (L : List (Int × Int × Int)), J s p L → sg s1 0 12 = sg s 0 12 → sg s1 0 10 = sg s 0 10 → sn s1 = sn s → J s1 p L) ∧ (∀ (s : TS) (p : Int) (L : List (Int × Int × Int)) (a q : Int), J s p L → Kp s a → Ok (sPatch x a s).2 → iAnd (iShr (sg s 0 7) a) 1 = 0 → (((nc x (sg s 0 12) < sSeen x s ∧ eis (x.2.1 (nc x (sg s 0 12))) 12 a 0 = true) ∨ (¬ nc x (sg s 0 12) < sSeen x s ∧ ¬ sg s 0 10 < x.1 1)) ↔ ((nc x' p < sSeen x' (ax p q L s) ∧ eis (x'.2.1 (nc x' p)) 12 a 0 = true) ∨ (¬ nc x' p < sSeen x' (ax p q L s) ∧ ¬ sg s 0 10 < x'.1 1)))) ∧ OKH x Ok
theorem sm_g (h : Sm J q t s) (ha : a ≠ 0 ∨ (j ≠ 12 ∧ j ≠ 13)) : sg t a j = sg s a j := by
  obtain ⟨p, L, rfl, -⟩ := h
  exact ax_o ha
theorem sm_of (H : SIMH x x' J Ok Kp) (h : Sm J q t s) (f : TS → TS) (hf : ∀ p L, f (ax p q L s) = ax p q L (f s)) (h12 : sg (f s) 0 12 = sg s 0 12) (h10 : sg (f s) 0 10 = sg s 0 10) (hn : sn (f s) = sn s) : Sm J q (f t) (f s) := by
  obtain ⟨p, L, rfl, hJ⟩ := h
  exact ⟨p, L, hf p L, H.2.2.2.1 s (f s) p L hJ h12 h10 hn⟩
theorem sm_sx (H : SIMH x x' J Ok Kp) (h : Sm J q t s) (ha : a ≠ 0 ∨ (j ≠ 12 ∧ j ≠ 13 ∧ j ≠ 10)) : Sm J q (st t a j v) (st s a j v) := sm_of H h (fun s => st s a j v) (fun p L => ax_st (by omega)) (by rw [st_g, if_neg (by omega)]) (by rw [st_g, if_neg (by omega)]) rfl
theorem sm_go (H : SIMH x x' J Ok Kp) (h : Sm J q t s) (k0 : 0 ≤ k) : Sm J q (sGo k l t) (sGo k l s) := sm_of H h (fun s => sGo k l s) (fun p L => ax_go k0) (by rw [go_g, if_neg (by omega), if_neg (by omega)]) (by rw [go_g, if_neg (by omega), if_neg (by omega)]) rfl
theorem sm_wait (H : SIMH x x' J Ok Kp) (h : Sm J q t s) (k0 : 0 ≤ k) : Sm J q (sWait k w n t) (sWait k w n s) := sm_of H h (fun s => sWait k w n s) (fun p L => ax_wait k0) (by rw [wait_g, if_neg (by omega), if_neg (by omega)]) (by rw [wait_g, if_neg (by omega), if_neg (by omega)]) rfl
theorem sm_sth {l : List Int} (H : SIMH x x' J Ok Kp) (h : Sm J q t s) : Sm J q (sth t k l) (sth s k l) := sm_of H h (fun s => sth s k l) (fun p L => rfl) rfl rfl rfl
theorem sm_stq {l : List Int} (H : SIMH x x' J Ok Kp) (h : Sm J q t s) : Sm J q (stq t k l) (stq s k l) := sm_of H h (fun s => stq s k l) (fun p L => rfl) rfl rfl rfl
theorem sm_stu {l : List Int} (H : SIMH x x' J Ok Kp) (h : Sm J q t s) : Sm J q (stu t l) (stu s l) := sm_of H h (fun s => stu s l) (fun p L => rfl) rfl rfl rfl
theorem sm_stk (H : SIMH x x' J Ok Kp) (h : Sm J q t s) : Sm J q (sStuck t v) (sStuck s v) := sm_of H h (fun s => sStuck s v) (fun p L => ax_stk) rfl rfl rfl
theorem sm_rem (H : SIMH x x' J Ok Kp) (h : Sm J q t s) (k0 : 0 ≤ k) : Sm J q (sRem k t) (sRem k s) := sm_of H h (fun s => sRem k s) (fun p L => ax_rem k0) (rem_o (Or.inl ⟨rfl, by decide, by decide⟩)) (rem_o (Or.inl ⟨rfl, by decide, by decide⟩)) rfl
theorem sm_begin (H : SIMH x x' J Ok Kp) (h : Sm J q t s) (h5 : 0 ≤ sg s 0 5) : Sm J q (sBegin o l t) (sBegin o l s) := sm_of H h (fun s => sBegin o l s) (fun p L => ax_begin h5) (by rw [begin_g (by decide), if_neg (by omega), if_neg (by omega), if_neg (by omega)]) (by rw [begin_g (by decide), if_neg (by omega), if_neg (by omega), if_neg (by omega)]) rfl
theorem sm_doom (H : SIMH x x' J Ok Kp) (h : Sm J q t s) (k0 : 0 ≤ k) : Sm J q (sDoom k t) (sDoom k s) := sm_of H h (fun s => sDoom k s) (fun p L => ax_doom k0) ((e9_doom k0).1 _ _ (by omega)) ((e9_doom k0).1 _ _ (by omega)) (by unfold sn; rw [(e9_doom k0).2])
theorem sm_drop2 (H : SIMH x x' J Ok Kp) {n : Nat} (h : Sm J q t s) : Sm J q (sDrop2 n k t) (sDrop2 n k s) := sm_of H h (fun s => sDrop2 n k s) (fun p L => ax_drop2 n k s) (drop2_s n k s).2.2.1 (drop2_s n k s).2.1 (by
  have : ∀ (n : Nat) (k : Int) (s : TS), sn (sDrop2 n k s) = sn s := by
    intro n
    induction n with
    | zero => intro k s; rfl
    | succ n ih =>
      intro k s
      unfold sDrop2
      split
      · rfl
      · split
        · exact ih _ _
        · rw [ih]; rfl
  exact this n k s)
theorem sm_cmd (H : SIMH x x' J Ok Kp) (h : Sm J q t s) {k : Int} (hf : Ok (sCmd x k a b s).2) : (sCmd x' k a b t).1 = (sCmd x k a b s).1 ∧ Sm J q (sCmd x' k a b t).2 (sCmd x k a b s).2 := by
  obtain ⟨p, L, rfl, hJ⟩ := h
  obtain ⟨p', L', e, hJ'⟩ := H.2.2.1 s p L k a b q hJ hf
  rw [e]
  exact ⟨rfl, p', L', rfl, hJ'⟩
end SI1
