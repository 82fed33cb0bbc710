/-! THE TELLING, plain: the count of steps and what is noted don't meet; shields and debts. -/
section NT1
variable {x : CX} {s s' s1 s2 : TS} {B : Int} {a b c d e i j v k h n l w p r t o q u kd : Int}
theorem cmd_st29 : sCmd x k a b (st s 0 29 v) = ((sCmd x k a b s).1, st (sCmd x k a b s).2 0 29 v) := by
  have e12 : sg (st s 0 29 v) 0 12 = sg s 0 12 := by rw [st_g, if_neg (by decide)]
  have e10 : sg (st s 0 29 v) 0 10 = sg s 0 10 := by rw [st_g, if_neg (by decide)]
  have es : sSeen x (st s 0 29 v) = sSeen x s := by unfold sSeen; rw [e10]
  have en : sn (st s 0 29 v) = sn s := rfl
  have c1 : ∀ w, st (st s 0 29 v) 0 12 w = st (st s 0 12 w) 0 29 v := fun w => st_comm (Or.inr (by decide))
  have c2 : ∀ (s : TS) e, sStuck (st s 0 29 v) e = st (sStuck s e) 0 29 v := fun s e => by
    unfold sStuck
    rw [st_comm (a := 0) (i := 29) (b := 0) (j := 30) (Or.inr (by decide)), st_comm (a := 0) (i := 29) (b := 0) (j := 31) (Or.inr (by decide))]
  have c3 : ∀ (s : TS) L, stn (st s 0 29 v) L = st (stn s L) 0 29 v := fun _ _ => rfl
  unfold sCmd
  rw [e12, e10, es, en]
  simp only [c1, c2, c3]
  by_cases q1 : nc x (sg s 0 12) < sSeen x s
  · rw [if_pos q1, if_pos q1]
    by_cases q2 : x.1 4 = 1 ∨ eis (x.2.1 (nc x (sg s 0 12))) k a b = true
    · rw [if_pos q2, if_pos q2]
      rw [st_comm (a := 0) (i := 29) (b := 0) (j := 12) (Or.inr (by decide))]
    · rw [if_neg q2, if_neg q2]
  · rw [if_neg q1, if_neg q1]
    split <;> rfl
theorem go_st29 (k0 : 0 ≤ k) : sGo k l (st s 0 29 v) = st (sGo k l s) 0 29 v := by
  unfold sGo
  rw [st_comm (a := 0) (i := 29) (b := 2 + k) (j := 7) (Or.inl (by omega)), st_comm (a := 0) (i := 29) (b := 2 + k) (j := 4) (Or.inl (by omega))]
theorem b_st29 (k0 : 0 ≤ k) : sg (st s 0 29 v) (2 + k) q = sg s (2 + k) q := by rw [st_g, if_neg (by omega)]
theorem fail_st29 (k0 : 0 ≤ k) : sFail x k (st s 0 29 v) = st (sFail x k s) 0 29 v := by
  have e1 : sh (st s 0 29 v) k = sh s k := rfl
  unfold sFail
  rw [e1, b_st29 k0, go_st29 k0, cmd_st29]
  cases sh s k with
  | nil =>
    show (if (sCmd x 15 0 0 (sGo k (sg s (2 + k) 4) s)).1 < 0 then st (sCmd x 15 0 0 (sGo k (sg s (2 + k) 4) s)).2 0 29 v else st (st (sCmd x 15 0 0 (sGo k (sg s (2 + k) 4) s)).2 0 29 v) 0 9 15) = st (if (sCmd x 15 0 0 (sGo k (sg s (2 + k) 4) s)).1 < 0 then (sCmd x 15 0 0 (sGo k (sg s (2 + k) 4) s)).2 else st (sCmd x 15 0 0 (sGo k (sg s (2 + k) 4) s)).2 0 9 15) 0 29 v
    split
    · rfl
    · exact st_comm (Or.inr (by decide))
  | cons w t =>
    show sth (sGo k w (st (sGo k (sg s (2 + k) 4) s) 0 29 v)) k t = st (sth (sGo k w (sGo k (sg s (2 + k) 4) s)) k t) 0 29 v
    rw [go_st29 k0]
    rfl
theorem goes_st29 : goes (st s 0 29 v) = goes s := by
  unfold goes
  rw [st_g, if_neg (by decide), st_g, if_neg (by decide)]
theorem can_st29 (k0 : 0 ≤ k) : sCan x k (st s 0 29 v) = st (sCan x k s) 0 29 v := by
  unfold sCan
  rw [b_st29 k0, b_st29 k0, cmd_st29]
  split
  · show (if (sCmd x 11 (sg s (2 + k) 8) 0 s).1 < 0 then st (sCmd x 11 (sg s (2 + k) 8) 0 s).2 0 29 v else sFail x k (st (sCmd x 11 (sg s (2 + k) 8) 0 s).2 0 29 v)) = st (if (sCmd x 11 (sg s (2 + k) 8) 0 s).1 < 0 then (sCmd x 11 (sg s (2 + k) 8) 0 s).2 else sFail x k (sCmd x 11 (sg s (2 + k) 8) 0 s).2) 0 29 v
    rw [fail_st29 k0]
    split <;> rfl
  · exact fail_st29 k0
theorem tell_st29 : ∀ (n : Nat) (k : Int) (s : TS), 0 ≤ k → sTell x n k (st s 0 29 v) = st (sTell x n k s) 0 29 v := by
  intro n
  induction n with
  | zero => intro k s _; rfl
  | succ n ih =>
    intro k s k0
    rw [tell_u, tell_u, goes_st29, b_st29 k0, can_st29 k0, show sg (st s 0 29 v) 0 5 = sg s 0 5 by rw [st_g, if_neg (by decide)]]
    split
    · split
      · split
        · rw [st_comm (a := 0) (i := 29) (b := 2 + k) (j := 6) (Or.inl (by omega))]
          exact ih _ _ (by omega)
        · exact ih _ _ (by omega)
      · rfl
    · rfl
theorem begin_st0 (h5 : 0 ≤ sg s 0 5) (hq : q ≠ 5 ∧ q ≠ 6) : sBegin p l (st s 0 q w) = st (sBegin p l s) 0 q w := by
  have e5 : sg (st s 0 q w) 0 5 = sg s 0 5 := by rw [st_g, if_neg (by omega)]
  have e6 : sg (st s 0 q w) 0 6 = sg s 0 6 := by rw [st_g, if_neg (by omega)]
  refine Prod.ext ?_ ?_
  · funext a i
    show sg (sBegin p l (st s 0 q w)) a i = sg (st (sBegin p l s) 0 q w) a i
    by_cases ha : a = -1
    · subst ha
      have e1 : sg (st s 0 q w) (-1) i = sg s (-1) i := by rw [st_g, if_neg (by omega)]
      rw [st_g, if_neg (by omega), begin_p (by omega), begin_p (by omega), e6, e1]
    · have e1 : sg (st s 0 q w) a i = if a = 0 ∧ i = q then w else sg s a i := st_g
      have e2 : sg (st (sBegin p l s) 0 q w) a i = if a = 0 ∧ i = q then w else sg (sBegin p l s) a i := st_g
      rw [e2, begin_g ha, begin_g ha, e5, e6, e1]
      by_cases c1 : a = 0 ∧ i = 6
      · rw [if_pos c1, if_pos c1, if_neg (by omega)]
      · rw [if_neg c1, if_neg c1]
        by_cases c2 : a = 0 ∧ i = 5
        · rw [if_pos c2, if_pos c2, if_neg (by omega)]
        · rw [if_neg c2, if_neg c2]
          by_cases c3 : a = 2 + sg s 0 5
          · rw [if_pos c3, if_pos c3, if_neg (by omega)]
          · rw [if_neg c3, if_neg c3]
  · show (sBegin p l (st s 0 q w)).2 = (sBegin p l s).2
    unfold sBegin
    rw [e5]
    rfl
theorem wtr_st29 : wtr (st s 0 29 v) e = wtr s e := by
  have key : ∀ (n : Nat) (k : Int), 0 ≤ k → sWtr (st s 0 29 v) e n k = sWtr s e n k := by
    intro n
    induction n with
    | zero => intro k _; rfl
    | succ n ih =>
      intro k k0
      unfold sWtr
      rw [b_st29 k0, b_st29 k0, ih _ (by omega), show sg (st s 0 29 v) 0 5 = sg s 0 5 by rw [st_g, if_neg (by decide)]]
  exact key 12 0 (by decide)
theorem note_st29 (h5 : 0 ≤ sg s 0 5) : sNote x kd a b (st s 0 29 v) = st (sNote x kd a b s) 0 29 v := by
  have hf : sFailed x (wtr (st s 0 29 v) a) (st s 0 29 v) = st (sFailed x (wtr s a) s) 0 29 v := by
    rw [wtr_st29]
    unfold sFailed
    by_cases c : wtr s a < 0
    · rw [if_pos c, if_pos c]
    · rw [if_neg c, if_neg c, b_st29 (by omega), b_st29 (by omega), go_st29 (by omega), fail_st29 (by omega)]
      split <;> rfl
  unfold sNote
  split
  · rw [st_comm (a := 0) (i := 29) (b := 1) (j := 0) (Or.inl (by decide)), st_g, if_neg (by decide), st_comm (a := 0) (i := 29) (b := 0) (j := 40) (Or.inr (by decide)), begin_st0 (by rw [st_g, if_neg (by decide), st_g, if_neg (by decide)]; exact h5) ⟨by decide, by decide⟩]
  · split
    · exact hf
    · split
      · exact hf
      · split
        · show st (stq (st s 0 29 v) a (sq s a ++ [b])) 0 41 (sg (st s 0 29 v) 0 41 + 1) = st (st (stq s a (sq s a ++ [b])) 0 41 (sg s 0 41 + 1)) 0 29 v
          rw [st_g, if_neg (by decide)]
          exact st_comm (s := stq s a (sq s a ++ [b])) (Or.inr (by decide))
        · split
          · rw [st_comm (a := 0) (i := 29) (b := 0) (j := 8) (Or.inr (by decide))]
            exact tell_st29 13 0 _ (by decide)
          · rw [wtr_st29]
            unfold sEnded
            by_cases c : wtr s a < 0
            · rw [if_pos c, if_pos c]
            · rw [if_neg c, if_neg c, b_st29 (by omega), b_st29 (by omega), go_st29 (by omega), go_st29 (by omega), st_comm (a := 0) (i := 29) (b := 1) (j := bOf x (sg s (2 + wtr s a) 4)) (Or.inl (by decide)), go_st29 (by omega)]
              split
              · rfl
              · split <;> rfl
/-- who was told of CANCEL behind a shield has one -/
def OW (s : TS) : Prop := ∀ k : Int, 0 ≤ k → k < sg s 0 5 → sg s (2 + k) 6 ≠ 0 → 0 < sg s (2 + k) 5
theorem OW.of (h : OW s) (e : ∀ a i : Int, (a = 0 ∧ i = 5) ∨ (2 ≤ a ∧ (i = 5 ∨ i = 6)) → sg s' a i = sg s a i) : OW s' := by
  intro k k0 k1 k2
  rw [e 0 5 (by omega)] at k1
  rw [e _ 6 (by omega)] at k2
  rw [e _ 5 (by omega)]
  exact h k k0 k1 k2
theorem OW.go (h : OW s) (k0 : 0 ≤ k) : OW (sGo k l s) := h.of fun a i hh => by rw [go_g, if_neg (by omega), if_neg (by omega)]
theorem OW.wait (h : OW s) (k0 : 0 ≤ k) : OW (sWait k w n s) := h.of fun a i hh => by rw [wait_g, if_neg (by omega), if_neg (by omega)]
theorem OW.cmd {k : Int} (h : OW s) : OW (sCmd x k a b s).2 := h.of fun p i hh => cmd_g (by omega)
theorem OW.fail (h : OW s) (k0 : 0 ≤ k) : OW (sFail x k s) := h.of fun a i hh => fail_a k0 (by omega) (by omega)
theorem OW.sx (h : OW s) (hh : (a = 0 ∧ j ≠ 5) ∨ a = 1 ∨ (2 ≤ a ∧ j ≠ 5 ∧ j ≠ 6)) : OW (st s a j v) := h.of fun a' i g => by rw [st_g, if_neg (by omega)]
theorem OW.rem (h : OW s) : OW (sRem k s) := by
  intro i i0 i1 i2
  rw [rem_5] at i1
  rw [rem_g i0 i1 (by decide)] at i2 ⊢
  exact h _ (by split <;> omega) (by split <;> omega) i2
theorem OW.begin (h : OW s) (h5 : 0 ≤ sg s 0 5) : OW (sBegin p l s) := by
  intro i i0 i1 i2
  rw [begin_5] at i1
  by_cases c : i = sg s 0 5
  · rw [c, begin_n h5] at i2
    exact absurd rfl i2
  · rw [begin_b i0 (by omega)] at i2 ⊢
    exact h i i0 (by omega) i2
theorem OW.cw (h : OW s) (k0 : 0 ≤ k) : OW (match sCmd x kd a b s with
    | (r, s1) => sWait k w r s1) := by
  show OW (sWait k w (sCmd x kd a b s).1 (sCmd x kd a b s).2)
  exact h.cmd.wait k0
theorem OW.endR {k : Int} (h : OW s) : OW (sEndR x k a s) := by
  unfold sEndR
  show OW (if (sCmd x k a 0 s).1 < 0 then (sCmd x k a 0 s).2 else st (sCmd x k a 0 s).2 0 9 k)
  split
  · exact h.cmd
  · exact h.cmd.sx (by omega)
theorem OW.end (h : OW s) : OW (sEnd x k s) := by
  unfold sEnd
  split
  · exact OW.endR (k := 14) (a := sg s 1 0) h
  · exact h.rem
theorem OW.stk (h : OW s) : OW (sStuck s v) := (h.sx (a := 0) (j := 30) (v := 1) (by omega)).sx (by omega)
theorem OW.drop2 : ∀ (n : Nat) (k : Int) (s : TS), OW s → OW (sDrop2 n k s) := by
  intro n
  induction n with
  | zero => intro k s h; exact h
  | succ n ih =>
    intro k s h
    unfold sDrop2
    split
    · exact h
    · split
      · exact ih _ _ h
      · exact ih _ _ h.rem
theorem OW.drop (h : OW s) : OW (sDrop x s) := by
  unfold sDrop
  simp only
  exact OW.drop2 _ _ _ (h.of fun a i hh => (drop1_sm (x := x) 13 0 s (by decide)).1 a i (by omega))
theorem OW.win (h : OW s) (k0 : 0 ≤ k) : OW (sWin x k s) := by
  unfold sWin
  simp only
  split
  · exact h
  · rename_i cf
    generalize find s (sg s (2 + k) 3) = o at cf
    have o0 : 0 ≤ o := by omega
    have h2 : OW (st (st s (2 + k) 3 (-1)) (2 + o) 3 (-1)) := (h.sx (by omega)).sx (by omega)
    generalize st (st s (2 + k) 3 (-1)) (2 + o) 3 (-1) = s2 at h2
    have hdm : ∀ (s3 : TS) (l : Int), OW s3 → OW (sDoom k (sGo o l s3)) := fun s3 l g => (g.go o0).of fun a i hh => (e9_doom k0).1 a i (by omega)
    split
    · split
      · show OW (if (sCmd x 11 (sg s2 (2 + o) 8) 0 s2).1 < 0 then (sCmd x 11 (sg s2 (2 + o) 8) 0 s2).2 else sDoom k (sGo o (sg (sCmd x 11 (sg s2 (2 + o) 8) 0 s2).2 (2 + k) 4) (sCmd x 11 (sg s2 (2 + o) 8) 0 s2).2))
        split
        · exact h2.cmd
        · exact hdm _ _ h2.cmd
      · exact hdm _ _ h2
    · exact h2.of fun a i hh => (e9_doom o0).1 a i (by omega)
theorem OW.bare2 (h : OW s) (k0 : 0 ≤ k) (hh : w ≠ 0 → 0 < v) : OW (st (st s (2 + k) 5 v) (2 + k) 6 w) := by
  intro i i0 i1 i2
  rw [st_g, if_neg (by omega), st_g, if_neg (by omega)] at i1
  by_cases hi : i = k
  · rw [hi, st_g, if_pos ⟨rfl, rfl⟩] at i2
    rw [hi, st_g, if_neg (by omega), st_g, if_pos ⟨rfl, rfl⟩]
    exact hh i2
  · rw [st_g, if_neg (by omega), st_g, if_neg (by omega)] at i2
    rw [st_g, if_neg (by omega), st_g, if_neg (by omega)]
    exact h i i0 i1 i2
theorem OW.line (h : OW s) (hW : SW x s B) (k0 : 0 ≤ k) (k1 : k < sg s 0 5) (c0 : 0 ≤ c) (c1 : c ≤ 23) : OW (sLine x k c a b s) := by
  have h5 := hW.2.2.2.2.2.2.2.1
  have g1 : OW (sGo k (sg s (2 + k) 4 + 1) s) := h.go k0
  have t5 : sg (sGo k (sg s (2 + k) 4 + 1) s) 0 5 = sg s 0 5 := by rw [go_g, if_neg (by omega), if_neg (by omega)]
  have hcc : c = 0 ∨ c = 1 ∨ c = 2 ∨ c = 3 ∨ c = 4 ∨ c = 5 ∨ c = 6 ∨ c = 7 ∨ c = 8 ∨ c = 9 ∨ c = 10 ∨ c = 11 ∨ c = 12 ∨ c = 13 ∨ c = 14 ∨ c = 15 ∨ c = 16 ∨ c = 17 ∨ c = 18 ∨ c = 19 ∨ c = 20 ∨ c = 21 ∨ c = 22 ∨ c = 23 := by omega
  rcases hcc with rfl | rfl | rfl | rfl | rfl | rfl | rfl | rfl | rfl | rfl | rfl | rfl | rfl | rfl | rfl | rfl | rfl | rfl | rfl | rfl | rfl | rfl | rfl | rfl
  · rw [sl0]; exact (h.sx (by omega)).go k0
  · rw [sl1]; exact (h.sx (by omega)).go k0
  · rw [sl2]; exact h.cw k0
  · rw [sl3]; exact h.cw k0
  · rw [sl4]; exact h.wait k0
  · rw [sl5]; exact h.cw k0
  · rw [sl6]
    split <;> exact h.go k0
  · rw [sl7]; exact h.go k0
  · rw [sl8]
    unfold sBelow
    split
    · exact g1.begin (by omega)
    · exact g1.stk
  · rw [sl9]; exact h.wait k0
  · rw [sl10]
    unfold sRace
    split
    · simp only
      have hb : OW (sBegin (sg (sGo k (sg s (2 + k) 4 + 1) s) (2 + k) 0) a (sGo k (sg s (2 + k) 4 + 1) s)) := g1.begin (by omega)
      generalize sBegin (sg (sGo k (sg s (2 + k) 4 + 1) s) (2 + k) 0) a (sGo k (sg s (2 + k) 4 + 1) s) = s1 at hb
      have hfb := find_b (s := s1) (v := sg s1 (2 + k) 3)
      refine OW.sx (OW.sx ?_ (by omega)) (by omega)
      split
      · exact hb
      · exact hb.sx (by omega)
    · exact g1.stk
  · rw [sl11]; exact (g1.win k0).drop
  · rw [sl12]; exact g1.of fun _ _ _ => rfl
  · rw [sl13]; exact g1.of fun _ _ _ => rfl
  · rw [sl14]; exact (h.of (s' := stu s ((1000 * a + sg s 1 b) :: su s)) (fun _ _ _ => rfl)).go k0
  · rw [sl15]
    unfold sUndo
    split
    · exact g1
    · rename_i v t hu
      exact (h.of (s' := stu s t) (fun _ _ _ => rfl)).cw k0
  · rw [sl16]; exact h.end
  · rw [sl17]; exact h.fail k0
  · rw [sl18]; exact OW.endR (k := 16) (a := sg s 1 a) h
  · rw [sl19]
    have hp : OW (sPatch x a s).2 := by
      unfold sPatch
      split
      · split
        · exact (h.sx (a := 0) (j := 7) (v := iOr (sg s 0 7) (iShl 1 a)) (by omega)).cmd
        · exact h
      · exact h
    generalize hr : sPatch x a s = r at hp
    obtain ⟨r, s1⟩ := r
    exact hp.go k0
  · rw [sl20]; exact (h.sx (by omega)).go k0
  · rw [sl21]
    refine OW.go (fun i i0 i1 i2 => ?_) k0
    have hb := (hW.br k0 k1).2.2.2.2.2.1
    rw [st_g, if_neg (by omega)] at i1
    rw [st_g, if_neg (by omega)] at i2
    rw [st_g]
    split
    · omega
    · exact h i i0 i1 i2
  · rw [sl22]
    have hb : OW (sBare k s).2 := by
      unfold sBare
      simp only
      have hy : 0 ≤ (if 0 < sg s (2 + k) 5 then sg s (2 + k) 5 - 1 else 0) := by split <;> omega
      generalize (if 0 < sg s (2 + k) 5 then sg s (2 + k) 5 - 1 else 0) = y at hy
      split
      · exact h.bare2 k0 (fun g => absurd rfl g)
      · rename_i cn
        refine h.bare2 k0 fun g => ?_
        by_cases c6 : sg s (2 + k) 6 = 0
        · rw [if_pos c6] at g
          exact absurd rfl g
        · by_cases z : y = 0
          · exact absurd ⟨c6, z⟩ cn
          · omega
    generalize hr : sBare k s = r at hb
    obtain ⟨r, s1⟩ := r
    simp only at hb ⊢
    have z : OW (sGo k (sg s (2 + k) 4 + 1) s1) := hb.go k0
    cases r with
    | false => exact z
    | true => exact z.fail k0
  · rw [sl23]; exact h.cmd.go k0
end NT1
