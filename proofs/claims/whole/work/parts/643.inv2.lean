/-! THE TELLING, plain: the order of numbers is kept by every turn; none is doomed behind a line. -/
section IVT
variable {x : CX} {s s' s2 : TS} {B : Int} {a b c e i j v k h n l w p r t o q : Int}
theorem fail_a (hk : 0 ≤ k) (h : p ≠ 2 + k ∨ (q ≠ 4 ∧ q ≠ 7)) (h2 : p ≠ 0 ∨ (q ≠ 12 ∧ q ≠ 30 ∧ q ≠ 31 ∧ q ≠ 9)) : sg (sFail x k s) p q = sg s p q := by
  unfold sFail
  split
  · rename_i v t hv
    show sg (sGo k v (sGo k (sg s (2 + k) 4) s)) p q = _
    rw [go_g, if_neg (by omega), if_neg (by omega), go_g, if_neg (by omega), if_neg (by omega)]
  · have hc : sg (sCmd x 15 0 0 (sGo k (sg s (2 + k) 4) s)).2 p q = sg s p q := by rw [cmd_g (by omega), go_g, if_neg (by omega), if_neg (by omega)]
    show sg (if (sCmd x 15 0 0 (sGo k (sg s (2 + k) 4) s)).1 < 0 then (sCmd x 15 0 0 (sGo k (sg s (2 + k) 4) s)).2 else st (sCmd x 15 0 0 (sGo k (sg s (2 + k) 4) s)).2 0 9 15) p q = _
    split
    · exact hc
    · rw [st_g, if_neg (by omega)]; exact hc
def PI (s : TS) : Prop := IV s ∧ ND s
theorem PI.of (h6 : 0 ≤ sg s 0 6) (hP : PI s) (h : ∀ a i : Int, (a = 0 ∧ (i = 5 ∨ i = 6)) ∨ (2 ≤ a ∧ (i = 0 ∨ i = 1 ∨ i = 2 ∨ i = 3 ∨ i = 9)) ∨ a = -1 → sg s' a i = sg s a i) : PI s' := by
  refine ⟨IV.of h6 hP.1 fun a i hh => h a i (by omega), fun k k0 k1 => ?_⟩
  rw [h 0 5 (by omega)] at k1
  rw [h _ 9 (by omega)]
  exact hP.2 k k0 k1
theorem PI.go (hk : 0 ≤ k) (h6 : 0 ≤ sg s 0 6) (hP : PI s) : PI (sGo k l s) := hP.of h6 fun a i hh => by rw [go_g, if_neg (by omega), if_neg (by omega)]
theorem PI.sx (h6 : 0 ≤ sg s 0 6) (hP : PI s) (h : (a = 0 ∧ j ≠ 5 ∧ j ≠ 6) ∨ a = 1 ∨ (2 ≤ a ∧ (4 ≤ j ∧ j ≠ 9))) : PI (st s a j v) := hP.of h6 fun a' i hh => by rw [st_g, if_neg (by omega)]
theorem PI.wait (hk : 0 ≤ k) (h6 : 0 ≤ sg s 0 6) (hP : PI s) : PI (sWait k w n s) := hP.of h6 fun a i hh => by rw [wait_g, if_neg (by omega), if_neg (by omega)]
theorem PI.cmd {k : Int} (h6 : 0 ≤ sg s 0 6) (hP : PI s) : PI (sCmd x k a b s).2 := hP.of h6 fun p i hh => cmd_g (by omega)
theorem PI.fail (hk : 0 ≤ k) (h6 : 0 ≤ sg s 0 6) (hP : PI s) : PI (sFail x k s) := hP.of h6 fun a i hh => fail_a hk (by omega) (by omega)
theorem PI.lt (h6 : 0 ≤ sg s 0 6) (hP : PI s) : PI (sLet x k s) := hP.of h6 fun a i hh => let_g (by omega)
theorem PI.rem (hP : PI s) (hW : SW x s B) (k0 : 0 ≤ k) (k1 : k < sg s 0 5) : PI (sRem k s) := by
  refine ⟨hP.1.rem hW k0 k1, fun i i0 i1 => ?_⟩
  rw [rem_5] at i1
  rw [rem_g i0 i1 (by decide)]
  exact hP.2 _ (by split <;> omega) (by split <;> omega)
theorem PI.cw {kd : Int} (hk : 0 ≤ k) (h6 : 0 ≤ sg s 0 6) (hP : PI s) : PI (match sCmd x kd a b s with
    | (r, s1) => sWait k w r s1) := by
  have h1 : PI (sCmd x kd a b s).2 := hP.cmd h6
  have e6 : sg (sCmd x kd a b s).2 0 6 = sg s 0 6 := cmd_g (by omega)
  show PI (sWait k w (sCmd x kd a b s).1 (sCmd x kd a b s).2)
  exact h1.wait hk (by omega)
theorem PI.endR (h6 : 0 ≤ sg s 0 6) (hP : PI s) : PI (sEndR x k a s) := by
  have h1 : PI (sCmd x k a 0 s).2 := hP.cmd h6
  have e6 : sg (sCmd x k a 0 s).2 0 6 = sg s 0 6 := cmd_g (by omega)
  unfold sEndR
  show PI (if (sCmd x k a 0 s).1 < 0 then (sCmd x k a 0 s).2 else st (sCmd x k a 0 s).2 0 9 k)
  split
  · exact h1
  · exact h1.sx (by omega) (by omega)
theorem PI.end (hP : PI s) (hW : SW x s B) (k0 : 0 ≤ k) (k1 : k < sg s 0 5) : PI (sEnd x k s) := by
  have h6 := hW.2.2.2.2.2.1.1
  unfold sEnd
  split
  · exact PI.endR (x := x) (k := 14) (a := sg s 1 0) h6 hP
  · exact hP.rem hW k0 k1
theorem PI.stk (h6 : 0 ≤ sg s 0 6) (hP : PI s) : PI (sStuck s v) := (hP.sx (a := 0) (j := 30) (v := 1) h6 (by omega)).sx (by rw [st_g, if_neg (by omega)]; exact h6) (by omega)
theorem newB9 {g p l : Int} : newB g p l 9 = 0 := rfl
theorem PI.begin (hP : PI s) (hW : SW x s B) (h1 : sg s 0 5 < 12) (hp : p = -1 ∨ 0 ≤ find s p) (hp6 : p < sg s 0 6) : PI (sBegin p l s) := by
  have h5 := hW.2.2.2.2.2.2.2.1
  refine ⟨begin_iv hP.1 hW h1 hp hp6, fun k k0 k1 => ?_⟩
  rw [begin_5] at k1
  by_cases c : k = sg s 0 5
  · rw [c, begin_n h5.1, newB9]
  · rw [begin_b k0 (by omega)]
    exact hP.2 k k0 (by omega)
theorem PI.below (hP : PI s) (hW : SW x s B) (k0 : 0 ≤ k) (k1 : k < sg s 0 5) : PI (sBelow k l s) := by
  have h5 := hW.2.2.2.2.2.2.2.1
  have h6 := hW.2.2.2.2.2.1.1
  unfold sBelow
  split
  · exact hP.begin hW (by assumption) (Or.inr (by rw [find_at hP.1.1 k0 k1 h5.2]; exact k0)) (hW.br k0 k1).1.2
  · exact hP.stk h6
theorem PI.race (hP : PI s) (hW : SW x s B) (k0 : 0 ≤ k) (k1 : k < sg s 0 5) : PI (sRace k l s) := by
  have h5 := hW.2.2.2.2.2.2.2.1
  have h6 := hW.2.2.2.2.2.1.1
  have hn := (hW.br k0 k1).1
  unfold sRace
  by_cases c : sg s 0 5 < 12
  · rw [if_pos c]
    simp only
    have hb : PI (sBegin (sg s (2 + k) 0) l s) := hP.begin hW c (Or.inr (by rw [find_at hP.1.1 k0 k1 h5.2]; exact k0)) hn.2
    have b5 : sg (sBegin (sg s (2 + k) 0) l s) 0 5 = sg s 0 5 + 1 := begin_5
    have b6 : sg (sBegin (sg s (2 + k) 0) l s) 0 6 = sg s 0 6 + 1 := begin_6
    have bk : sg (sBegin (sg s (2 + k) 0) l s) (2 + k) 0 = sg s (2 + k) 0 := begin_b k0 k1
    have bn : sg (sBegin (sg s (2 + k) 0) l s) (2 + sg s 0 5) 0 = sg s 0 6 := begin_n h5.1
    have bp : sg (sBegin (sg s (2 + k) 0) l s) (-1) (sg s 0 6) = sg s (2 + k) 0 := by rw [begin_p h5.1, if_pos rfl]
    generalize sBegin (sg s (2 + k) 0) l s = s1 at hb b5 b6 bk bn bp
    have hfin : ∀ s2 : TS, (∀ a i : Int, (a < 2 ∨ i ≠ 3) → sg s2 a i = sg s1 a i) → (∀ i : Int, 0 ≤ i → sg s2 (2 + i) 3 = sg s1 (2 + i) 3 ∨ sg s2 (2 + i) 3 = -1) → PI (st (st s2 (2 + k) 3 (sg s2 (2 + sg s 0 5) 0)) (2 + sg s 0 5) 3 (sg s2 (2 + k) 0)) := by
      intro s2 q1 q3
      rw [q1 _ 0 (by omega), q1 _ 0 (by omega), bk, bn]
      have es : ∀ a i : Int, (a < 2 ∨ i ≠ 3) → sg (st (st s2 (2 + k) 3 (sg s 0 6)) (2 + sg s 0 5) 3 (sg s (2 + k) 0)) a i = sg s1 a i := fun a i hh => by rw [st_g, if_neg (by omega), st_g, if_neg (by omega)]; exact q1 a i hh
      have cg : Cg s1 (st (st s2 (2 + k) 3 (sg s 0 6)) (2 + sg s 0 5) 3 (sg s (2 + k) 0)) := Cg.of fun a i hh => es a i (by omega)
      have e3 : ∀ i : Int, 0 ≤ i → sg (st (st s2 (2 + k) 3 (sg s 0 6)) (2 + sg s 0 5) 3 (sg s (2 + k) 0)) (2 + i) 3 = if i = sg s 0 5 then sg s (2 + k) 0 else if i = k then sg s 0 6 else sg s2 (2 + i) 3 := fun i i0 => by
        rw [st_g, st_g]
        by_cases z1 : i = sg s 0 5
        · rw [if_pos ⟨by omega, rfl⟩, if_pos z1]
        · rw [if_neg (by omega), if_neg z1]
          by_cases z2 : i = k
          · rw [if_pos ⟨by omega, rfl⟩, if_pos z2]
          · rw [if_neg (by omega), if_neg z2]
      refine ⟨⟨cg.si hb.1.1, cg.ab hb.1.2.1, fun i i0 i1 => ?_, fun i i0 i1 => ?_, fun i i0 i1 => ?_⟩, fun i i0 i1 => ?_⟩
      · rw [es 0 5 (by omega)] at i1
        rw [es 0 6 (by omega), e3 i i0, b6]
        have z := hb.1.2.2.1 i i0 i1
        have z3 := q3 i i0
        split
        · omega
        · split <;> omega
      · rw [es 0 5 (by omega)] at i1
        rw [e3 i i0, es (2 + i) 0 (by omega), es (-1) _ (by omega), es (-1) _ (by omega)]
        by_cases z1 : i = sg s 0 5
        · rw [if_pos z1, z1, bn, bp]
          exact Or.inr ⟨by omega, Or.inr rfl⟩
        · rw [if_neg z1]
          by_cases z2 : i = k
          · rw [if_pos z2, z2, bk, bp]
            exact Or.inr ⟨by omega, Or.inl rfl⟩
          · rw [if_neg z2]
            rcases q3 i i0 with g | g
            · rw [g]; exact hb.1.2.2.2.1 i i0 i1
            · exact Or.inl g
      · rw [es 0 5 (by omega)] at i1
        rw [es _ 1 (by omega), es _ 0 (by omega), es (-1) _ (by omega)]
        exact hb.1.2.2.2.2 i i0 i1
      · rw [es 0 5 (by omega)] at i1
        rw [es _ 9 (by omega)]
        exact hb.2 i i0 i1
    split
    · exact hfin s1 (fun _ _ _ => rfl) (fun _ _ => Or.inl rfl)
    · rename_i cf
      refine hfin _ (fun a i hh => by rw [st_g, if_neg (by omega)]) (fun i i0 => ?_)
      rw [st_g]
      split
      · exact Or.inr rfl
      · exact Or.inl rfl
  · rw [if_neg c]
    exact hP.stk h6
/-- all but marks of doom -/
theorem IV.e9 (h : E9 s s') (h6 : 0 ≤ sg s 0 6) (hV : IV s) : IV s' := hV.of h6 fun a i hh => h.1 a i (by omega)
theorem e9_doomL : ∀ (n : Nat) (i : Int) (s' : TS), 0 ≤ i → E9 s s' → E9 s (sDoomL n i s') := by
  intro n
  induction n with
  | zero => intro i s' _ h; exact h
  | succ n ih =>
    intro i s' i0 h
    unfold sDoomL
    split
    · split
      · exact ih _ _ (by omega) h
      · split
        · exact ih _ _ (by omega) h
        · exact ih _ _ (by omega) (h.st.resolve_right (by omega))
    · exact h
theorem e9_doom (hk : 0 ≤ k) : E9 s (sDoom k s) := e9_doomL 12 0 _ (by decide) (E9.rf.st.resolve_right (by omega))
theorem let_9 (hk : 0 ≤ j) : sg (sLet x k s) (2 + j) 9 = sg s (2 + j) 9 := let_g (Or.inl (by omega))
theorem drop1_iv (hs : x.1 3 ≤ x.1 0) : ∀ (n : Nat) (k : Int) (s : TS), 0 ≤ k → IV s → SW x s B → IV (sDrop1 x n k s) := by
  intro n
  induction n with
  | zero => intro k s _ h _; exact h
  | succ n ih =>
    intro k s k0 h hW
    have h6 := hW.2.2.2.2.2.1.1
    rw [drop1_u]
    split
    · split
      · refine ih _ _ (by omega) ?_ ?_
        · split
          · exact h.of h6 fun a i hh => let_g (by omega)
          · exact h
        · split
          · exact w_let hs hW
          · exact hW
      · exact h
    · exact h
theorem drop2_pi : ∀ (n : Nat) (k : Int) (s : TS), k < sg s 0 5 → k + 1 ≤ n → IV s → SW x s B → (∀ j : Int, k < j → j < sg s 0 5 → sg s (2 + j) 9 = 0) → PI (sDrop2 n k s) := by
  intro n
  induction n with
  | zero => intro k s k1 k2 h hW h9; exact ⟨h, fun j j0 j1 => h9 j (by omega) j1⟩
  | succ n ih =>
    intro k s k1 k2 h hW h9
    unfold sDrop2
    by_cases c : k < 0
    · rw [if_pos c]
      exact ⟨h, fun j j0 j1 => h9 j (by omega) j1⟩
    · rw [if_neg c]
      by_cases c9 : sg s (2 + k) 9 = 0
      · rw [if_pos c9]
        refine ih _ _ (by omega) (by omega) h hW fun j j0 j1 => ?_
        by_cases hj : j = k
        · rw [hj]; exact c9
        · exact h9 j (by omega) j1
      · rw [if_neg c9]
        refine ih _ _ (by rw [rem_5]; omega) (by omega) (h.rem hW (by omega) k1) (hW.rem (by omega) k1) fun j j0 j1 => ?_
        rw [rem_5] at j1
        rw [rem_g (by omega) j1 (by decide), if_neg (by omega)]
        exact h9 _ (by omega) (by omega)
theorem drop_pi (hs : x.1 3 ≤ x.1 0) (hV : IV s) (hW : SW x s B) : PI (sDrop x s) := by
  have hW1 : SW x (sDrop1 x 13 0 s) B := w_drop1 hs _ _ _ hW
  have h5 := hW1.2.2.2.2.2.2.2.1
  unfold sDrop
  simp only
  exact drop2_pi 13 _ _ (by omega) (by omega) (drop1_iv hs 13 0 s (by decide) hV hW) hW1 (fun j j0 j1 => by omega)
theorem win_iv (hV : IV s) (h6 : 0 ≤ sg s 0 6) (k0 : 0 ≤ k) : IV (sWin x k s) := by
  unfold sWin
  simp only
  split
  · exact hV
  · rename_i cf
    have hfb := find_b (s := s) (v := sg s (2 + k) 3)
    generalize find s (sg s (2 + k) 3) = o at cf hfb
    have o0 : 0 ≤ o := by omega
    have h2 : IV (st (st s (2 + k) 3 (-1)) (2 + o) 3 (-1)) := by
      have es : ∀ p q : Int, (p < 2 ∨ q ≠ 3) → sg (st (st s (2 + k) 3 (-1)) (2 + o) 3 (-1)) p q = sg s p q := fun p q hh => by rw [st_g, if_neg (by omega), st_g, if_neg (by omega)]
      refine IV.cg (Cg.of fun a i hh => es a i (by omega)) (fun i i0 => es _ _ (by omega)) (fun i i0 => ?_) h6 hV
      rw [st_g]
      split
      · exact Or.inr rfl
      · rw [st_g]
        split
        · exact Or.inr rfl
        · exact Or.inl rfl
    have z6 : 0 ≤ sg (st (st s (2 + k) 3 (-1)) (2 + o) 3 (-1)) 0 6 := by rw [st_g, if_neg (by omega), st_g, if_neg (by omega)]; exact h6
    generalize st (st s (2 + k) 3 (-1)) (2 + o) 3 (-1) = s2 at h2 z6
    have hdm : ∀ (s3 : TS) (l : Int), IV s3 → 0 ≤ sg s3 0 6 → IV (sDoom k (sGo o l s3)) := fun s3 l g1 g2 => by
      have g3 : IV (sGo o l s3) := g1.of g2 fun a i hh => by rw [go_g, if_neg (by omega), if_neg (by omega)]
      exact g3.e9 (e9_doom k0) (by rw [go_g, if_neg (by omega), if_neg (by omega)]; exact g2)
    split
    · split
      · show IV (if (sCmd x 11 (sg s2 (2 + o) 8) 0 s2).1 < 0 then (sCmd x 11 (sg s2 (2 + o) 8) 0 s2).2 else sDoom k (sGo o (sg (sCmd x 11 (sg s2 (2 + o) 8) 0 s2).2 (2 + k) 4) (sCmd x 11 (sg s2 (2 + o) 8) 0 s2).2))
        have h3 : IV (sCmd x 11 (sg s2 (2 + o) 8) 0 s2).2 := h2.of z6 fun p i hh => cmd_g (by omega)
        split
        · exact h3
        · exact hdm _ _ h3 (by rw [cmd_g (by omega)]; exact z6)
      · exact hdm _ _ h2 z6
    · exact h2.e9 (e9_doom o0) z6
end IVT
