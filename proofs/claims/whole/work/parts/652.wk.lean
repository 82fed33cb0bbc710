/-! THE TELLING, plain: what branches wait for. -/
section WKS
variable {x : CX} {s s' s1 s2 : TS} {B : Int} {a b c d e i j v k h n l w p r t o q u kd : Int}
theorem nl_nn0 : 0 ≤ nl s := Int.natCast_nonneg _
def kdc (c : Int) : Int := if c = 2 then 8 else if c = 3 then 9 else 10
def WKb (x : CX) (s : TS) (k : Int) : Prop := (sg s (2 + k) 7 = 3 → (x.2.2 (sg s (2 + k) 4)).1 = 4) ∧ (sg s (2 + k) 7 = 1 → ((x.2.2 (sg s (2 + k) 4)).1 = 2 ∨ (x.2.2 (sg s (2 + k) 4)).1 = 3 ∨ (x.2.2 (sg s (2 + k) 4)).1 = 5) ∧ (sg s 0 30 = 0 → sg s (2 + k) 8 < x.1 0 → ek (x.2.1 (sg s (2 + k) 8)) = kdc (x.2.2 (sg s (2 + k) 4)).1)) ∧ ((sg s (2 + k) 7 = 1 ∨ sg s (2 + k) 7 = 2) → sg s 0 30 = 0 → (sg s (2 + k) 8 < sg s 0 12 ∨ (x.1 0 ≤ sg s (2 + k) 8 ∧ sg s (2 + k) 8 < x.1 0 + nl s)))
def WK (x : CX) (s : TS) : Prop := (∀ k : Int, 0 ≤ k → k < sg s 0 5 → WKb x s k) ∧ (sg s 0 30 = 0 → WD s)
theorem WK.to (h : WK x s) (h5 : sg s' 0 5 = sg s 0 5) (h30 : sg s' 0 30 = 0 → sg s 0 30 = 0) (h12 : sg s 0 12 ≤ sg s' 0 12) (hn : nl s ≤ nl s') (hb : ∀ k : Int, 0 ≤ k → k < sg s 0 5 → (sg s' (2 + k) 7 = 0 ∨ (sg s' (2 + k) 7 = sg s (2 + k) 7 ∧ sg s' (2 + k) 8 = sg s (2 + k) 8 ∧ sg s' (2 + k) 4 = sg s (2 + k) 4))) : WK x s' := by
  refine ⟨fun k k0 k1 => ?_, fun g30 i k i0 i1 k0 k1 q1 q2 q3 => ?_⟩
  · rw [h5] at k1
    obtain ⟨b1, b2, b3⟩ := h.1 k k0 k1
    unfold WKb
    rcases hb k k0 k1 with g | ⟨g1, g2, g3⟩
    · rw [g]
      exact ⟨fun z => by omega, fun z => by omega, fun z => by omega⟩
    · rw [g1, g2, g3]
      refine ⟨b1, fun z => ⟨(b2 z).1, fun z1 => (b2 z).2 (h30 z1)⟩, fun z z1 => ?_⟩
      have := b3 z (h30 z1)
      omega
  · rw [h5] at i1 k1
    rcases hb i i0 i1 with g | ⟨g1, g2, g3⟩
    · omega
    · rcases hb k k0 k1 with z | ⟨z1, z2, z3⟩
      · omega
      · exact h.2 (h30 g30) i k i0 i1 k0 k1 (by omega) (by omega) (by omega)
theorem WK.same (h : WK x s) (e : ∀ a i : Int, (a = 0 ∧ (i = 5 ∨ i = 12 ∨ i = 30)) ∨ (2 ≤ a ∧ (i = 4 ∨ i = 7 ∨ i = 8)) → sg s' a i = sg s a i) (hn : nl s' = nl s) : WK x s' :=
  h.to (e _ _ (by omega)) (fun g => by rw [← e 0 30 (by omega)]; exact g) (by rw [e 0 12 (by omega)]; exact Int.le_refl _) (by omega) fun k k0 k1 => Or.inr ⟨e _ _ (by omega), e _ _ (by omega), e _ _ (by omega)⟩
theorem WK.go (h : WK x s) (k0 : 0 ≤ k) : WK x (sGo k l s) := by
  refine h.to (by rw [go_g, if_neg (by omega), if_neg (by omega)]) (fun g => by rw [u_go] at g; exact g) (by rw [go_g, if_neg (by omega), if_neg (by omega)]; exact Int.le_refl _) (Int.le_refl _) fun i i0 i1 => ?_
  by_cases c : i = k
  · exact Or.inl (by rw [go_g, if_neg (by omega), if_pos ⟨by omega, rfl⟩])
  · exact Or.inr ⟨by rw [go_g, if_neg (by omega), if_neg (by omega)], by rw [go_g, if_neg (by omega), if_neg (by omega)], by rw [go_g, if_neg (by omega), if_neg (by omega)]⟩
theorem cmd_12 (hW : SW x s B) : sg s 0 12 ≤ sg (sCmd x kd a b s).2 0 12 := by
  have hb := nc_b hW.1.2
  unfold sCmd
  split
  · split
    · show _ ≤ sg (st (st s 0 12 _) 0 12 _) 0 12
      rw [st_g, if_pos ⟨rfl, rfl⟩]; omega
    · show _ ≤ sg (sStuck (st s 0 12 _) _) 0 12
      unfold sStuck
      rw [st_g, if_neg (by omega), st_g, if_neg (by omega), st_g, if_pos ⟨rfl, rfl⟩]; omega
  · split
    · show _ ≤ sg (sStuck (st s 0 12 _) _) 0 12
      unfold sStuck
      rw [st_g, if_neg (by omega), st_g, if_neg (by omega), st_g, if_pos ⟨rfl, rfl⟩]; omega
    · have e : sg (st s 0 12 (nc x (sg s 0 12))) 0 12 = nc x (sg s 0 12) := by rw [st_g, if_pos ⟨rfl, rfl⟩]
      show _ ≤ sg (st s 0 12 (nc x (sg s 0 12))) 0 12
      omega
theorem cmd_spec (hW : SW x s B) (hs : x.1 3 ≤ x.1 0) (h4 : x.1 4 ≠ 1) (h30 : sg (sCmd x kd a b s).2 0 30 = 0) : (sg s 0 12 ≤ (sCmd x kd a b s).1 ∧ (sCmd x kd a b s).1 < x.1 0 ∧ sg (sCmd x kd a b s).2 0 12 = (sCmd x kd a b s).1 + 1 ∧ eis (x.2.1 (sCmd x kd a b s).1) kd a b = true ∧ nl (sCmd x kd a b s).2 = nl s) ∨ ((sCmd x kd a b s).1 = x.1 0 + nl s ∧ nl (sCmd x kd a b s).2 = nl s + 1) := by
  have hb := nc_b hW.1.2
  have hse := seen_b (s := s) hs
  unfold sCmd at h30 ⊢
  by_cases c1 : nc x (sg s 0 12) < sSeen x s
  · rw [if_pos c1] at h30 ⊢
    by_cases c2 : x.1 4 = 1 ∨ eis (x.2.1 (nc x (sg s 0 12))) kd a b = true
    · rw [if_pos c2]
      refine Or.inl ⟨hb.1, by show nc x _ < _; omega, ?_, c2.resolve_left h4, rfl⟩
      show sg (st (st s 0 12 _) 0 12 _) 0 12 = _
      rw [st_g, if_pos ⟨rfl, rfl⟩]
    · rw [if_neg c2] at h30
      exact absurd h30 u_stuck
  · rw [if_neg c1] at h30 ⊢
    by_cases c2 : sg s 0 10 < x.1 1
    · rw [if_pos c2] at h30
      exact absurd h30 u_stuck
    · rw [if_neg c2]
      refine Or.inr ⟨rfl, ?_⟩
      unfold nl
      show ((sn s ++ [(kd, a, b)]).length : Int) = _
      rw [List.length_append]
      simp only [List.length_cons, List.length_nil]
      omega
theorem WK.cmd (h : WK x s) (hW : SW x s B) : WK x (sCmd x kd a b s).2 :=
  h.to (cmd_g (by omega)) u_cmd (cmd_12 hW) nl_cmd fun k k0 k1 => Or.inr ⟨cmd_g (by omega), cmd_g (by omega), cmd_g (by omega)⟩
theorem WK.lt (h : WK x s) (hW : SW x s B) : WK x (sLet x k s) := by
  unfold sLet
  split
  · exact h.cmd hW
  · exact h
theorem WK.cw (h : WK x s) (hW : SW x s B) (hs : x.1 3 ≤ x.1 0) (h4 : x.1 4 ≠ 1) (k0 : 0 ≤ k) (k1 : k < sg s 0 5) (hw : (w = 1 ∧ ((x.2.2 (sg s (2 + k) 4)).1 = 2 ∨ (x.2.2 (sg s (2 + k) 4)).1 = 3 ∨ (x.2.2 (sg s (2 + k) 4)).1 = 5) ∧ kd = kdc (x.2.2 (sg s (2 + k) 4)).1) ∨ w = 2) : WK x (match sCmd x kd a b s with
    | (r, s1) => sWait k w r s1) := by
  show WK x (sWait k w (sCmd x kd a b s).1 (sCmd x kd a b s).2)
  have h1 : WK x (sCmd x kd a b s).2 := h.cmd hW
  have e5 : sg (sCmd x kd a b s).2 0 5 = sg s 0 5 := cmd_g (by omega)
  have e4 : sg (sCmd x kd a b s).2 (2 + k) 4 = sg s (2 + k) 4 := cmd_g (by omega)
  have hsp := cmd_spec (kd := kd) (a := a) (b := b) hW hs h4
  have h12 := hW.1
  -- what others wait for is something else
  have hfr : sg (sCmd x kd a b s).2 0 30 = 0 → ∀ i : Int, 0 ≤ i → i < sg s 0 5 → (sg s (2 + i) 7 = 1 ∨ sg s (2 + i) 7 = 2) → sg s (2 + i) 8 ≠ (sCmd x kd a b s).1 := fun g i i0 i1 q => by
    have := (h.1 i i0 i1).2.2 q (u_cmd g)
    have hnn := nl_nn0 (s := s)
    rcases hsp g with ⟨z1, z2, -⟩ | ⟨z1, -⟩ <;> omega
  have ec : ∀ i q : Int, 0 ≤ i → sg (sCmd x kd a b s).2 (2 + i) q = sg s (2 + i) q := fun i q i0 => cmd_g (Or.inl (by omega))
  generalize hS : (sCmd x kd a b s).2 = s1 at *
  generalize hR : (sCmd x kd a b s).1 = r at *
  have eo : ∀ i q : Int, 0 ≤ i → i ≠ k → sg (sWait k w r s1) (2 + i) q = sg s1 (2 + i) q := fun i q i0 hi => by rw [wait_g, if_neg (by omega), if_neg (by omega)]
  have e0 : ∀ q : Int, sg (sWait k w r s1) 0 q = sg s1 0 q := fun q => by rw [wait_g, if_neg (by omega), if_neg (by omega)]
  have enl : nl (sWait k w r s1) = nl s1 := rfl
  have e7 : sg (sWait k w r s1) (2 + k) 7 = w := by rw [wait_g, if_neg (by omega), if_pos ⟨rfl, rfl⟩]
  have e8 : sg (sWait k w r s1) (2 + k) 8 = r := by rw [wait_g, if_pos ⟨rfl, rfl⟩]
  have e4' : sg (sWait k w r s1) (2 + k) 4 = sg s1 (2 + k) 4 := by rw [wait_g, if_neg (by omega), if_neg (by omega)]
  refine ⟨fun i i0 i1 => ?_, fun g30 i j i0 i1 j0 j1 q1 q2 q3 => ?_⟩
  · rw [e0, e5] at i1
    by_cases hi : i = k
    · rw [hi]
      unfold WKb
      rw [e7, e8, e4', e4, e0, e0, enl]
      refine ⟨fun z => by omega, fun z => ?_, fun z z1 => ?_⟩
      · rcases hw with ⟨-, w2, w3⟩ | w1
        · refine ⟨w2, fun g1 g2 => ?_⟩
          rcases hsp g1 with ⟨z1, z2, z3, z4, z5⟩ | ⟨z1, z2⟩
          · unfold eis at z4
            simp only [Bool.and_eq_true, decide_eq_true_eq] at z4
            rw [z4.1, w3]
          · have := nl_nn0 (s := s)
            omega
        · omega
      · rcases hsp z1 with ⟨y1, y2, y3, y4, y5⟩ | ⟨y1, y2⟩
        · exact Or.inl (by omega)
        · have := nl_nn0 (s := s)
          exact Or.inr ⟨by omega, by omega⟩
    · have := h1.1 i i0 (by omega)
      unfold WKb at this ⊢
      rw [eo i 7 i0 hi, eo i 8 i0 hi, eo i 4 i0 hi, e0, e0, enl]
      exact this
  · rw [e0] at g30
    rw [e0, e5] at i1 j1
    by_cases hi : i = k
    · by_cases hj : j = k
      · omega
      · exfalso
        rw [eo j _ j0 hj] at q2 q3
        rw [hi, e8] at q3
        rw [ec j _ j0] at q2 q3
        exact hfr g30 j j0 j1 q2 q3.symm
    · by_cases hj : j = k
      · exfalso
        rw [eo i _ i0 hi] at q1 q3
        rw [hj, e8] at q3
        rw [ec i _ i0] at q1 q3
        exact hfr g30 i i0 i1 q1 q3
      · rw [eo i _ i0 hi] at q1 q3
        rw [eo j _ j0 hj] at q2 q3
        exact h1.2 g30 i j i0 (by omega) j0 (by omega) q1 q2 q3
theorem WK.wait (h : WK x s) (k0 : 0 ≤ k) (hw : (w = 3 ∧ (x.2.2 (sg s (2 + k) 4)).1 = 4) ∨ w = 4) : WK x (sWait k w n s) := by
  have eo : ∀ i q : Int, 0 ≤ i → i ≠ k → sg (sWait k w n s) (2 + i) q = sg s (2 + i) q := fun i q i0 hi => by rw [wait_g, if_neg (by omega), if_neg (by omega)]
  have e0 : ∀ q : Int, sg (sWait k w n s) 0 q = sg s 0 q := fun q => by rw [wait_g, if_neg (by omega), if_neg (by omega)]
  have e7 : sg (sWait k w n s) (2 + k) 7 = w := by rw [wait_g, if_neg (by omega), if_pos ⟨rfl, rfl⟩]
  have e4 : sg (sWait k w n s) (2 + k) 4 = sg s (2 + k) 4 := by rw [wait_g, if_neg (by omega), if_neg (by omega)]
  refine ⟨fun i i0 i1 => ?_, fun g30 i j i0 i1 j0 j1 q1 q2 q3 => ?_⟩
  · rw [e0] at i1
    by_cases hi : i = k
    · rw [hi]
      unfold WKb
      rw [e7, e4]
      exact ⟨fun z => by omega, fun z => by omega, fun z => by omega⟩
    · have := h.1 i i0 i1
      unfold WKb at this ⊢
      rw [eo i 7 i0 hi, eo i 8 i0 hi, eo i 4 i0 hi, e0, e0]
      exact this
  · rw [e0] at i1 j1 g30
    have hi : i ≠ k := fun z => by rw [z, e7] at q1; omega
    have hj : j ≠ k := fun z => by rw [z, e7] at q2; omega
    rw [eo i _ i0 hi] at q1 q3
    rw [eo j _ j0 hj] at q2 q3
    exact h.2 g30 i j i0 i1 j0 j1 q1 q2 q3
theorem WK.rem (h : WK x s) : WK x (sRem k s) := by
  have e0 : ∀ q : Int, q ≠ 5 → q ≠ 2 → sg (sRem k s) 0 q = sg s 0 q := fun q g1 g2 => rem_o (Or.inl ⟨rfl, g1, g2⟩)
  have enl : nl (sRem k s) = nl s := rfl
  refine ⟨fun i i0 i1 => ?_, fun g30 i j i0 i1 j0 j1 q1 q2 q3 => ?_⟩
  · rw [rem_5] at i1
    have := h.1 (if i < k then i else i + 1) (by split <;> omega) (by split <;> omega)
    unfold WKb at this ⊢
    rw [rem_g i0 i1 (by decide), rem_g i0 i1 (by decide), rem_g i0 i1 (by decide), e0 30 (by decide) (by decide), e0 12 (by decide) (by decide), enl]
    exact this
  · rw [rem_5] at i1 j1
    rw [u_rem] at g30
    rw [rem_g i0 i1 (by decide)] at q1
    rw [rem_g j0 j1 (by decide)] at q2
    rw [rem_g i0 i1 (by decide), rem_g j0 j1 (by decide)] at q3
    have := h.2 g30 _ _ (by split <;> omega) (by split <;> omega) (by split <;> omega) (by split <;> omega) q1 q2 q3
    split at this <;> split at this <;> omega
theorem WK.begin (h : WK x s) (h5 : 0 ≤ sg s 0 5) : WK x (sBegin p l s) := by
  have e0 : ∀ q : Int, q ≠ 5 → q ≠ 6 → sg (sBegin p l s) 0 q = sg s 0 q := fun q g1 g2 => by rw [begin_g (by decide), if_neg (by omega), if_neg (by omega), if_neg (by omega)]
  have enl : nl (sBegin p l s) = nl s := rfl
  have en7 : sg (sBegin p l s) (2 + sg s 0 5) 7 = 0 := by rw [begin_n h5]; rfl
  refine ⟨fun i i0 i1 => ?_, fun g30 i j i0 i1 j0 j1 q1 q2 q3 => ?_⟩
  · rw [begin_5] at i1
    by_cases hi : i = sg s 0 5
    · rw [hi]
      unfold WKb
      rw [en7]
      exact ⟨fun z => by omega, fun z => by omega, fun z => by omega⟩
    · have := h.1 i i0 (by omega)
      unfold WKb at this ⊢
      rw [begin_b i0 (by omega), begin_b i0 (by omega), begin_b i0 (by omega), e0 30 (by decide) (by decide), e0 12 (by decide) (by decide), enl]
      exact this
  · rw [begin_5] at i1 j1
    rw [e0 30 (by decide) (by decide)] at g30
    have hi : i ≠ sg s 0 5 := fun z => by rw [z, en7] at q1; omega
    have hj : j ≠ sg s 0 5 := fun z => by rw [z, en7] at q2; omega
    rw [begin_b i0 (by omega)] at q1
    rw [begin_b j0 (by omega)] at q2
    rw [begin_b i0 (by omega), begin_b j0 (by omega)] at q3
    exact h.2 g30 i j i0 (by omega) j0 (by omega) q1 q2 q3
theorem WK.stk (h : WK x s) : WK x (sStuck s v) := h.to rfl (fun g => absurd g u_stuck) (Int.le_refl _) (Int.le_refl _) fun k k0 k1 => Or.inr ⟨by unfold sStuck; rw [st_g, if_neg (by omega), st_g, if_neg (by omega)], by unfold sStuck; rw [st_g, if_neg (by omega), st_g, if_neg (by omega)], by unfold sStuck; rw [st_g, if_neg (by omega), st_g, if_neg (by omega)]⟩
theorem WK.sx (h : WK x s) (hh : (a = 0 ∧ j ≠ 5 ∧ j ≠ 12 ∧ j ≠ 30) ∨ a = 1 ∨ (2 ≤ a ∧ j ≠ 4 ∧ j ≠ 7 ∧ j ≠ 8)) : WK x (st s a j v) := h.same (fun a' i g => by rw [st_g, if_neg (by omega)]) rfl
theorem WK.fail (h : WK x s) (hW : SW x s B) (k0 : 0 ≤ k) (k1 : k < sg s 0 5) : WK x (sFail x k s) := by
  unfold sFail
  split
  · rename_i v t hv
    exact ((h.go k0).go k0).same (fun _ _ _ => rfl) rfl
  · have hb := (hW.br k0 k1).2.1
    have h1 : WK x (sCmd x 15 0 0 (sGo k (sg s (2 + k) 4) s)).2 := (h.go k0).cmd (hW.go k0 hb.1 hb.2)
    show WK x (if (sCmd x 15 0 0 (sGo k (sg s (2 + k) 4) s)).1 < 0 then (sCmd x 15 0 0 (sGo k (sg s (2 + k) 4) s)).2 else st (sCmd x 15 0 0 (sGo k (sg s (2 + k) 4) s)).2 0 9 15)
    split
    · exact h1
    · exact h1.sx (by omega)
theorem WK.endR (h : WK x s) (hW : SW x s B) : WK x (sEndR x k a s) := by
  have h1 : WK x (sCmd x k a 0 s).2 := h.cmd hW
  unfold sEndR
  show WK x (if (sCmd x k a 0 s).1 < 0 then (sCmd x k a 0 s).2 else st (sCmd x k a 0 s).2 0 9 k)
  split
  · exact h1
  · exact h1.sx (by omega)
theorem WK.end (h : WK x s) (hW : SW x s B) : WK x (sEnd x k s) := by
  unfold sEnd
  split
  · exact WK.endR (k := 14) (a := sg s 1 0) h hW
  · exact h.rem
theorem WK.e9 (h : WK x s) (he : E9 s s') : WK x s' := h.same (fun a i hh => he.1 a i (by omega)) (by unfold nl sn; rw [he.2])
theorem WK.drop1 (hs : x.1 3 ≤ x.1 0) : ∀ (n : Nat) (k : Int) (s : TS), WK x s → SW x s B → WK x (sDrop1 x n k s) := by
  intro n
  induction n with
  | zero => intro k s h _; exact h
  | succ n ih =>
    intro k s h hW
    rw [drop1_u]
    split
    · split
      · refine ih _ _ ?_ ?_
        · split
          · exact h.lt hW
          · exact h
        · split
          · exact w_let hs hW
          · exact hW
      · exact h
    · exact h
theorem WK.drop2 : ∀ (n : Nat) (k : Int) (s : TS), WK x s → WK x (sDrop2 n k s) := by
  intro n
  induction n with
  | zero => intro k s h; exact h
  | succ n ih =>
    intro k s h
    unfold sDrop2
    split
    · exact h
    · split
      · exact ih _ _ h
      · exact ih _ _ h.rem
theorem WK.drop (hs : x.1 3 ≤ x.1 0) (h : WK x s) (hW : SW x s B) : WK x (sDrop x s) := by
  unfold sDrop
  simp only
  exact WK.drop2 _ _ _ (WK.drop1 hs _ _ _ h hW)
theorem WK.win (hs : x.1 3 ≤ x.1 0) (h : WK x s) (hW : SW x s B) (k0 : 0 ≤ k) : WK x (sWin x k s) := by
  unfold sWin
  simp only
  split
  · exact h
  · rename_i cf
    generalize find s (sg s (2 + k) 3) = o at cf
    have o0 : 0 ≤ o := by omega
    have h2 : WK x (st (st s (2 + k) 3 (-1)) (2 + o) 3 (-1)) := (h.sx (by omega)).sx (by omega)
    have hW2 := (hW.s6 (k := k) (j := 3) (v := -1) k0 (Or.inr (Or.inr (Or.inl rfl)))).s6 (k := o) (j := 3) (v := -1) o0 (Or.inr (Or.inr (Or.inl rfl)))
    generalize st (st s (2 + k) 3 (-1)) (2 + o) 3 (-1) = s2 at h2 hW2
    have hdm : ∀ (s3 : TS) (l : Int), WK x s3 → WK x (sDoom k (sGo o l s3)) := fun s3 l g => (g.go o0).e9 (e9_doom k0)
    split
    · split
      · show WK x (if (sCmd x 11 (sg s2 (2 + o) 8) 0 s2).1 < 0 then (sCmd x 11 (sg s2 (2 + o) 8) 0 s2).2 else sDoom k (sGo o (sg (sCmd x 11 (sg s2 (2 + o) 8) 0 s2).2 (2 + k) 4) (sCmd x 11 (sg s2 (2 + o) 8) 0 s2).2))
        have h3 : WK x (sCmd x 11 (sg s2 (2 + o) 8) 0 s2).2 := h2.cmd hW2
        split
        · exact h3
        · exact hdm _ _ h3
      · exact hdm _ _ h2
    · exact h2.e9 (e9_doom o0)
end WKS
