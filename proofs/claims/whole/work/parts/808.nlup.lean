/-! THE TELLING, plain: how many commands a turn brings at most, stuck or not. -/
section NLU
variable {x : CX} {s s' s1 s2 : TS} {B : Int} {a b c d e i j v k h l w p r t o q u kd : Int}
theorem nu_cmd : nl (sCmd x kd a b s).2 ≤ nl s + 1 := by
  unfold nl
  rcases sn_cmd (x := x) (kd := kd) (a := a) (b := b) (s := s) with e | e
  · rw [e]; omega
  · rw [e, List.length_append]
    simp only [List.length_cons, List.length_nil]
    omega
theorem nu_endR : nl (sEndR x k a s) ≤ nl s + 1 := by
  have h := nu_cmd (x := x) (kd := k) (a := a) (b := 0) (s := s)
  unfold sEndR
  show nl (if (sCmd x k a 0 s).1 < 0 then (sCmd x k a 0 s).2 else st (sCmd x k a 0 s).2 0 9 k) ≤ _
  split
  · exact h
  · exact h
theorem nu_fail : nl (sFail x k s) ≤ nl s + 1 := by
  unfold sFail
  split
  · rename_i v t hv
    show nl s ≤ _
    omega
  · exact nu_endR (x := x) (k := 15) (a := 0) (s := sGo k (sg s (2 + k) 4) s)
theorem nu_end : nl (sEnd x k s) ≤ nl s + 1 := by
  unfold sEnd
  split
  · exact nu_endR (x := x) (k := 14) (a := sg s 1 0) (s := s)
  · show nl s ≤ _
    omega
theorem nu_let : nl (sLet x k s) ≤ nl s + 1 := by
  unfold sLet
  split
  · exact nu_cmd
  · omega
theorem nu_can : nl (sCan x k s) ≤ nl s + 2 := by
  have h := nu_cmd (x := x) (kd := 11) (a := sg s (2 + k) 8) (b := 0) (s := s)
  unfold sCan
  split
  · split
    · omega
    · have := nu_fail (x := x) (k := k) (s := (sCmd x 11 (sg s (2 + k) 8) 0 s).2)
      omega
  · have := nu_fail (x := x) (k := k) (s := s)
    omega
theorem nu_tell : ∀ (n : Nat) (k : Int) (s : TS), nl (sTell x n k s) ≤ nl s + 2 * n := by
  intro n
  induction n with
  | zero => intro k s; show nl s ≤ _; omega
  | succ n ih =>
    intro k s
    rw [tell_u]
    split
    · split
      · split
        · have := ih (k + 1) (st s (2 + k) 6 1)
          have e : nl (st s (2 + k) 6 1) = nl s := rfl
          omega
        · have := ih (k + 1) (sCan x k s)
          have := nu_can (x := x) (k := k) (s := s)
          omega
      · omega
    · omega
theorem nu_e9 (h : E9 s s') : nl s' = nl s := by unfold nl sn; rw [h.2]
theorem nu_drop1 : ∀ (n : Nat) (k : Int) (s : TS), nl (sDrop1 x n k s) ≤ nl s + n := by
  intro n
  induction n with
  | zero => intro k s; show nl s ≤ _; omega
  | succ n ih =>
    intro k s
    rw [drop1_u]
    split
    · split
      · have h1 := ih (k + 1) (if sg s (2 + k) 9 ≠ 0 then sLet x k s else s)
        have h2 : nl (if sg s (2 + k) 9 ≠ 0 then sLet x k s else s) ≤ nl s + 1 := by
          split
          · exact nu_let
          · omega
        omega
      · omega
    · omega
theorem nu_drop : nl (sDrop x s) ≤ nl s + 13 := by
  have e : sn (sDrop x s) = sn (sDrop1 x 13 0 s) := by
    unfold sDrop
    simp only
    exact sn_drop2 _ _ _
  have := nu_drop1 (x := x) 13 0 s
  unfold nl at this ⊢
  rw [e]
  exact this
theorem nu_win (k0 : 0 ≤ k) : nl (sWin x k s) ≤ nl s + 1 := by
  unfold sWin
  simp only
  split
  · omega
  · rename_i cf
    generalize find s (sg s (2 + k) 3) = o at cf
    have o0 : 0 ≤ o := by omega
    have e2 : nl (st (st s (2 + k) 3 (-1)) (2 + o) 3 (-1)) = nl s := rfl
    generalize st (st s (2 + k) 3 (-1)) (2 + o) 3 (-1) = s2 at e2
    split
    · split
      · show nl (if (sCmd x 11 (sg s2 (2 + o) 8) 0 s2).1 < 0 then (sCmd x 11 (sg s2 (2 + o) 8) 0 s2).2 else sDoom k (sGo o (sg (sCmd x 11 (sg s2 (2 + o) 8) 0 s2).2 (2 + k) 4) (sCmd x 11 (sg s2 (2 + o) 8) 0 s2).2)) ≤ _
        have h3 := nu_cmd (x := x) (kd := 11) (a := sg s2 (2 + o) 8) (b := 0) (s := s2)
        split
        · omega
        · rw [nu_e9 (e9_doom k0)]
          show nl (sCmd x 11 (sg s2 (2 + o) 8) 0 s2).2 ≤ _
          omega
      · rw [nu_e9 (e9_doom k0)]
        show nl s2 ≤ _
        omega
    · rw [nu_e9 (e9_doom o0)]
      omega
theorem nu_cw : nl (match sCmd x kd a b s with | (r, s1) => sWait k w r s1) ≤ nl s + 1 := by
  show nl (sWait k w (sCmd x kd a b s).1 (sCmd x kd a b s).2) ≤ _
  exact nu_cmd
theorem nu_line (k0 : 0 ≤ k) (c0 : 0 ≤ c) (c1 : c ≤ 23) : nl (sLine x k c a b s) ≤ nl s + 14 ∧ ((c = 2 ∨ c = 3 ∨ c = 5 ∨ c = 15) → nl (sLine x k c a b s) ≤ nl s + 1) := by
  have e1 : nl (sGo k (sg s (2 + k) 4 + 1) s) = nl s := rfl
  have one : ∀ (z : Int) (P : Prop), z ≤ nl s + 1 → z ≤ nl s + 14 ∧ (P → z ≤ nl s + 1) := fun z P h => ⟨by omega, fun _ => h⟩
  have zero : ∀ (z : Int) (P : Prop), z = nl s → z ≤ nl s + 14 ∧ (P → z ≤ nl s + 1) := fun z P h => ⟨by omega, fun _ => by omega⟩
  have hcc : c = 0 ∨ c = 1 ∨ c = 2 ∨ c = 3 ∨ c = 4 ∨ c = 5 ∨ c = 6 ∨ c = 7 ∨ c = 8 ∨ c = 9 ∨ c = 10 ∨ c = 11 ∨ c = 12 ∨ c = 13 ∨ c = 14 ∨ c = 15 ∨ c = 16 ∨ c = 17 ∨ c = 18 ∨ c = 19 ∨ c = 20 ∨ c = 21 ∨ c = 22 ∨ c = 23 := by omega
  rcases hcc with rfl | rfl | rfl | rfl | rfl | rfl | rfl | rfl | rfl | rfl | rfl | rfl | rfl | rfl | rfl | rfl | rfl | rfl | rfl | rfl | rfl | rfl | rfl | rfl
  · rw [sl0]; exact zero _ _ rfl
  · rw [sl1]; exact zero _ _ rfl
  · rw [sl2]; exact one _ _ nu_cw
  · rw [sl3]; exact one _ _ nu_cw
  · rw [sl4]; exact zero _ _ rfl
  · rw [sl5]; exact one _ _ nu_cw
  · rw [sl6]
    split <;> exact zero _ _ rfl
  · rw [sl7]; exact zero _ _ rfl
  · rw [sl8]
    unfold sBelow
    split <;> exact zero _ _ rfl
  · rw [sl9]; exact zero _ _ rfl
  · rw [sl10]
    unfold sRace
    split
    · simp only
      split <;> exact zero _ _ rfl
    · exact zero _ _ rfl
  · rw [sl11]
    have h1 := nu_drop (x := x) (s := sWin x k (sGo k (sg s (2 + k) 4 + 1) s))
    have h2 := nu_win (x := x) (s := sGo k (sg s (2 + k) 4 + 1) s) k0
    exact ⟨by omega, fun h => by omega⟩
  · rw [sl12]; exact zero _ _ rfl
  · rw [sl13]; exact zero _ _ rfl
  · rw [sl14]; exact zero _ _ rfl
  · rw [sl15]
    unfold sUndo
    split
    · exact zero _ _ rfl
    · rename_i v t hu
      exact one _ _ (nu_cw (s := stu s t))
  · rw [sl16]; exact one _ _ nu_end
  · rw [sl17]; exact one _ _ nu_fail
  · rw [sl18]; exact one _ _ (nu_endR (x := x) (k := 16) (a := sg s 1 a) (s := s))
  · rw [sl19]
    have hp : nl (sPatch x a s).2 ≤ nl s + 1 := by
      unfold sPatch
      split
      · split
        · exact nu_cmd (x := x) (kd := 12) (a := a) (b := 0) (s := st s 0 7 (iOr (sg s 0 7) (iShl 1 a)))
        · show nl s ≤ _
          omega
      · show nl s ≤ _
        omega
    generalize hr : sPatch x a s = r at hp
    obtain ⟨r, s1⟩ := r
    exact one _ _ hp
  · rw [sl20]; exact zero _ _ rfl
  · rw [sl21]; exact zero _ _ rfl
  · rw [sl22]
    have hb : nl (sBare k s).2 = nl s := by
      unfold sBare
      simp only
      generalize (if 0 < sg s (2 + k) 5 then sg s (2 + k) 5 - 1 else 0) = y
      split <;> rfl
    generalize hr : sBare k s = r at hb
    obtain ⟨r, s1⟩ := r
    simp only at hb ⊢
    cases r with
    | false => exact zero _ _ hb
    | true =>
      have := nu_fail (x := x) (k := k) (s := sGo k (sg s (2 + k) 4 + 1) s1)
      have e : nl (sGo k (sg s (2 + k) 4 + 1) s1) = nl s1 := rfl
      exact one _ _ (by
        show nl (sFail x k (sGo k (sg s (2 + k) 4 + 1) s1)) ≤ _
        omega)
  · rw [sl23]; exact one _ _ (nu_cmd (x := x) (kd := 13) (a := sg s 1 a) (b := 0) (s := s))
theorem nu_turn (hx : CodeW x) (k0 : 0 ≤ k) (hl0 : 0 ≤ sg s (2 + k) 4) : nl (sTurn x k s) ≤ nl s + 14 ∧ (sg s (2 + k) 7 = 0 → sg s (2 + k) 4 < x.1 5 → ((x.2.2 (sg s (2 + k) 4)).1 = 2 ∨ (x.2.2 (sg s (2 + k) 4)).1 = 3 ∨ (x.2.2 (sg s (2 + k) 4)).1 = 5 ∨ (x.2.2 (sg s (2 + k) 4)).1 = 15) → nl (sTurn x k s) ≤ nl s + 1) := by
  unfold sTurn
  split
  · rename_i c7
    refine ⟨?_, fun h => absurd h c7⟩
    unfold sAwake
    split
    · show nl s ≤ _
      omega
    · show nl s ≤ _
      omega
  · split
    · rename_i c7 cl
      have := nu_end (x := x) (k := k) (s := s)
      exact ⟨by omega, fun _ h => by omega⟩
    · split
      · exact ⟨by show nl s ≤ _; omega, fun _ _ _ => by show nl s ≤ _; omega⟩
      · rename_i g1 g2 g3
        have hL := hx (sg s (2 + k) 4) hl0 (by omega)
        have := nu_line (x := x) (a := (x.2.2 (sg s (2 + k) 4)).2.1) (b := (x.2.2 (sg s (2 + k) 4)).2.2) (s := st (st s 0 29 (sg s 0 29 + 1)) 0 40 (sg s 0 40 + 1)) k0 hL.1 hL.2.1
        have e : nl (st (st s 0 29 (sg s 0 29 + 1)) 0 40 (sg s 0 40 + 1)) = nl s := rfl
        exact ⟨by omega, fun _ _ h => by have := this.2 h; omega⟩
theorem nu_note : nl (sNote x kd a b s) ≤ nl s + 26 := by
  have fl : nl (sFailed x (wtr s a) s) ≤ nl s + 26 := by
    unfold sFailed
    split
    · omega
    · split
      · show nl s ≤ _
        omega
      · have := nu_fail (x := x) (k := wtr s a) (s := s)
        omega
  unfold sNote
  split
  · show nl s ≤ _
    omega
  · split
    · exact fl
    · split
      · exact fl
      · split
        · show nl s ≤ _
          omega
        · split
          · exact nu_tell (x := x) 13 0 (st s 0 8 1)
          · unfold sEnded
            split
            · omega
            · split
              · show nl s ≤ _
                omega
              · split
                · show nl s ≤ _
                  omega
                · show nl s ≤ _
                  omega
theorem nu_on (hcw : CodeW x) (hs : x.1 3 ≤ x.1 0) (hN : 0 ≤ x.1 0) (hl2 : x.1 5 ≤ 24) : ∀ (n : Nat) (s : TS) (B : Int), SW x s B → TkW x s → nl (sOn x n s) ≤ nl s + 14 * n := by
  intro n
  induction n with
  | zero => intro s B _ _; show nl s ≤ _; omega
  | succ n ih =>
    intro s B hW hT
    unfold sOn
    rcases first_b (s := s) with g | ⟨g1, g2, g3⟩
    · rw [if_pos (by omega)]; omega
    · rw [if_neg (by omega)]
      split
      · have hb := hW.br g1 g2
        have hW1 := w_turn hcw hs hN hl2 g1 g2 hT g3 hW
        have hT1 : TkW x (sTurn x (first s) s) := by
          unfold TkW at hT ⊢
          rw [kp_turn hW.2.2.2.2.2.2.2.1.1 g1 (Or.inr (Or.inr (Or.inr rfl)))]
          exact hT
        have h1 := ih _ _ hW1 hT1
        have h2 := (nu_turn (x := x) (s := s) hcw g1 hb.2.1.1).1
        omega
      · omega
theorem nu_take (hC : CXX x) (hP : BP x s B) (i0 : sg s 0 11 ≤ i) (i1 : i < x.1 0) (hi7 : ek (x.2.1 i) ≤ 7) : nl (sTake x i s) ≤ nl s + 14026 := by
  obtain ⟨n1, n2, n3, n4, n5, n6, n7, n8⟩ := noted_all hC hP i0 i1 hi7
  have h1 := nu_on (x := x) hC.1.1 hC.1.2.2 hC.2.2.2.2.1 hC.2.1 1000 _ _ n1 n3
  have h2 : nl (sNoted x i s) ≤ nl s + 26 := nu_note
  have h3 : nl (sTake x i s) = nl (sTaken x i s) := by
    unfold nl
    rw [take_d, (pass_n _ _ _).1]
    rfl
  have h4 : nl (sTaken x i s) = nl (sOn x 1000 (sNoted x i s)) := rfl
  omega
end NLU
