/-! THE TELLING, plain: the order of numbers is kept by every turn, II. -/
section IVU
variable {x : CX} {s s' s2 : TS} {B : Int} {a b c e i j v k h n l w p r t o q : Int}
theorem PI.line (hs : x.1 3 ≤ x.1 0) (hl2 : x.1 5 ≤ 24) (hP : PI s) (hW : SW x s B) (k0 : 0 ≤ k) (k1 : k < sg s 0 5) (hl : sg s (2 + k) 4 < x.1 5) (c0 : 0 ≤ c) (c1 : c ≤ 23) : PI (sLine x k c a b s) := by
  have h6 := hW.2.2.2.2.2.1.1
  have hb4 := (hW.br k0 k1).2.1
  have g1 : PI (sGo k (sg s (2 + k) 4 + 1) s) := hP.go k0 h6
  have w1 : SW x (sGo k (sg s (2 + k) 4 + 1) s) B := hW.go k0 (by omega) (by omega)
  have t5 : sg (sGo k (sg s (2 + k) 4 + 1) s) 0 5 = sg s 0 5 := by rw [go_g, if_neg (by omega), if_neg (by omega)]
  have t6 : sg (sGo k (sg s (2 + k) 4 + 1) s) 0 6 = sg s 0 6 := by rw [go_g, if_neg (by omega), if_neg (by omega)]
  have var : ∀ v w, PI (sGo k w (st s 1 a v)) := fun v w => (hP.sx h6 (Or.inr (Or.inl rfl))).go k0 (by rw [st_g, if_neg (by omega)]; exact h6)
  have hc : c = 0 ∨ c = 1 ∨ c = 2 ∨ c = 3 ∨ c = 4 ∨ c = 5 ∨ c = 6 ∨ c = 7 ∨ c = 8 ∨ c = 9 ∨ c = 10 ∨ c = 11 ∨ c = 12 ∨ c = 13 ∨ c = 14 ∨ c = 15 ∨ c = 16 ∨ c = 17 ∨ c = 18 ∨ c = 19 ∨ c = 20 ∨ c = 21 ∨ c = 22 ∨ c = 23 := by omega
  rcases hc with rfl | rfl | rfl | rfl | rfl | rfl | rfl | rfl | rfl | rfl | rfl | rfl | rfl | rfl | rfl | rfl | rfl | rfl | rfl | rfl | rfl | rfl | rfl | rfl
  · rw [sl0]; exact var _ _
  · rw [sl1]; exact var _ _
  · rw [sl2]; exact hP.cw k0 h6
  · rw [sl3]; exact hP.cw k0 h6
  · rw [sl4]; exact hP.wait k0 h6
  · rw [sl5]; exact hP.cw k0 h6
  · rw [sl6]
    split <;> exact hP.go k0 h6
  · rw [sl7]; exact hP.go k0 h6
  · rw [sl8]; exact g1.below w1 k0 (by rw [t5]; exact k1)
  · rw [sl9]; exact hP.wait k0 h6
  · rw [sl10]; exact g1.race w1 k0 (by rw [t5]; exact k1)
  · rw [sl11]
    exact drop_pi hs (win_iv g1.1 (by rw [t6]; exact h6) k0) (w_win hs k0 (by rw [t5]; exact k1) w1)
  · rw [sl12]; exact g1.of (by rw [t6]; exact h6) fun _ _ _ => rfl
  · rw [sl13]; exact g1.of (by rw [t6]; exact h6) fun _ _ _ => rfl
  · rw [sl14]; exact (hP.of (s' := stu s ((1000 * a + sg s 1 b) :: su s)) h6 fun _ _ _ => rfl).go k0 h6
  · rw [sl15]
    unfold sUndo
    split
    · exact g1
    · rename_i v t hu
      exact (hP.of (s' := stu s t) h6 fun _ _ _ => rfl).cw k0 h6
  · rw [sl16]; exact hP.end hW k0 k1
  · rw [sl17]; exact hP.fail k0 h6
  · rw [sl18]; exact PI.endR (x := x) (k := 16) (a := sg s 1 a) h6 hP
  · rw [sl19]
    have hp : PI (sPatch x a s).2 ∧ 0 ≤ sg (sPatch x a s).2 0 6 := by
      unfold sPatch
      split
      · split
        · have z := hP.sx (a := 0) (j := 7) (v := iOr (sg s 0 7) (iShl 1 a)) h6 (by omega)
          have z6 : 0 ≤ sg (st s 0 7 (iOr (sg s 0 7) (iShl 1 a))) 0 6 := by rw [st_g, if_neg (by omega)]; exact h6
          exact ⟨z.cmd z6, by show 0 ≤ sg (sCmd x 12 a 0 (st s 0 7 (iOr (sg s 0 7) (iShl 1 a)))).2 0 6; rw [cmd_g (by omega)]; exact z6⟩
        · exact ⟨hP, h6⟩
      · exact ⟨hP, h6⟩
    generalize hr : sPatch x a s = r at hp
    obtain ⟨r, s1⟩ := r
    exact hp.1.go k0 hp.2
  · rw [sl20]; exact var _ _
  · rw [sl21]; exact (hP.sx h6 (Or.inr (Or.inr ⟨by omega, by decide, by decide⟩))).go k0 (by rw [st_g, if_neg (by omega)]; exact h6)
  · rw [sl22]
    have hb : PI (sBare k s).2 ∧ 0 ≤ sg (sBare k s).2 0 6 := by
      unfold sBare
      simp only
      generalize (if 0 < sg s (2 + k) 5 then sg s (2 + k) 5 - 1 else 0) = y
      have z := hP.sx (a := 2 + k) (j := 5) (v := y) h6 (by omega)
      have z6 : 0 ≤ sg (st s (2 + k) 5 y) 0 6 := by rw [st_g, if_neg (by omega)]; exact h6
      split
      · exact ⟨z.sx z6 (by omega), by show 0 ≤ sg (st (st s (2 + k) 5 y) (2 + k) 6 0) 0 6; rw [st_g, if_neg (by omega)]; exact z6⟩
      · refine ⟨z.sx z6 (by omega), ?_⟩
        show 0 ≤ sg (st (st s (2 + k) 5 y) (2 + k) 6 _) 0 6
        rw [st_g, if_neg (by omega)]; exact z6
    generalize hr : sBare k s = r at hb
    obtain ⟨r, s1⟩ := r
    simp only at hb ⊢
    have z := hb.1.go (l := sg s (2 + k) 4 + 1) k0 hb.2
    cases r with
    | false => exact z
    | true => exact z.fail k0 (by rw [go_g, if_neg (by omega), if_neg (by omega)]; exact hb.2)
  · rw [sl23]; exact (hP.cmd h6).go k0 (by rw [cmd_g (by omega)]; exact h6)
theorem PI.awake (hP : PI s) (k0 : 0 ≤ k) (h6 : 0 ≤ sg s 0 6) : PI (sAwake x k s) := by
  unfold sAwake
  split
  · refine hP.of h6 fun a i hh => ?_
    rw [go_g, if_neg (by omega), if_neg (by omega)]
    show sg (st s 1 _ _) a i = _
    rw [st_g, if_neg (by omega)]
  · exact hP.go k0 h6
theorem PI.turn (hx : CodeW x) (hs : x.1 3 ≤ x.1 0) (hl2 : x.1 5 ≤ 24) (hP : PI s) (hW : SW x s B) (k0 : 0 ≤ k) (k1 : k < sg s 0 5) : PI (sTurn x k s) := by
  have h6 := hW.2.2.2.2.2.1.1
  have hb4 := (hW.br k0 k1).2.1
  unfold sTurn
  split
  · exact hP.awake k0 h6
  · split
    · exact hP.end hW k0 k1
    · split
      · exact hP.stk h6
      · rename_i g1 g2 g3
        have h29 := hW.2.2.2.2.2.2.1
        have v1 := (hW.s29 (v := sg s 0 29 + 1) (by omega) (by omega)).s0 (j := 40) (v := sg s 0 40 + 1) (by decide) (by decide) (by decide) (by decide) (by decide) (Or.inl (by decide))
        have p1 : PI (st (st s 0 29 (sg s 0 29 + 1)) 0 40 (sg s 0 40 + 1)) := hP.of h6 fun a i hh => by rw [st_g, if_neg (by omega), st_g, if_neg (by omega)]
        have hL := hx (sg s (2 + k) 4) hb4.1 (by omega)
        exact p1.line hs hl2 v1 k0 (by rw [st_g, if_neg (by omega), st_g, if_neg (by omega)]; exact k1) (by rw [st_g, if_neg (by omega), st_g, if_neg (by omega)]; omega) hL.1 hL.2.1
end IVU
