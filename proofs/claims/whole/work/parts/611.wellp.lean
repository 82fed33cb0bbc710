/-! THE TELLING, plain: what holds all the time is kept by every step. -/
section WPU
variable {x : CX} {s s' : TS} {B : Int} {a b c e i j v k h n l w p t kd : Int}
theorem w_tell (hs : x.1 3 ≤ x.1 0) : ∀ (n : Nat) (k : Int) (s : TS), 0 ≤ k → SW x s B → SW x (sTell x n k s) B ∧ sg (sTell x n k s) 0 5 = sg s 0 5 := by
  intro n
  induction n with
  | zero => intro k s h0 hW; exact ⟨hW, rfl⟩
  | succ n ih =>
    intro k s h0 hW
    unfold sTell
    by_cases c1 : k < sg s 0 5
    · rw [if_pos c1]
      split
      · split
        · obtain ⟨g1, g2⟩ := ih (k + 1) (st s (2 + k) 6 1) (by omega) (hW.s6 h0 (Or.inl rfl))
          exact ⟨g1, g2.trans (by rw [st_g, if_neg (by omega)])⟩
        · split
          · have hc := hW.cmd (c := 11) (a := sg s (2 + k) 8) (b := 0) hs
            have h5 : sg (sCmd x 11 (sg s (2 + k) 8) 0 s).2 0 5 = sg s 0 5 := cmd_g (Or.inr ⟨by decide, by decide, by decide⟩)
            generalize hr : sCmd x 11 (sg s (2 + k) 8) 0 s = r at hc h5
            obtain ⟨r, s1⟩ := r
            simp only at hc h5 ⊢
            split
            · obtain ⟨g1, g2⟩ := ih (k + 1) s1 (by omega) hc
              exact ⟨g1, g2.trans h5⟩
            · obtain ⟨g1, g2⟩ := ih (k + 1) (sFail x k s1) (by omega) (hc.fail hs h0 (by omega))
              exact ⟨g1, g2.trans ((fail_g (by omega) (Or.inr ⟨by decide, by decide, by decide, by decide⟩)).trans h5)⟩
          · obtain ⟨g1, g2⟩ := ih (k + 1) (sFail x k s) (by omega) (hW.fail hs h0 c1)
            exact ⟨g1, g2.trans (fail_g (by omega) (Or.inr ⟨by decide, by decide, by decide, by decide⟩))⟩
      · exact ⟨hW, rfl⟩
    · rw [if_neg c1]
      exact ⟨hW, rfl⟩
theorem w_end (hs : x.1 3 ≤ x.1 0) (hk : 0 ≤ k) (hk2 : k < sg s 0 5) (hW : SW x s B) : SW x (sEnd x k s) B := by
  unfold sEnd
  split
  · have hc := hW.cmd (c := 14) (a := sg s 1 0) (b := 0) hs
    generalize hr : sCmd x 14 (sg s 1 0) 0 s = r at hc
    obtain ⟨r, s1⟩ := r
    simp only at hc ⊢
    split
    · exact hc
    · exact hc.s0 (by decide) (by decide) (by decide) (by decide) (by decide) (Or.inl (by decide))
  · exact hW.rem hk hk2
theorem w_doomL : ∀ (n : Nat) (k : Int) (s : TS), 0 ≤ k → SW x s B → SW x (sDoomL n k s) B := by
  intro n
  induction n with
  | zero => intro k s h0 hW; exact hW
  | succ n ih =>
    intro k s h0 hW
    unfold sDoomL
    split
    · split
      · exact ih _ _ (by omega) hW
      · split
        · exact ih _ _ (by omega) hW
        · exact ih _ _ (by omega) (hW.s6 h0 (Or.inr (Or.inl rfl)))
    · exact hW
theorem w_doom (hk : 0 ≤ k) (hW : SW x s B) : SW x (sDoom k s) B := w_doomL _ _ _ (by decide) (hW.s6 hk (Or.inr (Or.inl rfl)))
theorem w_win (hs : x.1 3 ≤ x.1 0) (hk : 0 ≤ k) (hk2 : k < sg s 0 5) (hW : SW x s B) : SW x (sWin x k s) B := by
  have hfb := find_b (s := s) (v := sg s (2 + k) 3)
  unfold sWin
  simp only
  by_cases cf : find s (sg s (2 + k) 3) < 0
  · rw [if_pos cf]
    exact hW
  · obtain ⟨c1, c2, c3⟩ := hfb.resolve_left (by omega)
    rw [if_neg cf]
    generalize find s (sg s (2 + k) 3) = o at c1 c2
    have v2 := (hW.s6 (v := -1) hk (Or.inr (Or.inr (Or.inl rfl)))).s6 (j := 3) (v := -1) c1 (Or.inr (Or.inr (Or.inl rfl)))
    have e5 : sg (st (st s (2 + k) 3 (-1)) (2 + o) 3 (-1)) 0 5 = sg s 0 5 := by rw [st_g, if_neg (by omega), st_g, if_neg (by omega)]
    generalize st (st s (2 + k) 3 (-1)) (2 + o) 3 (-1) = s1 at v2 e5
    split
    · split
      · have hc := v2.cmd (c := 11) (a := sg s1 (2 + o) 8) (b := 0) hs
        have g5 : sg (sCmd x 11 (sg s1 (2 + o) 8) 0 s1).2 0 5 = sg s 0 5 := (cmd_g (Or.inr ⟨by decide, by decide, by decide⟩)).trans e5
        generalize hr : sCmd x 11 (sg s1 (2 + o) 8) 0 s1 = r at hc g5
        obtain ⟨r, s2⟩ := r
        simp only at hc g5 ⊢
        split
        · exact hc
        · have := (hc.br hk (by omega)).2.1
          exact w_doom hk (hc.go c1 this.1 this.2)
      · have := (v2.br hk (by omega)).2.1
        exact w_doom hk (v2.go c1 this.1 this.2)
    · exact w_doom c1 v2
theorem w_drop1 (hs : x.1 3 ≤ x.1 0) : ∀ (n : Nat) (k : Int) (s : TS), SW x s B → SW x (sDrop1 x n k s) B := by
  intro n
  induction n with
  | zero => intro k s hW; exact hW
  | succ n ih =>
    intro k s hW
    unfold sDrop1
    split
    · split
      · split
        · exact ih _ _ (hW.cmd hs)
        · exact ih _ _ hW
      · exact hW
    · exact hW
theorem w_drop2 : ∀ (n : Nat) (k : Int) (s : TS), k < sg s 0 5 → SW x s B → SW x (sDrop2 n k s) B := by
  intro n
  induction n with
  | zero => intro k s _ hW; exact hW
  | succ n ih =>
    intro k s hk hW
    unfold sDrop2
    by_cases c : k < 0
    · rw [if_pos c]; exact hW
    · rw [if_neg c]
      split
      · exact ih _ _ (by omega) hW
      · exact ih _ _ (by rw [rem_5]; omega) (hW.rem (by omega) hk)
theorem w_drop (hs : x.1 3 ≤ x.1 0) (hW : SW x s B) : SW x (sDrop x s) B := by
  unfold sDrop
  simp only
  exact w_drop2 _ _ _ (by omega) (w_drop1 hs _ _ _ hW)
theorem w_cw (hs : x.1 3 ≤ x.1 0) (hN : 0 ≤ x.1 0) (hk : 0 ≤ k) (hl : sg s (2 + k) 4 < x.1 5) (hw : w = 1 ∨ w = 2) (hW : SW x s B) : SW x (match sCmd x kd a b s with
    | (r, s1) => sWait k w r s1) B := by
  have hc := hW.cmd (c := kd) (a := a) (b := b) hs
  have hcr := cmd_r (c := kd) (a := a) (b := b) hW hs hN
  have e4 : sg (sCmd x kd a b s).2 (2 + k) 4 = sg s (2 + k) 4 := cmd_g (Or.inl (by omega))
  generalize hr : sCmd x kd a b s = r at hc hcr e4
  obtain ⟨r, s1⟩ := r
  simp only at hc hcr e4 ⊢
  refine hc.wait hk (fun _ => by rw [e4]; exact hl) (fun h => by omega) (fun _ h30 => ?_)
  rcases hcr with ⟨z1, z2, z3⟩ | ⟨z1, z2, z3, z4⟩
  · omega
  · exact ⟨z1, z2⟩
theorem w_undo (hs : x.1 3 ≤ x.1 0) (hN : 0 ≤ x.1 0) (hk : 0 ≤ k) (hk2 : k < sg s 0 5) (hl : sg s (2 + k) 4 < x.1 5) (hl2 : x.1 5 ≤ 24) (hW : SW x s B) : SW x (sUndo x k s) B := by
  unfold sUndo
  split
  · have := (hW.br hk hk2).2.1
    exact hW.go hk (by omega) (by omega)
  · rename_i v t hu
    refine w_cw (s := stu s t) hs hN hk hl (Or.inr rfl) ?_
    refine hW.to rfl rfl (Or.inl rfl) (Or.inl rfl) (Nat.le_refl _) (Or.inl rfl) (Or.inl rfl) (fun _ _ _ => Or.inl rfl) (fun v hv => ?_) hW.2.2.2.2.1 fun k _ _ => Or.inl ⟨fun _ => rfl, rfl⟩
    exact hW.2.2.2.1 v (by rw [hu]; exact List.mem_cons_of_mem _ hv)
theorem w_race (hk : 0 ≤ k) (l0 : 0 ≤ l) (l1 : l ≤ 24) (hW : SW x s B) : SW x (sRace k l s) (B + 1) := by
  have h5 := hW.2.2.2.2.2.2.2.1
  unfold sRace
  by_cases c : sg s 0 5 < 12
  · rw [if_pos c]
    simp only
    have hb := hW.begin (p := sg s (2 + k) 0) (l := l) c l0 l1
    generalize sBegin (sg s (2 + k) 0) l s = s1 at hb
    have hfb := find_b (s := s1) (v := sg s1 (2 + k) 3)
    by_cases cf : find s1 (sg s1 (2 + k) 3) < 0
    · rw [if_pos cf]
      exact (hb.s6 hk (Or.inr (Or.inr (Or.inl rfl)))).s6 h5.1 (Or.inr (Or.inr (Or.inl rfl)))
    · rw [if_neg cf]
      exact ((hb.s6 (by omega) (Or.inr (Or.inr (Or.inl rfl)))).s6 hk (Or.inr (Or.inr (Or.inl rfl)))).s6 h5.1 (Or.inr (Or.inr (Or.inl rfl)))
  · rw [if_neg c]
    exact hW.stk.mono (by omega)
theorem w_patch (hs : x.1 3 ≤ x.1 0) (hW : SW x s B) : SW x (sPatch x p s).2 B := by
  unfold sPatch
  split
  · split
    · exact (hW.s0 (by decide) (by decide) (by decide) (by decide) (by decide) (Or.inl (by decide))).cmd hs
    · exact hW
  · exact hW
theorem w_bare (hk : 0 ≤ k) (hk2 : k < sg s 0 5) (hW : SW x s B) : SW x (sBare k s).2 B ∧ sg (sBare k s).2 0 5 = sg s 0 5 := by
  have k6 := (hW.br hk hk2).2.2.2.2.2.1
  unfold sBare
  simp only
  have hy : 0 ≤ (if 0 < sg s (2 + k) 5 then sg s (2 + k) 5 - 1 else 0) ∧ (if 0 < sg s (2 + k) 5 then sg s (2 + k) 5 - 1 else 0) ≤ B := by split <;> omega
  generalize (if 0 < sg s (2 + k) 5 then sg s (2 + k) 5 - 1 else 0) = y at hy
  have v1 := hW.s5 (v := y) hk hy.1 hy.2
  split
  · exact ⟨v1.s6 hk (Or.inl rfl), by show sg (st (st s (2 + k) 5 y) (2 + k) 6 0) 0 5 = _; rw [st_g, if_neg (by omega), st_g, if_neg (by omega)]⟩
  · exact ⟨v1.s6 hk (Or.inl rfl), by show sg (st (st s (2 + k) 5 y) (2 + k) 6 _) 0 5 = _; rw [st_g, if_neg (by omega), st_g, if_neg (by omega)]⟩
theorem w_line (hs : x.1 3 ≤ x.1 0) (hN : 0 ≤ x.1 0) (hk : 0 ≤ k) (hk2 : k < sg s 0 5) (hl : sg s (2 + k) 4 < x.1 5) (hl2 : x.1 5 ≤ 24) (hT : TkW x s) (hL : LineOk c a b) (hW : SW x s B) : SW x (sLine x k c a b s) (B + 1) := by
  obtain ⟨k1, k2, k3, k4, k5, k6, k7⟩ := hW.br hk hk2
  obtain ⟨z1, z2, z3, z4, z5, z6, z7, z8, z9, z10, z11, z12, z13⟩ := hL
  have v1 := hW.go (l := sg s (2 + k) 4 + 1) hk (by omega) (by omega)
  have t1 : sg (sGo k (sg s (2 + k) 4 + 1) s) 0 5 = sg s 0 5 := by rw [go_g, if_neg (by omega), if_neg (by omega)]
  have up : ∀ {s'}, SW x s' B → SW x s' (B + 1) := fun h => h.mono (by omega)
  have hc : c = 0 ∨ c = 1 ∨ c = 2 ∨ c = 3 ∨ c = 4 ∨ c = 5 ∨ c = 6 ∨ c = 7 ∨ c = 8 ∨ c = 9 ∨ c = 10 ∨ c = 11 ∨ c = 12 ∨ c = 13 ∨ c = 14 ∨ c = 15 ∨ c = 16 ∨ c = 17 ∨ c = 18 ∨ c = 19 ∨ c = 20 ∨ c = 21 ∨ c = 22 ∨ c = 23 := by omega
  rcases hc with rfl | rfl | rfl | rfl | rfl | rfl | rfl | rfl | rfl | rfl | rfl | rfl | rfl | rfl | rfl | rfl | rfl | rfl | rfl | rfl | rfl | rfl | rfl | rfl
  · rw [sl0]; exact up ((hW.var z5 z6).go hk (by omega) (by omega))
  · have ha := hW.2.1 a z3 (by omega)
    have hb := hW.2.1 b z5 (by omega)
    rw [sl1]; exact up ((hW.var (by omega) (by omega)).go hk (by omega) (by omega))
  · rw [sl2]; exact up (w_cw hs hN hk hl (Or.inl rfl) hW)
  · rw [sl3]; exact up (w_cw hs hN hk hl (Or.inl rfl) hW)
  · rw [sl4]; exact up (hW.wait hk (fun _ => hl) (fun _ => ⟨z3, by omega⟩) (fun hh => by omega))
  · rw [sl5]; exact up (w_cw hs hN hk hl (Or.inl rfl) hW)
  · rw [sl6]
    split
    · exact up (hW.go hk z5 (by omega))
    · exact up v1
  · rw [sl7]; exact up (hW.go hk z3 (by omega))
  · rw [sl8]
    unfold sBelow
    split
    · exact v1.begin (by assumption) z3 (by omega)
    · exact up v1.stk
  · rw [sl9]; exact up (hW.wait hk (fun _ => hl) (fun hh => by omega) (fun hh => by omega))
  · rw [sl10]; exact w_race hk z3 (by omega) v1
  · rw [sl11]; exact up (w_drop hs (w_win hs hk (by rw [t1]; exact hk2) v1))
  · rw [sl12]
    refine up (v1.hd hk fun w hw => ?_)
    rcases List.mem_cons.mp hw with hh | hh
    · rw [hh]; exact ⟨z3, by omega⟩
    · exact k7 w hh
  · rw [sl13]; exact up (v1.hd hk fun w hw => k7 w (List.mem_of_mem_tail hw))
  · have hb := hW.2.1 b z5 (by omega)
    rw [sl14]
    have v2 : SW x (stu s ((1000 * a + sg s 1 b) :: su s)) B := by
      refine hW.to rfl rfl (Or.inl rfl) (Or.inl rfl) (Nat.le_refl _) (Or.inl rfl) (Or.inl rfl) (fun _ _ _ => Or.inl rfl) (fun v hv => ?_) hW.2.2.2.2.1 fun k _ _ => Or.inl ⟨fun _ => rfl, rfl⟩
      rcases List.mem_cons.mp hv with hh | hh
      · rw [hh]; omega
      · exact hW.2.2.2.1 v hh
    exact up (v2.go hk (by omega) (by omega))
  · rw [sl15]; exact up (w_undo hs hN hk hk2 hl hl2 hW)
  · rw [sl16]; exact up (w_end hs hk hk2 hW)
  · rw [sl17]; exact up (hW.fail hs hk hk2)
  · rw [sl18]
    have hc := hW.cmd (c := 16) (a := sg s 1 a) (b := 0) hs
    generalize hr : sCmd x 16 (sg s 1 a) 0 s = r at hc
    obtain ⟨r, s1⟩ := r
    simp only at hc ⊢
    split
    · exact up hc
    · exact up (hc.s0 (by decide) (by decide) (by decide) (by decide) (by decide) (Or.inl (by decide)))
  · rw [sl19]
    have hp := w_patch (p := a) hs hW
    generalize hr : sPatch x a s = r at hp
    obtain ⟨r, s1⟩ := r
    simp only at hp ⊢
    cases r with
    | false => exact up (hp.go hk z5 (by omega))
    | true => exact up (hp.go hk (by omega) (by omega))
  · rw [sl20]
    have hew : 0 ≤ ew (x.2.1 (sg s 0 28)) := Int.natCast_nonneg _
    exact up ((hW.var (by omega) hT.2.2).go hk (by omega) (by omega))
  · rw [sl21]; exact ((up hW).s5 hk (by omega) (by omega)).go hk (by omega) (by omega)
  · rw [sl22]
    have hb := w_bare hk hk2 hW
    generalize hr : sBare k s = r at hb
    obtain ⟨r, s1⟩ := r
    simp only at hb ⊢
    have v2 := hb.1.go (l := sg s (2 + k) 4 + 1) hk (by omega) (by omega)
    cases r with
    | false => exact up v2
    | true => exact up (v2.fail hs hk (by rw [go_g, if_neg (by omega), if_neg (by omega), hb.2]; exact hk2))
  · rw [sl23]; exact up ((hW.cmd hs).go hk (by omega) (by omega))
theorem w_turn (hx : CodeW x) (hs : x.1 3 ≤ x.1 0) (hN : 0 ≤ x.1 0) (hl2 : x.1 5 ≤ 24) (hk : 0 ≤ k) (hk2 : k < sg s 0 5) (hT : TkW x s) (ha : sAble s k = true) (hW : SW x s B) : SW x (sTurn x k s) (B + 1) := by
  obtain ⟨k1, k2, k3, k4, k5, k6, k7⟩ := hW.br hk hk2
  unfold sTurn
  by_cases c7 : sg s (2 + k) 7 = 0
  · rw [if_neg (fun hh => hh c7)]
    split
    · exact (w_end hs hk hk2 hW).mono (by omega)
    · split
      · exact hW.stk.mono (by omega)
      · rename_i g1 g2
        have h29 := hW.2.2.2.2.2.2.1
        have v1 := (hW.s29 (v := sg s 0 29 + 1) (by omega) (by omega)).s0 (j := 40) (v := sg s 0 40 + 1) (by decide) (by decide) (by decide) (by decide) (by decide) (Or.inl (by decide))
        exact w_line hs hN hk (by rw [st_g, if_neg (by omega), st_g, if_neg (by omega)]; exact hk2) (by rw [st_g, if_neg (by omega), st_g, if_neg (by omega)]; omega) hl2 hT (hx _ k2.1 (by omega)) v1
  · rw [if_pos c7]
    have hl := k3 c7
    unfold sAwake
    by_cases c3 : sg s (2 + k) 7 = 3
    · rw [if_pos c3]
      obtain ⟨q0, q1⟩ := k4 c3
      have hne : sq s (sg s (2 + k) 8) ≠ [] := by
        unfold sAble at ha
        rw [if_neg c7, if_pos c3] at ha
        simpa using ha
      cases hvt : sq s (sg s (2 + k) 8) with
      | nil => exact absurd hvt hne
      | cons v tl =>
        have hv := hW.2.2.2.2.1 _ q0 q1 v (by rw [hvt]; exact List.mem_cons_self)
        exact (((hW.var hv.1 hv.2).qset fun w hw => hW.2.2.2.2.1 _ q0 q1 w (by rw [hvt]; exact List.mem_cons_of_mem _ hw)).go hk (by omega) (by omega)).mono (by omega)
    · rw [if_neg c3]
      exact (hW.go hk (by omega) (by omega)).mono (by omega)
end WPU
