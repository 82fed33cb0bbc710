/-! THE TELLING, plain: what is noted keeps all that holds. -/
section NT2
variable {x : CX} {s s' s1 s2 : TS} {B : Int} {a b c d e i j v k h n l w p r t o q u kd : Int}
theorem PI.can (h6 : 0 ≤ sg s 0 6) (hP : PI s) (k0 : 0 ≤ k) : PI (sCan x k s) := by
  unfold sCan
  split
  · split
    · exact hP.cmd h6
    · exact (hP.cmd h6).fail k0 (by rw [cmd_g (by omega)]; exact h6)
  · exact hP.fail k0 h6
theorem WK.can (hs : x.1 3 ≤ x.1 0) (h : WK x s) (hW : SW x s B) (k0 : 0 ≤ k) (k1 : k < sg s 0 5) : WK x (sCan x k s) := by
  unfold sCan
  split
  · split
    · exact h.cmd hW
    · exact (h.cmd hW).fail (hW.cmd hs) k0 (by rw [cmd_g (by omega)]; exact k1)
  · exact h.fail hW k0 k1
theorem OW.can (h : OW s) (k0 : 0 ≤ k) : OW (sCan x k s) := by
  unfold sCan
  split
  · split
    · exact h.cmd
    · exact h.cmd.fail k0
  · exact h.fail k0
theorem tell_all (hs : x.1 3 ≤ x.1 0) : ∀ (n : Nat) (k : Int) (s : TS), 0 ≤ k → SW x s B → PI s → WK x s → OW s → PI (sTell x n k s) ∧ WK x (sTell x n k s) ∧ OW (sTell x n k s) := by
  intro n
  induction n with
  | zero => intro k s _ _ h1 h2 h3; exact ⟨h1, h2, h3⟩
  | succ n ih =>
    intro k s k0 hW h1 h2 h3
    have h6 := hW.2.2.2.2.2.1.1
    rw [tell_u]
    split
    · rename_i k1
      split
      · split
        · rename_i c5
          refine ih _ _ (by omega) (hW.s6 k0 (Or.inl rfl)) (h1.sx h6 (by omega)) (h2.sx (by omega)) fun i i0 i1 i2 => ?_
          rw [st_g, if_neg (by omega)] at i1
          by_cases hi : i = k
          · rw [hi, st_g, if_neg (by omega)]; exact c5
          · rw [st_g, if_neg (by omega)] at i2
            rw [st_g, if_neg (by omega)]
            exact h3 i i0 i1 i2
        · exact ih _ _ (by omega) (w_can hs k0 k1 hW) (h1.can h6 k0) (h2.can hs hW k0 k1) (h3.can k0)
      · exact ⟨h1, h2, h3⟩
    · exact ⟨h1, h2, h3⟩
def NoteOk (s : TS) (k a b : Int) : Prop := (0 ≤ b ∧ b ≤ 999) ∧ (k = 0 → 0 ≤ a ∧ a ≤ 999 ∧ sg s 0 5 < 12) ∧ (k = 4 → 0 ≤ a ∧ a < 4)
theorem note_all (hs : x.1 3 ≤ x.1 0) (hW : SW x s B) (hP : PI s) (hK : WK x s) (hO : OW s) (hn : NoteOk s k a b) (hl2 : x.1 5 ≤ 24) : SW x (sNote x k a b s) (B + 1) ∧ PI (sNote x k a b s) ∧ WK x (sNote x k a b s) ∧ OW (sNote x k a b s) := by
  obtain ⟨nb, n0, n4⟩ := hn
  have h6 := hW.2.2.2.2.2.1.1
  have h5 := hW.2.2.2.2.2.2.2.1
  have hwb := wtr_b (s := s) (e := a)
  have fl : SW x (sFailed x (wtr s a) s) (B + 1) ∧ PI (sFailed x (wtr s a) s) ∧ WK x (sFailed x (wtr s a) s) ∧ OW (sFailed x (wtr s a) s) := by
    unfold sFailed
    by_cases c : wtr s a < 0
    · rw [if_pos c]; exact ⟨hW.mono (by omega), hP, hK, hO⟩
    · obtain ⟨w0, w1, w2, w3⟩ := hwb.resolve_left (by omega)
      rw [if_neg c]
      have hb4 := (hW.br w0 w1).2.1
      split
      · exact ⟨(hW.go w0 hb4.1 hb4.2).mono (by omega), hP.go w0 h6, hK.go w0, hO.go w0⟩
      · exact ⟨(hW.fail hs w0 w1).mono (by omega), hP.fail w0 h6, hK.fail hW w0 w1, hO.fail w0⟩
  unfold sNote
  by_cases c0 : k = 0
  · rw [if_pos c0]
    obtain ⟨a0, a1, t12⟩ := n0 c0
    have v1 := (hW.var (j := 0) a0 a1).s0 (j := 40) (v := sg s 0 40 + 1) (by decide) (by decide) (by decide) (by decide) (by decide) (Or.inl (by decide))
    have e5 : sg (st (st s 1 0 a) 0 40 (sg s 0 40 + 1)) 0 5 = sg s 0 5 := by rw [st_g, if_neg (by omega), st_g, if_neg (by omega)]
    have e6 : sg (st (st s 1 0 a) 0 40 (sg s 0 40 + 1)) 0 6 = sg s 0 6 := by rw [st_g, if_neg (by omega), st_g, if_neg (by omega)]
    refine ⟨v1.begin (by omega) (by decide) (by decide), PI.begin (hP.of h6 fun a i hh => by rw [st_g, if_neg (by omega), st_g, if_neg (by omega)]) v1 (by omega) (Or.inl rfl) (by omega), WK.begin ((hK.sx (by omega)).sx (by omega)) (by omega), OW.begin ((hO.sx (by omega)).sx (by omega)) (by omega)⟩
  · rw [if_neg c0]
    by_cases c2 : k = 2
    · rw [if_pos c2]; exact fl
    · rw [if_neg c2]
      by_cases c6 : k = 6
      · rw [if_pos c6]; exact fl
      · rw [if_neg c6]
        by_cases c4 : k = 4
        · rw [if_pos c4]
          obtain ⟨a0, a1⟩ := n4 c4
          have v1 : SW x (stq s a (sq s a ++ [b])) B := hW.qset fun w hw => by
            rcases List.mem_append.mp hw with g | g
            · exact hW.2.2.2.2.1 a a0 a1 w g
            · rw [List.mem_singleton.mp g]; exact nb
          have p1 : PI (stq s a (sq s a ++ [b])) := hP.of h6 fun _ _ _ => rfl
          have k1 : WK x (stq s a (sq s a ++ [b])) := hK.same (fun _ _ _ => rfl) rfl
          have o1 : OW (stq s a (sq s a ++ [b])) := hO.of fun _ _ _ => rfl
          exact ⟨(v1.s0 (by decide) (by decide) (by decide) (by decide) (by decide) (Or.inl (by decide))).mono (by omega), p1.sx h6 (by omega), k1.sx (by omega), o1.sx (by omega)⟩
        · rw [if_neg c4]
          by_cases c7 : k = 7
          · rw [if_pos c7]
            have v1 : SW x (st s 0 8 1) B := hW.s0 (by decide) (by decide) (by decide) (by decide) (by decide) (Or.inl (by decide))
            have p1 : PI (st s 0 8 1) := hP.sx h6 (by omega)
            have k1 : WK x (st s 0 8 1) := hK.sx (by omega)
            have o1 : OW (st s 0 8 1) := hO.sx (by omega)
            exact ⟨(w_tell hs 13 0 _ (by decide) v1).1.mono (by omega), tell_all hs 13 0 _ (by decide) v1 p1 k1 o1⟩
          · rw [if_neg c7]
            unfold sEnded
            by_cases c : wtr s a < 0
            · rw [if_pos c]; exact ⟨hW.mono (by omega), hP, hK, hO⟩
            · obtain ⟨w0, w1, w2, w3⟩ := hwb.resolve_left (by omega)
              rw [if_neg c]
              have hbr := hW.br w0 w1
              have hb4 := hbr.2.1
              have hl := hbr.2.2.1 (by omega)
              split
              · exact ⟨(hW.go w0 hb4.1 hb4.2).mono (by omega), hP.go w0 h6, hK.go w0, hO.go w0⟩
              · split
                · exact ⟨(hW.go w0 (by omega) (by omega)).mono (by omega), hP.go w0 h6, hK.go w0, hO.go w0⟩
                · exact ⟨((hW.var nb.1 nb.2).go w0 (by omega) (by omega)).mono (by omega), (hP.sx h6 (Or.inr (Or.inl rfl))).go w0 (by rw [st_g, if_neg (by omega)]; exact h6), (hK.sx (Or.inr (Or.inl rfl))).go w0, (hO.sx (Or.inr (Or.inl rfl))).go w0⟩
theorem OW.turn (hx : CodeW x) (h : OW s) (hW : SW x s B) (k0 : 0 ≤ k) (k1 : k < sg s 0 5) : OW (sTurn x k s) := by
  have hb4 := (hW.br k0 k1).2.1
  unfold sTurn
  split
  · unfold sAwake
    split
    · refine OW.go (s := stq (st s 1 (bOf x (sg s (2 + k) 4)) ((sq s (sg s (2 + k) 8)).headD 0)) (sg s (2 + k) 8) (sq s (sg s (2 + k) 8)).tail) ?_ k0
      exact h.of fun a i hh => (st_g (s := s) (a := 1) (j := bOf x (sg s (2 + k) 4)) (v := (sq s (sg s (2 + k) 8)).headD 0) (b := a) (i := i)).trans (if_neg (by omega))
    · exact h.go k0
  · split
    · exact h.end
    · split
      · exact h.stk
      · rename_i g1 g2 g3
        have h29 := hW.2.2.2.2.2.2.1
        have v1 := (hW.s29 (v := sg s 0 29 + 1) (by omega) (by omega)).s0 (j := 40) (v := sg s 0 40 + 1) (by decide) (by decide) (by decide) (by decide) (by decide) (Or.inl (by decide))
        have es : ∀ p q : Int, (p ≠ 0 ∨ (q ≠ 29 ∧ q ≠ 40)) → sg (st (st s 0 29 (sg s 0 29 + 1)) 0 40 (sg s 0 40 + 1)) p q = sg s p q := fun p q hh => by rw [st_g, if_neg (by omega), st_g, if_neg (by omega)]
        have p1 : OW (st (st s 0 29 (sg s 0 29 + 1)) 0 40 (sg s 0 40 + 1)) := h.of fun a i hh => es a i (by omega)
        have hL := hx (sg s (2 + k) 4) hb4.1 (by omega)
        exact p1.line v1 k0 (by rw [es _ _ (by omega)]; exact k1) hL.1 hL.2.1
/-- through all turns of an arrival -/
theorem on_all (hx : CodeW x) (hs : x.1 3 ≤ x.1 0) (hN : 0 ≤ x.1 0) (hl2 : x.1 5 ≤ 24) : ∀ (n : Nat) (s : TS) (B : Int), SW x s B → TkW x s → OW s → SW x (sOn x n s) (B + n) ∧ OW (sOn x n s) ∧ TkW x (sOn x n s) := by
  intro n
  induction n with
  | zero => intro s B hW hT hO; exact ⟨hW.mono (by omega), hO, hT⟩
  | succ n ih =>
    intro s B hW hT hO
    have h5 := hW.2.2.2.2.2.2.2.1
    show SW x (if first s < 0 then s else if goes s then sOn x n (sTurn x (first s) s) else s) _ ∧ OW (if first s < 0 then s else if goes s then sOn x n (sTurn x (first s) s) else s) ∧ TkW x (if first s < 0 then s else if goes s then sOn x n (sTurn x (first s) s) else s)
    rcases first_b (s := s) with g | ⟨g1, g2, g3⟩
    · rw [if_pos (by omega)]
      exact ⟨hW.mono (by omega), hO, hT⟩
    · rw [if_neg (by omega)]
      split
      · have e28 : sg (sTurn x (first s) s) 0 28 = sg s 0 28 := kp_turn h5.1 g1 (by unfold KQ; omega)
        obtain ⟨z1, z2, z3⟩ := ih (sTurn x (first s) s) (B + 1) (w_turn hx hs hN hl2 g1 g2 hT g3 hW) (by unfold TkW at hT ⊢; rw [e28]; exact hT) (hO.turn hx hW g1 g2)
        exact ⟨z1.mono (by omega), z2, z3⟩
      · exact ⟨hW.mono (by omega), hO, hT⟩
/-- an end is come to within 1000 turns -/
theorem on_end (hx : CodeW x) (hs : x.1 3 ≤ x.1 0) (hN : 0 ≤ x.1 0) (hl2 : x.1 5 ≤ 24) : ∀ (φ : Nat) (n : Nat) (s : TS) (B : Int), SW x s B → TkW x s → OW s → pot s ≤ φ → φ + 2 ≤ n → (first (sOn x n s) < 0 ∨ ¬ goes (sOn x n s) = true) := by
  intro φ
  induction φ with
  | zero =>
    intro n s B hW hT hO hp hn
    obtain ⟨n, rfl⟩ : ∃ g, n = g + 1 := ⟨n - 1, by omega⟩
    show (first (if first s < 0 then s else if goes s then sOn x n (sTurn x (first s) s) else s) < 0 ∨ ¬ goes (if first s < 0 then s else if goes s then sOn x n (sTurn x (first s) s) else s) = true)
    by_cases hg : goes s = true
    · rcases first_b (s := s) with g | ⟨g1, g2, g3⟩
      · rw [if_pos (by omega)]; exact Or.inl (by omega)
      · rw [if_neg (by omega), if_pos hg]
        have hp2 := pot_turn hx hs hN hl2 hW g1 g2
        have hW2 := w_turn hx hs hN hl2 g1 g2 hT g3 hW
        have hp0 := pot_nn hW2
        have hng : ¬ goes (sTurn x (first s) s) = true := fun z => by have := hp2 z; omega
        rw [on_stop (Or.inr hng)]
        exact Or.inr hng
    · split
      · exact Or.inr hg
      · exact Or.inr hg
  | succ φ ih =>
    intro n s B hW hT hO hp hn
    obtain ⟨n, rfl⟩ : ∃ g, n = g + 1 := ⟨n - 1, by omega⟩
    have h5 := hW.2.2.2.2.2.2.2.1
    show (first (if first s < 0 then s else if goes s then sOn x n (sTurn x (first s) s) else s) < 0 ∨ ¬ goes (if first s < 0 then s else if goes s then sOn x n (sTurn x (first s) s) else s) = true)
    by_cases hg : goes s = true
    · rcases first_b (s := s) with g | ⟨g1, g2, g3⟩
      · rw [if_pos (by omega)]; exact Or.inl (by omega)
      · rw [if_neg (by omega), if_pos hg]
        have hp2 := pot_turn hx hs hN hl2 hW g1 g2
        have hW2 := w_turn hx hs hN hl2 g1 g2 hT g3 hW
        by_cases hng : goes (sTurn x (first s) s) = true
        · have := hp2 hng
          have e28 : sg (sTurn x (first s) s) 0 28 = sg s 0 28 := kp_turn h5.1 g1 (by unfold KQ; omega)
          exact ih n _ (B + 1) hW2 (by unfold TkW at hT ⊢; rw [e28]; exact hT) (hO.turn hx hW g1 g2) (by omega) (by omega)
        · rw [on_stop (Or.inr hng)]
          exact Or.inr hng
    · split
      · exact Or.inr hg
      · exact Or.inr hg
theorem on_add : ∀ (i n : Nat) (s : TS), sOn x (i + n) s = sOn x n (sOn x i s) := by
  intro i
  induction i with
  | zero => intro n s; rw [Nat.zero_add]; rfl
  | succ i ih =>
    intro n s
    have e : i + 1 + n = (i + n) + 1 := by omega
    rw [e]
    show (if first s < 0 then s else if goes s then sOn x (i + n) (sTurn x (first s) s) else s) = sOn x n (if first s < 0 then s else if goes s then sOn x i (sTurn x (first s) s) else s)
    by_cases c1 : first s < 0
    · rw [if_pos c1, if_pos c1, on_stop (Or.inl c1)]
    · rw [if_neg c1, if_neg c1]
      by_cases c2 : goes s = true
      · rw [if_pos c2, if_pos c2]
        exact ih n _
      · rw [if_neg c2, if_neg c2, on_stop (Or.inr c2)]
/-- what is new is never more than at the end -/
theorem on_nl (hx : CodeW x) (hs : x.1 3 ≤ x.1 0) (hN : 0 ≤ x.1 0) (hl2 : x.1 5 ≤ 24) (hW : SW x s B) (hT : TkW x s) (hO : OW s) (n : Nat) : nl (sOn x n s) ≤ nl (sOn x 1000 s) := by
  by_cases c : n ≤ 1000
  · have := on_add (x := x) n (1000 - n) s
    rw [show n + (1000 - n) = 1000 by omega] at this
    rw [this]
    exact nl_on _ _
  · have hpb : pot s ≤ 204 := by
      have := (pw_b (s := s) 12 0).2
      have := hW.2.2.2.2.2.2.1
      unfold pot
      omega
    have he := on_end hx hs hN hl2 204 1000 s B hW hT hO (by omega) (by omega)
    have := on_add (x := x) 1000 (n - 1000) s
    rw [show 1000 + (n - 1000) = n by omega] at this
    rw [this, on_stop he]
    exact Int.le_refl _
end NT2
