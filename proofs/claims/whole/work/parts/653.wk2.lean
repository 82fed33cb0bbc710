/-! THE TELLING, plain: what branches wait for, through turns. -/
section WK2
variable {x : CX} {s s' s1 s2 : TS} {B : Int} {a b c d e i j v k h n l w p r t o q u kd : Int}
theorem WK.line (hs : x.1 3 ≤ x.1 0) (h4 : x.1 4 ≠ 1) (hl2 : x.1 5 ≤ 24) (h : WK x s) (hW : SW x s B) (k0 : 0 ≤ k) (k1 : k < sg s 0 5) (hl : sg s (2 + k) 4 < x.1 5) (c0 : 0 ≤ c) (c1 : c ≤ 23) (hc : (x.2.2 (sg s (2 + k) 4)).1 = c) : WK x (sLine x k c a b s) := by
  have h5 := hW.2.2.2.2.2.2.2.1
  have hb4 := (hW.br k0 k1).2.1
  have g1 : WK x (sGo k (sg s (2 + k) 4 + 1) s) := h.go k0
  have w1 : SW x (sGo k (sg s (2 + k) 4 + 1) s) B := hW.go k0 (by omega) (by omega)
  have t5 : sg (sGo k (sg s (2 + k) 4 + 1) s) 0 5 = sg s 0 5 := by rw [go_g, if_neg (by omega), if_neg (by omega)]
  have hcc : c = 0 ∨ c = 1 ∨ c = 2 ∨ c = 3 ∨ c = 4 ∨ c = 5 ∨ c = 6 ∨ c = 7 ∨ c = 8 ∨ c = 9 ∨ c = 10 ∨ c = 11 ∨ c = 12 ∨ c = 13 ∨ c = 14 ∨ c = 15 ∨ c = 16 ∨ c = 17 ∨ c = 18 ∨ c = 19 ∨ c = 20 ∨ c = 21 ∨ c = 22 ∨ c = 23 := by omega
  rcases hcc with rfl | rfl | rfl | rfl | rfl | rfl | rfl | rfl | rfl | rfl | rfl | rfl | rfl | rfl | rfl | rfl | rfl | rfl | rfl | rfl | rfl | rfl | rfl | rfl
  · rw [sl0]; exact (h.sx (by omega)).go k0
  · rw [sl1]; exact (h.sx (by omega)).go k0
  · rw [sl2]; exact h.cw hW hs h4 k0 k1 (Or.inl ⟨rfl, by omega, by rw [hc]; rfl⟩)
  · rw [sl3]; exact h.cw hW hs h4 k0 k1 (Or.inl ⟨rfl, by omega, by rw [hc]; rfl⟩)
  · rw [sl4]; exact h.wait k0 (Or.inl ⟨rfl, hc⟩)
  · rw [sl5]; exact h.cw hW hs h4 k0 k1 (Or.inl ⟨rfl, by omega, by rw [hc]; rfl⟩)
  · rw [sl6]
    split <;> exact h.go k0
  · rw [sl7]; exact h.go k0
  · rw [sl8]
    unfold sBelow
    split
    · exact g1.begin (by omega)
    · exact g1.stk
  · rw [sl9]; exact h.wait k0 (Or.inr rfl)
  · rw [sl10]
    unfold sRace
    split
    · simp only
      have hb : WK x (sBegin (sg (sGo k (sg s (2 + k) 4 + 1) s) (2 + k) 0) a (sGo k (sg s (2 + k) 4 + 1) s)) := g1.begin (by omega)
      generalize sBegin (sg (sGo k (sg s (2 + k) 4 + 1) s) (2 + k) 0) a (sGo k (sg s (2 + k) 4 + 1) s) = s1 at hb
      have hfb := find_b (s := s1) (v := sg s1 (2 + k) 3)
      refine WK.sx (WK.sx ?_ (by omega)) (by omega)
      split
      · exact hb
      · exact hb.sx (by omega)
    · exact g1.stk
  · rw [sl11]
    exact WK.drop hs (WK.win hs g1 w1 k0) (w_win hs k0 (by rw [t5]; exact k1) w1)
  · rw [sl12]; exact g1.same (fun _ _ _ => rfl) rfl
  · rw [sl13]; exact g1.same (fun _ _ _ => rfl) rfl
  · rw [sl14]; exact (h.same (s' := stu s ((1000 * a + sg s 1 b) :: su s)) (fun _ _ _ => rfl) rfl).go k0
  · rw [sl15]
    unfold sUndo
    split
    · exact g1
    · rename_i v t hu
      refine (h.same (s' := stu s t) (fun _ _ _ => rfl) rfl).cw (B := B) (hW.ustk fun w hw => hW.2.2.2.1 w (by rw [hu]; exact List.mem_cons_of_mem _ hw)) hs h4 k0 k1 (Or.inr rfl)
  · rw [sl16]; exact h.end hW
  · rw [sl17]; exact h.fail hW k0 k1
  · rw [sl18]; exact WK.endR (k := 16) (a := sg s 1 a) h hW
  · rw [sl19]
    have hp : WK x (sPatch x a s).2 := by
      unfold sPatch
      split
      · split
        · exact (h.sx (a := 0) (j := 7) (v := iOr (sg s 0 7) (iShl 1 a)) (by omega)).cmd (hW.s0 (by decide) (by decide) (by decide) (by decide) (by decide) (Or.inl (by decide)))
        · exact h
      · exact h
    generalize hr : sPatch x a s = r at hp
    obtain ⟨r, s1⟩ := r
    exact hp.go k0
  · rw [sl20]; exact (h.sx (by omega)).go k0
  · rw [sl21]; exact (h.sx (by omega)).go k0
  · rw [sl22]
    have hb : WK x (sBare k s).2 := by
      unfold sBare
      simp only
      generalize (if 0 < sg s (2 + k) 5 then sg s (2 + k) 5 - 1 else 0) = y
      split
      · exact (h.sx (a := 2 + k) (j := 5) (v := y) (by omega)).sx (by omega)
      · exact (h.sx (a := 2 + k) (j := 5) (v := y) (by omega)).sx (by omega)
    have hbw := w_bare k0 k1 hW
    generalize hr : sBare k s = r at hb hbw
    obtain ⟨r, s1⟩ := r
    simp only at hb hbw ⊢
    have z : WK x (sGo k (sg s (2 + k) 4 + 1) s1) := hb.go k0
    cases r with
    | false => exact z
    | true => exact z.fail (hbw.1.go k0 (by omega) (by omega)) k0 (by rw [go_g, if_neg (by omega), if_neg (by omega), hbw.2]; exact k1)
  · rw [sl23]; exact (h.cmd hW).go k0
theorem WK.awake (h : WK x s) (k0 : 0 ≤ k) : WK x (sAwake x k s) := by
  unfold sAwake
  split
  · refine WK.go (s := stq (st s 1 (bOf x (sg s (2 + k) 4)) ((sq s (sg s (2 + k) 8)).headD 0)) (sg s (2 + k) 8) (sq s (sg s (2 + k) 8)).tail) ?_ k0
    exact h.same (fun a i hh => (st_g (s := s) (a := 1) (j := bOf x (sg s (2 + k) 4)) (v := (sq s (sg s (2 + k) 8)).headD 0) (b := a) (i := i)).trans (if_neg (by omega))) rfl
  · exact h.go k0
theorem WK.turn (hx : CodeW x) (hs : x.1 3 ≤ x.1 0) (h4 : x.1 4 ≠ 1) (hl2 : x.1 5 ≤ 24) (h : WK x s) (hW : SW x s B) (k0 : 0 ≤ k) (k1 : k < sg s 0 5) : WK x (sTurn x k s) := by
  have hb4 := (hW.br k0 k1).2.1
  unfold sTurn
  split
  · exact h.awake k0
  · split
    · exact h.end hW
    · split
      · exact h.stk
      · rename_i g1 g2 g3
        have h29 := hW.2.2.2.2.2.2.1
        have v1 := (hW.s29 (v := sg s 0 29 + 1) (by omega) (by omega)).s0 (j := 40) (v := sg s 0 40 + 1) (by decide) (by decide) (by decide) (by decide) (by decide) (Or.inl (by decide))
        have es : ∀ p q : Int, (p ≠ 0 ∨ (q ≠ 29 ∧ q ≠ 40)) → sg (st (st s 0 29 (sg s 0 29 + 1)) 0 40 (sg s 0 40 + 1)) p q = sg s p q := fun p q hh => by rw [st_g, if_neg (by omega), st_g, if_neg (by omega)]
        have p1 : WK x (st (st s 0 29 (sg s 0 29 + 1)) 0 40 (sg s 0 40 + 1)) := h.same (fun a i hh => es a i (by omega)) rfl
        have hL := hx (sg s (2 + k) 4) hb4.1 (by omega)
        exact p1.line hs h4 hl2 v1 k0 (by rw [es _ _ (by omega)]; exact k1) (by rw [es _ _ (by omega)]; omega) hL.1 hL.2.1 (by rw [es _ _ (by omega)])
end WK2
