/-! THE TELLING, plain: each turn takes something off, II. -/
section PO2
variable {x : CX} {s s' s2 : TS} {B : Int} {a b c d e i j v k h n l w p r t o q : Int}
theorem pw_cw {kd : Int} (k0 : 0 ≤ k) (k1 : k < sg s 0 5) (h5 : sg s 0 5 ≤ 12) : pw (match sCmd x kd a b s with
    | (r, s1) => sWait k w r s1) 12 0 ≤ pw s 12 0 + 1 := by
  have h1 : pw (sCmd x kd a b s).2 12 0 ≤ pw s 12 0 := pw_cmd
  have e5 : sg (sCmd x kd a b s).2 0 5 = sg s 0 5 := cmd_g (by omega)
  show pw (sWait k w (sCmd x kd a b s).1 (sCmd x kd a b s).2) 12 0 ≤ _
  have := pw_wait (s := (sCmd x kd a b s).2) (k := k) (w := w) (n := (sCmd x kd a b s).1) k0 (by omega) (by omega)
  omega
theorem pw_endR : pw (sEndR x k a s) 12 0 ≤ pw s 12 0 := by
  unfold sEndR
  show pw (if (sCmd x k a 0 s).1 < 0 then (sCmd x k a 0 s).2 else st (sCmd x k a 0 s).2 0 9 k) 12 0 ≤ _
  split
  · exact pw_cmd
  · exact Int.le_trans (pw_st (by omega)) pw_cmd
theorem pw_end (h5 : sg s 0 5 ≤ 12) (k0 : 0 ≤ k) (k1 : k < sg s 0 5) : pw (sEnd x k s) 12 0 ≤ pw s 12 0 := by
  unfold sEnd
  split
  · exact pw_endR (x := x) (k := 14) (a := sg s 1 0)
  · have := pw_rem (s := s) h5 k0 k1
    omega
theorem pw_line (hs : x.1 3 ≤ x.1 0) (hl2 : x.1 5 ≤ 24) (hW : SW x s B) (k0 : 0 ≤ k) (k1 : k < sg s 0 5) (hl : sg s (2 + k) 4 < x.1 5) (c0 : 0 ≤ c) (c1 : c ≤ 23) : pw (sLine x k c a b s) 12 0 ≤ pw s 12 0 + 1 := by
  have h5 := hW.2.2.2.2.2.2.2.1
  have hb4 := (hW.br k0 k1).2.1
  have t5 : sg (sGo k (sg s (2 + k) 4 + 1) s) 0 5 = sg s 0 5 := by rw [go_g, if_neg (by omega), if_neg (by omega)]
  have g1 : pw (sGo k (sg s (2 + k) 4 + 1) s) 12 0 ≤ pw s 12 0 := pw_go k0
  have w1 : SW x (sGo k (sg s (2 + k) 4 + 1) s) B := hW.go k0 (by omega) (by omega)
  have up : ∀ {z : Int}, z ≤ pw s 12 0 → z ≤ pw s 12 0 + 1 := fun h => by omega
  have hc : c = 0 ∨ c = 1 ∨ c = 2 ∨ c = 3 ∨ c = 4 ∨ c = 5 ∨ c = 6 ∨ c = 7 ∨ c = 8 ∨ c = 9 ∨ c = 10 ∨ c = 11 ∨ c = 12 ∨ c = 13 ∨ c = 14 ∨ c = 15 ∨ c = 16 ∨ c = 17 ∨ c = 18 ∨ c = 19 ∨ c = 20 ∨ c = 21 ∨ c = 22 ∨ c = 23 := by omega
  rcases hc with rfl | rfl | rfl | rfl | rfl | rfl | rfl | rfl | rfl | rfl | rfl | rfl | rfl | rfl | rfl | rfl | rfl | rfl | rfl | rfl | rfl | rfl | rfl | rfl
  · rw [sl0]; exact up (Int.le_trans (pw_go k0) (pw_st (by omega)))
  · rw [sl1]; exact up (Int.le_trans (pw_go k0) (pw_st (by omega)))
  · rw [sl2]; exact pw_cw k0 k1 h5.2
  · rw [sl3]; exact pw_cw k0 k1 h5.2
  · rw [sl4]; exact pw_wait k0 k1 h5.2
  · rw [sl5]; exact pw_cw k0 k1 h5.2
  · rw [sl6]
    split <;> exact up (pw_go k0)
  · rw [sl7]; exact up (pw_go k0)
  · rw [sl8]
    unfold sBelow
    split
    · have := pw_begin (s := sGo k (sg s (2 + k) 4 + 1) s) (p := sg (sGo k (sg s (2 + k) 4 + 1) s) (2 + k) 0) (l := a) (by omega) (by assumption)
      omega
    · exact up (Int.le_trans pw_stk g1)
  · rw [sl9]; exact pw_wait k0 k1 h5.2
  · rw [sl10]
    unfold sRace
    split
    · simp only
      have hb := pw_begin (s := sGo k (sg s (2 + k) 4 + 1) s) (p := sg (sGo k (sg s (2 + k) 4 + 1) s) (2 + k) 0) (l := a) (by omega) (by assumption)
      generalize sBegin (sg (sGo k (sg s (2 + k) 4 + 1) s) (2 + k) 0) a (sGo k (sg s (2 + k) 4 + 1) s) = s1 at hb
      have hfb := find_b (s := s1) (v := sg s1 (2 + k) 3)
      refine Int.le_trans (pw_st (by omega)) (Int.le_trans (pw_st (by omega)) ?_)
      split
      · omega
      · have := pw_st (s := s1) (a := 2 + find s1 (sg s1 (2 + k) 3)) (j := 3) (v := -1) (by omega)
        omega
    · exact up (Int.le_trans pw_stk g1)
  · rw [sl11]
    exact up (Int.le_trans (pw_drop hs (w_win hs k0 (by rw [t5]; exact k1) w1)) (Int.le_trans (pw_win k0) g1))
  · rw [sl12]; exact up (Int.le_trans (pw_eq rfl fun _ _ => rfl) g1)
  · rw [sl13]; exact up (Int.le_trans (pw_eq rfl fun _ _ => rfl) g1)
  · rw [sl14]; exact up (Int.le_trans (pw_go k0) (pw_eq rfl fun _ _ => rfl))
  · rw [sl15]
    unfold sUndo
    split
    · exact up g1
    · rename_i v t hu
      have := pw_cw (x := x) (kd := 8) (a := v / 1000) (b := v % 1000) (w := 2) (s := stu s t) (k := k) k0 k1 h5.2
      have e : pw (stu s t) 12 0 ≤ pw s 12 0 := pw_eq rfl fun _ _ => rfl
      exact Int.le_trans this (by omega)
  · rw [sl16]; exact up (pw_end h5.2 k0 k1)
  · rw [sl17]; exact up (pw_fail k0)
  · rw [sl18]; exact up (pw_endR (x := x) (k := 16) (a := sg s 1 a))
  · rw [sl19]
    have hp : pw (sPatch x a s).2 12 0 ≤ pw s 12 0 := by
      unfold sPatch
      split
      · split
        · exact Int.le_trans pw_cmd (pw_st (by omega))
        · exact Int.le_refl _
      · exact Int.le_refl _
    generalize hr : sPatch x a s = r at hp
    obtain ⟨r, s1⟩ := r
    exact up (Int.le_trans (pw_go k0) hp)
  · rw [sl20]; exact up (Int.le_trans (pw_go k0) (pw_st (by omega)))
  · rw [sl21]; exact up (Int.le_trans (pw_go k0) (pw_st (by omega)))
  · rw [sl22]
    have hb : pw (sBare k s).2 12 0 ≤ pw s 12 0 := by
      unfold sBare
      simp only
      generalize (if 0 < sg s (2 + k) 5 then sg s (2 + k) 5 - 1 else 0) = y
      split
      · exact Int.le_trans (pw_st (by omega)) (pw_st (by omega))
      · exact Int.le_trans (pw_st (by omega)) (pw_st (by omega))
    generalize hr : sBare k s = r at hb
    obtain ⟨r, s1⟩ := r
    simp only at hb ⊢
    have z := Int.le_trans (pw_go (l := sg s (2 + k) 4 + 1) k0) hb
    cases r with
    | false => exact up z
    | true => exact up (Int.le_trans (pw_fail k0) z)
  · rw [sl23]; exact up (Int.le_trans (pw_go k0) pw_cmd)
theorem not_goes (h : sg s 0 30 ≠ 0 ∨ sg s 0 9 ≠ 0) : ¬ goes s = true := fun g => by
  have := goes_s g
  omega
theorem endR_ng (hs : x.1 3 ≤ x.1 0) (hN : 0 ≤ x.1 0) (hW : SW x s B) (hk : k ≠ 0) : ¬ goes (sEndR x k a s) = true := by
  have hr := cmd_r (c := k) (a := a) (b := 0) hW hs hN
  unfold sEndR
  show ¬ goes (if (sCmd x k a 0 s).1 < 0 then (sCmd x k a 0 s).2 else st (sCmd x k a 0 s).2 0 9 k) = true
  split
  · exact not_goes (Or.inl (by omega))
  · exact not_goes (Or.inr (by rw [st_g, if_pos ⟨rfl, rfl⟩]; exact hk))
theorem pot_turn (hx : CodeW x) (hs : x.1 3 ≤ x.1 0) (hN : 0 ≤ x.1 0) (hl2 : x.1 5 ≤ 24) (hW : SW x s B) (k0 : 0 ≤ k) (k1 : k < sg s 0 5) (hg : goes (sTurn x k s) = true) : pot (sTurn x k s) + 1 ≤ pot s := by
  have h5 := hW.2.2.2.2.2.2.2.1
  have hb4 := (hW.br k0 k1).2.1
  unfold sTurn at hg ⊢
  unfold pot
  by_cases c7 : sg s (2 + k) 7 = 0
  · rw [if_neg (fun h => h c7)] at hg ⊢
    by_cases cl : x.1 5 ≤ sg s (2 + k) 4
    · rw [if_pos cl] at hg ⊢
      unfold sEnd at hg ⊢
      by_cases c0 : sg s (2 + k) 0 = 0
      · rw [if_pos c0] at hg
        exact absurd hg (endR_ng (k := 14) (a := sg s 1 0) hs hN hW (by decide))
      · rw [if_neg c0]
        have := pw_rem (s := s) h5.2 k0 k1
        rw [kr_rem (by unfold KR; omega)]
        omega
    · rw [if_neg cl] at hg ⊢
      by_cases c6 : 60 ≤ sg s 0 29
      · rw [if_pos c6] at hg
        exact absurd hg (not_goes (Or.inl (by show ¬ ((1 : Int) = 0); decide)))
      · rw [if_neg c6]
        have h29 := hW.2.2.2.2.2.2.1
        have v1 := (hW.s29 (v := sg s 0 29 + 1) (by omega) (by omega)).s0 (j := 40) (v := sg s 0 40 + 1) (by decide) (by decide) (by decide) (by decide) (by decide) (Or.inl (by decide))
        have hL := hx (sg s (2 + k) 4) hb4.1 (by omega)
        have e5 : sg (st (st s 0 29 (sg s 0 29 + 1)) 0 40 (sg s 0 40 + 1)) 0 5 = sg s 0 5 := by rw [st_g, if_neg (by omega), st_g, if_neg (by omega)]
        have z := pw_line (a := (x.2.2 (sg s (2 + k) 4)).2.1) (b := (x.2.2 (sg s (2 + k) 4)).2.2) hs hl2 v1 k0 (by rw [e5]; exact k1) (by rw [st_g, if_neg (by omega), st_g, if_neg (by omega)]; omega) hL.1 hL.2.1
        have z2 : pw (st (st s 0 29 (sg s 0 29 + 1)) 0 40 (sg s 0 40 + 1)) 12 0 ≤ pw s 12 0 := Int.le_trans (pw_st (by omega)) (pw_st (by omega))
        rw [kr_line hL.1 hL.2.1 (by rw [e5]; exact h5.1) k0 (by unfold KR; omega), st_g, if_neg (by omega), st_g, if_pos ⟨rfl, rfl⟩]
        omega
  · rw [if_pos c7] at hg ⊢
    have e29 : sg (sAwake x k s) 0 29 = sg s 0 29 := kr_awake (by unfold KR; omega)
    have hw : ∀ (s1 : TS), sg s1 0 5 = sg s 0 5 → (∀ i : Int, 0 ≤ i → sg s1 (2 + i) 7 = sg s (2 + i) 7) → pw (sGo k (sg s (2 + k) 4 + 1) s1) 12 0 ≤ pw s 12 0 + (-1) := by
      intro s1 q1 q2
      refine pw_at (k := k) (d := -1) (by rw [go_g, if_neg (by omega), if_neg (by omega)]; exact q1) (fun i i0 hi => by rw [go_g, if_neg (by omega), if_neg (by omega)]; exact q2 i i0) k0 (by omega) ?_
      have e5 : sg (sGo k (sg s (2 + k) 4 + 1) s1) 0 5 = sg s 0 5 := by rw [go_g, if_neg (by omega), if_neg (by omega)]; exact q1
      have e7 : sg (sGo k (sg s (2 + k) 4 + 1) s1) (2 + k) 7 = 0 := by rw [go_g, if_neg (by omega), if_pos ⟨rfl, rfl⟩]
      rw [wgt_i (by rw [e5]; exact k1), wgt_i (s := s) k1, if_pos e7, if_neg c7]
      omega
    have hp : pw (sAwake x k s) 12 0 ≤ pw s 12 0 + (-1) := by
      unfold sAwake
      split
      · have e : ∀ a i : Int, a ≠ 1 → sg (stq (st s 1 (bOf x (sg s (2 + k) 4)) ((sq s (sg s (2 + k) 8)).headD 0)) (sg s (2 + k) 8) (sq s (sg s (2 + k) 8)).tail) a i = sg s a i := fun a i ha => (st_g (s := s) (a := 1) (j := bOf x (sg s (2 + k) 4)) (v := (sq s (sg s (2 + k) 8)).headD 0) (b := a) (i := i)).trans (if_neg (fun h => ha h.1))
        exact hw _ (e _ _ (by decide)) (fun i i0 => e _ _ (by omega))
      · exact hw s rfl fun _ _ => rfl
    rw [e29]
    omega
end PO2
