/-! THE TELLING, plain: while a branch goes on, no lower one can, II. -/
section LO2
variable {x : CX} {s s' s1 s2 : TS} {B : Int} {a b c d e i j v k h n l w p r t o q u : Int}
theorem LT.go (h : LT (sGo k l s) s' k) (k0 : 0 ≤ k) : LT s s' k := by
  have hl : LoR s (sGo k l s) k := (SM.go k0).lo
  unfold LT at h ⊢
  rw [show sg (sGo k l s) (2 + k) 0 = sg s (2 + k) 0 by rw [go_g, if_neg (by omega), if_neg (by omega)]] at h
  exact fun g => ⟨(h g).1, hl.tr (h g).2⟩
theorem LT.sm (hs : SM s s1 k) (h : LT s1 s' k) (k0 : 0 ≤ k) : LT s s' k := by
  unfold LT at h ⊢
  rw [hs.2.1 k k0] at h
  exact fun g => ⟨(h g).1, hs.lo.tr (h g).2⟩
theorem begin_lt (hI : SI s) (hW : SW x s B) (h1 : sg s 0 5 < 12) (k0 : 0 ≤ k) (k1 : k < sg s 0 5) : LT s (sBegin (sg s (2 + k) 0) l s) k := by
  have h5 := hW.2.2.2.2.2.2.2.1
  intro _
  refine ⟨?_, begin_lo hI h5.1 h1 k0 k1⟩
  have := (hW.br k0 k1).1
  rw [find_begin h5.1 (by omega)]
  exact find_at hI k0 k1 h5.2
theorem end_lt (hs : x.1 3 ≤ x.1 0) (hN : 0 ≤ x.1 0) (hP : PI s) (hW : SW x s B) (k0 : 0 ≤ k) (k1 : k < sg s 0 5) (hg : goes (sEnd x k s) = true) : LT s (sEnd x k s) k := by
  have h5 := hW.2.2.2.2.2.2.2.1
  unfold sEnd at hg ⊢
  by_cases c0 : sg s (2 + k) 0 = 0
  · rw [if_pos c0] at hg
    exact absurd hg (endR_ng (k := 14) (a := sg s 1 0) hs hN hW (by decide))
  · rw [if_neg c0]
    intro h
    exact absurd rfl ((rem_there hP.1.1 h5.2 k0 k1).mp h).2
theorem line_lt (hs : x.1 3 ≤ x.1 0) (hN : 0 ≤ x.1 0) (hl2 : x.1 5 ≤ 24) (hP : PI s) (hW : SW x s B) (k0 : 0 ≤ k) (k1 : k < sg s 0 5) (hl : sg s (2 + k) 4 < x.1 5) (c0 : 0 ≤ c) (c1 : c ≤ 23) (h30 : sg s 0 30 = 0) (hg : goes (sLine x k c a b s) = true) : LT s (sLine x k c a b s) k := by
  have h5 := hW.2.2.2.2.2.2.2.1
  have h6 := hW.2.2.2.2.2.1.1
  have hI := hP.1.1
  have hb4 := (hW.br k0 k1).2.1
  have g1 : PI (sGo k (sg s (2 + k) 4 + 1) s) := hP.go k0 h6
  have w1 : SW x (sGo k (sg s (2 + k) 4 + 1) s) B := hW.go k0 (by omega) (by omega)
  have t5 : sg (sGo k (sg s (2 + k) 4 + 1) s) 0 5 = sg s 0 5 := by rw [go_g, if_neg (by omega), if_neg (by omega)]
  have sm : ∀ {s'}, SM s s' k → LT s s' k := fun h => h.lt hI h5.2 k0 k1
  have hc : c = 0 ∨ c = 1 ∨ c = 2 ∨ c = 3 ∨ c = 4 ∨ c = 5 ∨ c = 6 ∨ c = 7 ∨ c = 8 ∨ c = 9 ∨ c = 10 ∨ c = 11 ∨ c = 12 ∨ c = 13 ∨ c = 14 ∨ c = 15 ∨ c = 16 ∨ c = 17 ∨ c = 18 ∨ c = 19 ∨ c = 20 ∨ c = 21 ∨ c = 22 ∨ c = 23 := by omega
  rcases hc with rfl | rfl | rfl | rfl | rfl | rfl | rfl | rfl | rfl | rfl | rfl | rfl | rfl | rfl | rfl | rfl | rfl | rfl | rfl | rfl | rfl | rfl | rfl | rfl
  · rw [sl0]; exact sm ((SM.sx (by omega)).tr (SM.go k0))
  · rw [sl1]; exact sm ((SM.sx (by omega)).tr (SM.go k0))
  · rw [sl2]; exact sm (SM.cw k0)
  · rw [sl3]; exact sm (SM.cw k0)
  · rw [sl4]; exact sm (SM.wait k0)
  · rw [sl5]; exact sm (SM.cw k0)
  · rw [sl6]
    split <;> exact sm (SM.go k0)
  · rw [sl7]; exact sm (SM.go k0)
  · rw [sl8] at hg ⊢
    unfold sBelow at hg ⊢
    split at hg
    · rename_i h12
      rw [if_pos h12]
      exact (begin_lt (l := a) g1.1.1 w1 h12 k0 (by omega)).go k0
    · exact absurd hg (not_goes (Or.inl (by show ¬ ((1 : Int) = 0); decide)))
  · rw [sl9]; exact sm (SM.wait k0)
  · rw [sl10] at hg ⊢
    unfold sRace at hg ⊢
    split at hg
    · rename_i h12
      rw [if_pos h12]
      simp only
      have hb := begin_lt (l := a) g1.1.1 w1 h12 k0 (by omega)
      have b5 : sg (sBegin (sg (sGo k (sg s (2 + k) 4 + 1) s) (2 + k) 0) a (sGo k (sg s (2 + k) 4 + 1) s)) 0 5 = sg s 0 5 + 1 := by rw [begin_5, t5]
      refine LT.go (l := sg s (2 + k) 4 + 1) ?_ k0
      generalize sGo k (sg s (2 + k) 4 + 1) s = sa at *
      generalize sBegin (sg sa (2 + k) 0) a sa = s3 at hb b5
      have fin : ∀ s4 : TS, LT sa s4 k → LT sa (st (st s4 (2 + k) 3 (sg s4 (2 + sg sa 0 5) 0)) (2 + sg sa 0 5) 3 (sg s4 (2 + k) 0)) k := by
        intro s4 q
        unfold LT at q ⊢
        rw [find_st (by omega) (by omega), find_st (by omega) (by omega)]
        exact fun g => ⟨(q g).1, ((q g).2.st3 (by omega)).st3 (by omega)⟩
      have hfb := find_b (s := s3) (v := sg s3 (2 + k) 3)
      split
      · exact fin s3 hb
      · refine fin _ ?_
        unfold LT at hb ⊢
        rw [find_st (by omega) (by omega)]
        exact fun g => ⟨(hb g).1, (hb g).2.st3 (by omega)⟩
    · exact absurd hg (not_goes (Or.inl (by show ¬ ((1 : Int) = 0); decide)))
  · rw [sl11] at hg ⊢
    exact (win_lt hs g1 w1 k0 (by omega) (by rw [go_g, if_neg (by omega), if_neg (by omega)]; exact h30) hg).go k0
  · rw [sl12]; exact sm ((SM.go (l := sg s (2 + k) 4 + 1) k0).tr (SM.of (fun _ _ _ => rfl) rfl))
  · rw [sl13]; exact sm ((SM.go (l := sg s (2 + k) 4 + 1) k0).tr (SM.of (fun _ _ _ => rfl) rfl))
  · rw [sl14]
    have z : SM s (stu s ((1000 * a + sg s 1 b) :: su s)) k := SM.of (fun _ _ _ => rfl) rfl
    exact sm (z.tr (SM.go k0))
  · rw [sl15]
    unfold sUndo
    split
    · exact sm (SM.go k0)
    · rename_i v t hu
      have z : SM s (stu s t) k := SM.of (fun _ _ _ => rfl) rfl
      exact sm (z.tr (SM.cw k0))
  · rw [sl16] at hg ⊢; exact end_lt hs hN hP hW k0 k1 hg
  · rw [sl17]; exact sm (SM.fail k0)
  · rw [sl18]; exact sm (SM.endR (x := x) (c := 16) (a := sg s 1 a))
  · rw [sl19]
    have hp : SM s (sPatch x a s).2 k := by
      unfold sPatch
      split
      · split
        · exact (SM.sx (a := 0) (j := 7) (v := iOr (sg s 0 7) (iShl 1 a)) (by omega)).tr SM.cmd
        · exact SM.rf
      · exact SM.rf
    generalize hr : sPatch x a s = r at hp
    obtain ⟨r, s1⟩ := r
    exact sm (hp.tr (SM.go k0))
  · rw [sl20]; exact sm ((SM.sx (by omega)).tr (SM.go k0))
  · rw [sl21]; exact sm ((SM.sx (by omega)).tr (SM.go k0))
  · rw [sl22]
    have hb : SM s (sBare k s).2 k := by
      unfold sBare
      simp only
      generalize (if 0 < sg s (2 + k) 5 then sg s (2 + k) 5 - 1 else 0) = y
      split
      · exact (SM.sx (a := 2 + k) (j := 5) (v := y) (by omega)).tr (SM.sx (by omega))
      · exact (SM.sx (a := 2 + k) (j := 5) (v := y) (by omega)).tr (SM.sx (by omega))
    generalize hr : sBare k s = r at hb
    obtain ⟨r, s1⟩ := r
    simp only at hb ⊢
    have z := hb.tr (SM.go (l := sg s (2 + k) 4 + 1) k0)
    cases r with
    | false => exact sm z
    | true => exact sm (z.tr (SM.fail k0))
  · rw [sl23]; exact sm (SM.cmd.tr (SM.go k0))
/-- a turn at a line (not an awakening) -/
theorem turn_lt (hx : CodeW x) (hs : x.1 3 ≤ x.1 0) (hN : 0 ≤ x.1 0) (hl2 : x.1 5 ≤ 24) (hP : PI s) (hW : SW x s B) (k0 : 0 ≤ k) (k1 : k < sg s 0 5) (h7 : sg s (2 + k) 7 = 0) (h30 : sg s 0 30 = 0) (hg : goes (sTurn x k s) = true) : LT s (sTurn x k s) k := by
  have h6 := hW.2.2.2.2.2.1.1
  have hb4 := (hW.br k0 k1).2.1
  unfold sTurn at hg ⊢
  rw [if_neg (fun h => h h7)] at hg ⊢
  by_cases cl : x.1 5 ≤ sg s (2 + k) 4
  · rw [if_pos cl] at hg ⊢
    exact end_lt hs hN hP hW k0 k1 hg
  · rw [if_neg cl] at hg ⊢
    by_cases c6 : 60 ≤ sg s 0 29
    · rw [if_pos c6] at hg
      exact absurd hg (not_goes (Or.inl (by show ¬ ((1 : Int) = 0); decide)))
    · rw [if_neg c6] at hg ⊢
      have h29 := hW.2.2.2.2.2.2.1
      have v1 := (hW.s29 (v := sg s 0 29 + 1) (by omega) (by omega)).s0 (j := 40) (v := sg s 0 40 + 1) (by decide) (by decide) (by decide) (by decide) (by decide) (Or.inl (by decide))
      have hL := hx (sg s (2 + k) 4) hb4.1 (by omega)
      have es : ∀ p q : Int, (p ≠ 0 ∨ (q ≠ 29 ∧ q ≠ 40)) → sg (st (st s 0 29 (sg s 0 29 + 1)) 0 40 (sg s 0 40 + 1)) p q = sg s p q := fun p q hh => by rw [st_g, if_neg (by omega), st_g, if_neg (by omega)]
      have p1 : PI (st (st s 0 29 (sg s 0 29 + 1)) 0 40 (sg s 0 40 + 1)) := hP.of h6 fun a i hh => es a i (by omega)
      have z := line_lt (a := (x.2.2 (sg s (2 + k) 4)).2.1) (b := (x.2.2 (sg s (2 + k) 4)).2.2) hs hN hl2 p1 v1 k0 (by rw [es _ _ (by omega)]; exact k1) (by rw [es _ _ (by omega)]; omega) hL.1 hL.2.1 (by rw [es _ _ (by omega)]; exact h30) hg
      exact LT.sm (SM.of (fun a i hh => es a i (by omega)) rfl) z k0
theorem LOW.awake (hL : LOW s k) (hI : SI s) (k0 : 0 ≤ k) (k1 : k < sg s 0 5) (ha : sAble s k = true) (h7 : sg s (2 + k) 7 ≠ 0) : LOW (sAwake x k s) k := by
  have hgo : ∀ s1 : TS, (∀ a i : Int, a ≠ 1 → sg s1 a i = sg s a i) → (∀ n, sq s1 n ≠ [] → sq s n ≠ []) → LOW (sGo k (sg s (2 + k) 4 + 1) s1) k := by
    intro s1 q1 q2 j j0 j1
    have e : ∀ a i : Int, a ≠ 1 → a ≠ 2 + k → sg (sGo k (sg s (2 + k) 4 + 1) s1) a i = sg s a i := fun a i g1 g2 => by rw [go_g, if_neg (by omega), if_neg (by omega)]; exact q1 a i g1
    have hj := hL j j0 j1
    have hk : hasKid (sGo k (sg s (2 + k) 4 + 1) s1) (sg s (2 + j) 0) = hasKid s (sg s (2 + j) 0) := kid_same (e 0 5 (by omega) (by omega)) fun i i0 => by
      rw [go_g, if_neg (by omega), if_neg (by omega)]; exact q1 _ _ (by omega)
    unfold sAble at hj ⊢
    rw [e _ 7 (by omega) (by omega), e _ 8 (by omega) (by omega), e _ 0 (by omega) (by omega), hk]
    by_cases c1 : sg s (2 + j) 7 = 0
    · rw [if_pos c1] at hj; cases hj
    · rw [if_neg c1] at hj ⊢
      by_cases c2 : sg s (2 + j) 7 = 3
      · rw [if_pos c2] at hj ⊢
        have : sq s (sg s (2 + j) 8) = [] := by
          by_cases z : sq s (sg s (2 + j) 8) = []
          · exact z
          · simp [z] at hj
        have z2 : sq s1 (sg s (2 + j) 8) = [] := by
          by_cases z : sq s1 (sg s (2 + j) 8) = []
          · exact z
          · exact absurd this (q2 _ z)
        have z3 : sq (sGo k (sg s (2 + k) 4 + 1) s1) (sg s (2 + j) 8) = [] := z2
        simp [z3]
      · rw [if_neg c2] at hj ⊢
        exact hj
  unfold sAwake
  split
  · rename_i c3
    refine hgo (stq (st s 1 (bOf x (sg s (2 + k) 4)) ((sq s (sg s (2 + k) 8)).headD 0)) (sg s (2 + k) 8) (sq s (sg s (2 + k) 8)).tail) (fun a i ha => by show sg (st s 1 _ _) a i = _; rw [st_g, if_neg (by omega)]) fun n hn => ?_
    have hn' : (if n = sg s (2 + k) 8 then (sq s (sg s (2 + k) 8)).tail else sq s n) ≠ [] := hn
    by_cases c : n = sg s (2 + k) 8
    · rw [if_pos c] at hn'
      rw [c]
      intro z
      rw [z] at hn'
      exact hn' rfl
    · rw [if_neg c] at hn'
      exact hn'
  · exact hgo s (fun _ _ _ => rfl) (fun _ h => h)
theorem first_low (hL : LOW s k) (k0 : 0 ≤ k) (k1 : k < sg s 0 5) (h5 : sg s 0 5 ≤ 12) (ha : sAble s k = true) : first s = k := by
  have key : ∀ (n : Nat) (j : Int), 0 ≤ j → j ≤ k → k < j + n → sFirst s n j = k := by
    intro n
    induction n with
    | zero => intro j j0 j1 j2; omega
    | succ n ih =>
      intro j j0 j1 j2
      unfold sFirst
      rw [if_pos (by omega)]
      by_cases c : j = k
      · rw [c, if_pos ha]
      · rw [if_neg (by rw [hL j j0 (by omega)]; decide)]
        exact ih _ (by omega) (by omega) (by omega)
  exact key 12 0 (by decide) k0 (by omega)
theorem first_none (hL : LOW s k) (h : sg s 0 5 ≤ k) : first s = -1 := by
  have key : ∀ (n : Nat) (j : Int), 0 ≤ j → sFirst s n j = -1 := by
    intro n
    induction n with
    | zero => intro j _; rfl
    | succ n ih =>
      intro j j0
      unfold sFirst
      by_cases c : j < sg s 0 5
      · rw [if_pos c, if_neg (by rw [hL j j0 (by omega)]; decide)]
        exact ih _ (by omega)
      · rw [if_neg c]
  exact key 12 0 (by decide)
end LO2
