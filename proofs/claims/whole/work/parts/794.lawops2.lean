/-! THE LAW: the two steps of another form. -/
section LWP
variable {m m' M m1 m2 : MM} {ow : Int → Int} {ad : Int → Int → Int} {e e' : ES} {a b k i j y v w p s x n P : Int} {xs : List Int32} {c : Int → MM → Option (Int × MM)}
theorem op_runs (C : CE m ow ad e) (hR : RXE m e) (hP : P113 m) (hy : 0 ≤ y ∧ y + 7 ≤ (xs.length : Int) ∧ (xs.length : Int) < 1000000) : ∃ m', fj_L_law_1144 xs c y m = c (y + 7) m' ∧ RLm m' e := by
  obtain ⟨v, m1, g1, g2, g3, -⟩ := x_runs hR C.cn
  obtain ⟨hv, -⟩ := g3 _ rfl
  have fr := fw_X12_runs hP.1 g1
  refine ⟨m1, ?_, ow, ad, C.rfx (by decide +kernel) fr ((fr.2.2.2.2 (by decide +kernel)).2.2.trans C.m1), g2, hP.fr fr (by decide +kernel)⟩
  unfold fj_L_law_1144
  rw [bp_t (c_runs C), bd_t g1, if_pos hv.symm, lx_p, w32_id (z := y + 7) (by omega) (by omega)]
theorem op_fail (C : CE m ow ad e) (hR : RXE m e) (hP : P113 m) (hy : 0 ≤ y ∧ y + 7 ≤ (xs.length : Int) ∧ (xs.length : Int) < 1000000) (hp : P = if scr xs (y + 2) = 0 then 0 else 1) (hc : OKc e ad (fm_X11_fail (scr xs (y + 1)) P m) (pcFail (scr xs (y + 1)) P e)) (hx : ∀ m1, RXE m1 e → P113 m1 → OKr (fm_X12_fail (scr xs (y + 1)) P m1) cd1 (pcFail (scr xs (y + 1)) P e)) (hq : ∀ q, (pcFail (scr xs (y + 1)) P e).1 = .inr q → q = 0) (hb : ∀ z, (pcFail (scr xs (y + 1)) P e).1 = .inl z → z = 0 ∨ z = 1) : ∃ m', fj_L_law_1568 xs c y m = c (y + 7) m' ∧ RLm m' (pcFail (scr xs (y + 1)) P e).2 := by
  have hX : ∀ q, (pcFail (scr xs (y + 1)) P e).1 = .inr q → cd1 q ≠ 0 ∧ ∀ M, (fun q_12 m_5 => if q_12 = 0 then some (1, m_5) else none : Nat → MM → Option (Int × MM)) q M = some (cd1 q, M) := fun q hh => by
    have hh2 := hq q hh
    subst hh2
    exact ⟨by decide, fun M => rfl⟩
  obtain ⟨x48, m49, x92, m93, g1, g2, g3, g4, g5⟩ := law_step (W1 := fW_X11_fail) (W2 := fW_X12_fail) (F12 := fun M => fm_X12_fail (scr xs (y + 1)) P M) C hR hP hc hX (fun rr rm h => fw_X11_fail hP.1 h) (by decide +kernel) hx (fun m1 rz rm hF h => fw_X12_fail hF h) (by decide +kernel) (fun m1 rz rm h1 _ h => h1.fr (fw_X12_fail h1.1 h) (by decide +kernel))
  have hA : fm_L_fail (scr xs (y + 1)) P m = some (x48, m49) := by
    unfold fm_L_fail
    refine (bx_b fun z M hh => ?_).trans g1
    obtain ⟨mq, aq, hq1, -⟩ := hc
    rw [hq1] at hh
    exact hb z (Prod.ext_iff.mp (Option.some.inj hh)).1
  refine ⟨m93, ?_, g5⟩
  have w1 : w32 (y + 1) = y + 1 := w32_id (by omega) (by omega)
  have w2 : w32 (y + 2) = y + 2 := w32_id (by omega) (by omega)
  have w7 : w32 (y + 7) = y + 7 := w32_id (by omega) (by omega)
  have ht : fm_X12_thrown m93 = some x48 := by
    unfold fm_X12_thrown
    rw [lx_p, g3]
  have g2' : fm_X12_fail (scr xs (y + 1)) P m49 = some (x92, m93) := g2
  have h16 : fj_L_law_1616 xs c y x48 P (scr xs (y + 1)) m49 = c (y + 7) m93 := by
    unfold fj_L_law_1616
    rw [bd_t g2', bp_t ht, if_pos rfl]
    by_cases c0 : x48 = 0
    · obtain ⟨h1, h2⟩ := g4 c0
      rw [if_pos c0, lx_p, h1]
      rcases hb _ h2 with h2 | h2
      · rw [if_pos h2]
        unfold fj_L_law_1650
        rw [if_pos h2, lx_p, w7]
      · rw [if_neg (by omega)]
        unfold fj_L_law_1650
        rw [if_pos h2, lx_p, w7]
    · rw [if_neg c0, lx_p, w7]
  have h15 : fj_L_law_1589 xs c y P (scr xs (y + 1)) m = c (y + 7) m93 := by
    unfold fj_L_law_1589
    simp only [w1, w2]
    rw [bd_t hA, gd_t (show 0 ≤ y + 1 ∧ y + 1 < (xs.length : Int) by omega), gd_t (show 0 ≤ y + 2 ∧ y + 2 < (xs.length : Int) by omega)]
    by_cases c2 : scr xs (y + 2) = 0
    · rw [if_pos c2] at hp
      subst hp
      rw [if_pos c2]
      exact h16
    · rw [if_neg c2] at hp
      subst hp
      rw [if_neg c2]
      exact h16
  unfold fj_L_law_1568
  simp only [w1, w2]
  rw [gd_t (show 0 ≤ y + 1 ∧ y + 1 < (xs.length : Int) by omega), gd_t (show 0 ≤ y + 2 ∧ y + 2 < (xs.length : Int) by omega)]
  by_cases c2 : scr xs (y + 2) = 0
  · rw [if_pos c2] at hp
    subst hp
    rw [if_pos c2]
    exact h15
  · rw [if_neg c2] at hp
    subst hp
    rw [if_neg c2]
    exact h15
end LWP
