/-! THE LAW: a step, and how many objects there are (written by wip/whole/gen/gen952.py from 793, 794). -/
section OCLWO
variable {m m' M m1 m2 : MM} {ow : Int → Int} {ad : Int → Int → Int} {e e' : ES} {a b k i j y v w p s x n : Int} {xs : List Int32} {c : Int → MM → Option (Int × MM)}
theorem oc_line (C : CE m ow ad e) (hR : RXE m e) (hP : P113 m) (hy : 0 ≤ y ∧ y + 7 ≤ (xs.length : Int) ∧ (xs.length : Int) < 1000000) (hc : OKc e ad (fm_X11_line (scr xs (y + 1)) (scr xs (y + 2)) (scr xs (y + 3)) (scr xs (y + 4)) m) (pcLine (scr xs (y + 1)) (scr xs (y + 2)) (scr xs (y + 3)) (scr xs (y + 4)) e)) (hx : ∀ m1, RXE m1 e → P113 m1 → OKr (fm_X12_line (scr xs (y + 1)) (scr xs (y + 2)) (scr xs (y + 3)) (scr xs (y + 4)) m1) cd3 (pcLine (scr xs (y + 1)) (scr xs (y + 2)) (scr xs (y + 3)) (scr xs (y + 4)) e)) (hq : ∀ q, (pcLine (scr xs (y + 1)) (scr xs (y + 2)) (scr xs (y + 3)) (scr xs (y + 4)) e).1 = .inr q → q = 0 ∨ q = 1 ∨ q = 2) : ∃ m', fj_L_law_204 xs c y m = c (y + 7) m' ∧ (∀ (g : Int → Int → Int) (D : Int), GOK g → OWk g D m → OWk g (D + g 99 0) m') ∧ RLm m' (pcLine (scr xs (y + 1)) (scr xs (y + 2)) (scr xs (y + 3)) (scr xs (y + 4)) e).2 := by
  have hX : ∀ q, (pcLine (scr xs (y + 1)) (scr xs (y + 2)) (scr xs (y + 3)) (scr xs (y + 4)) e).1 = .inr q → cd3 q ≠ 0 ∧ ∀ M, (fun q_12 m_5 => if q_12 = 0 then some (1, m_5) else if q_12 = 1 then some (2, m_5) else if q_12 = 2 then some (3, m_5) else none : Nat → MM → Option (Int × MM)) q M = some (cd3 q, M) := fun q hh => by
    have hh2 := hq q hh
    refine ⟨?_, fun M => ?_⟩
    · rcases hh2 with rfl | rfl | rfl <;> decide
    · rcases hh2 with rfl | rfl | rfl <;> rfl
  obtain ⟨x48, m49, x92, m93, g1, g2, g3, g4, g5⟩ := law_step (W1 := fW_X11_line) (W2 := fW_X12_line) (F12 := fun M => fm_X12_line (scr xs (y + 1)) (scr xs (y + 2)) (scr xs (y + 3)) (scr xs (y + 4)) M) C hR hP hc hX (fun rr rm h => fw_X11_line hP.1 h) (by decide +kernel) hx (fun m1 rz rm hF h => fw_X12_line hF h) (by decide +kernel) (fun m1 rz rm h1 _ h => h1.fr (fw_X12_line h1.1 h) (by decide +kernel))
  have hA : fm_L_line (scr xs (y + 1)) (scr xs (y + 2)) (scr xs (y + 3)) (scr xs (y + 4)) m = some (x48, m49) := g1
  refine ⟨m93, ?_, fun gg D' hg h => ((kw_X12_line (kw_L_line hP.1 hA).fix g2).2 gg _ hg ((kw_L_line hP.1 hA).2 gg _ hg h)).mono (by (try dsimp only); omega), g5⟩
  unfold fj_L_law_204
  simp only [show w32 (y + 1) = y + 1 from w32_id (by omega) (by omega), show w32 (y + 2) = y + 2 from w32_id (by omega) (by omega), show w32 (y + 3) = y + 3 from w32_id (by omega) (by omega), show w32 (y + 4) = y + 4 from w32_id (by omega) (by omega)]
  rw [gd_t (show 0 ≤ y + 1 ∧ y + 1 < (xs.length : Int) by omega), gd_t (show 0 ≤ y + 2 ∧ y + 2 < (xs.length : Int) by omega), gd_t (show 0 ≤ y + 3 ∧ y + 3 < (xs.length : Int) by omega), gd_t (show 0 ≤ y + 4 ∧ y + 4 < (xs.length : Int) by omega)]
  exact law_shape (y := y) (B := fun M => fm_X12_line (scr xs (y + 1)) (scr xs (y + 2)) (scr xs (y + 3)) (scr xs (y + 4)) M) g1 g2 g3 g4 (by omega)
theorem oc_deploy (C : CE m ow ad e) (hR : RXE m e) (hP : P113 m) (hy : 0 ≤ y ∧ y + 7 ≤ (xs.length : Int) ∧ (xs.length : Int) < 1000000) (hc : OKc e ad (fm_X11_deploy (scr xs (y + 1)) m) (pcDeploy (scr xs (y + 1)) e)) (hx : ∀ m1, RXE m1 e → P113 m1 → OKr (fm_X12_deploy (scr xs (y + 1)) m1) cdS (pcDeploy (scr xs (y + 1)) e)) (hq : ∀ q, (pcDeploy (scr xs (y + 1)) e).1 = .inr q → q = 0 ∨ q = 2) : ∃ m', fj_L_law_296 xs c y m = c (y + 7) m' ∧ (∀ (g : Int → Int → Int) (D : Int), GOK g → OWk g D m → OWk g (D + g 99 0) m') ∧ RLm m' (pcDeploy (scr xs (y + 1)) e).2 := by
  have hX : ∀ q, (pcDeploy (scr xs (y + 1)) e).1 = .inr q → cdS q ≠ 0 ∧ ∀ M, (fun q_12 m_5 => if q_12 = 0 then some (1, m_5) else if q_12 = 2 then some (2, m_5) else none : Nat → MM → Option (Int × MM)) q M = some (cdS q, M) := fun q hh => by
    have hh2 := hq q hh
    refine ⟨?_, fun M => ?_⟩
    · rcases hh2 with rfl | rfl <;> decide
    · rcases hh2 with rfl | rfl <;> rfl
  obtain ⟨x48, m49, x92, m93, g1, g2, g3, g4, g5⟩ := law_step (W1 := fW_X11_deploy) (W2 := fW_X12_deploy) (F12 := fun M => fm_X12_deploy (scr xs (y + 1)) M) C hR hP hc hX (fun rr rm h => fw_X11_deploy hP.1 h) (by decide +kernel) hx (fun m1 rz rm hF h => fw_X12_deploy hF h) (by decide +kernel) (fun m1 rz rm h1 _ h => h1.fr (fw_X12_deploy h1.1 h) (by decide +kernel))
  have hA : fm_L_deploy (scr xs (y + 1)) m = some (x48, m49) := g1
  refine ⟨m93, ?_, fun gg D' hg h => ((kw_X12_deploy (kw_L_deploy hP.1 hA).fix g2).2 gg _ hg ((kw_L_deploy hP.1 hA).2 gg _ hg h)).mono (by (try dsimp only); omega), g5⟩
  unfold fj_L_law_296
  simp only [show w32 (y + 1) = y + 1 from w32_id (by omega) (by omega)]
  rw [gd_t (show 0 ≤ y + 1 ∧ y + 1 < (xs.length : Int) by omega)]
  exact law_shape (y := y) (B := fun M => fm_X12_deploy (scr xs (y + 1)) M) g1 g2 g3 g4 (by omega)
theorem oc_setPolicy (C : CE m ow ad e) (hR : RXE m e) (hP : P113 m) (hy : 0 ≤ y ∧ y + 7 ≤ (xs.length : Int) ∧ (xs.length : Int) < 1000000) (hc : OKc e ad (fm_X11_setPolicy (scr xs (y + 1)) (scr xs (y + 2)) m) (pcSetPolicy (scr xs (y + 1)) (scr xs (y + 2)) e)) (hx : ∀ m1, RXE m1 e → P113 m1 → OKr (fm_X12_setPolicy (scr xs (y + 1)) (scr xs (y + 2)) m1) cd3 (pcSetPolicy (scr xs (y + 1)) (scr xs (y + 2)) e)) (hq : ∀ q, (pcSetPolicy (scr xs (y + 1)) (scr xs (y + 2)) e).1 = .inr q → q = 0 ∨ q = 1) : ∃ m', fj_L_law_450 xs c y m = c (y + 7) m' ∧ (∀ (g : Int → Int → Int) (D : Int), GOK g → OWk g D m → OWk g (D + g 99 0) m') ∧ RLm m' (pcSetPolicy (scr xs (y + 1)) (scr xs (y + 2)) e).2 := by
  have hX : ∀ q, (pcSetPolicy (scr xs (y + 1)) (scr xs (y + 2)) e).1 = .inr q → cd3 q ≠ 0 ∧ ∀ M, (fun q_12 m_5 => if q_12 = 0 then some (1, m_5) else if q_12 = 1 then some (2, m_5) else none : Nat → MM → Option (Int × MM)) q M = some (cd3 q, M) := fun q hh => by
    have hh2 := hq q hh
    refine ⟨?_, fun M => ?_⟩
    · rcases hh2 with rfl | rfl <;> decide
    · rcases hh2 with rfl | rfl <;> rfl
  obtain ⟨x48, m49, x92, m93, g1, g2, g3, g4, g5⟩ := law_step (W1 := fW_X11_setPolicy) (W2 := fW_X12_setPolicy) (F12 := fun M => fm_X12_setPolicy (scr xs (y + 1)) (scr xs (y + 2)) M) C hR hP hc hX (fun rr rm h => fw_X11_setPolicy hP.1 h) (by decide +kernel) hx (fun m1 rz rm hF h => fw_X12_setPolicy hF h) (by decide +kernel) (fun m1 rz rm h1 _ h => h1.fr (fw_X12_setPolicy h1.1 h) (by decide +kernel))
  have hA : fm_L_setPolicy (scr xs (y + 1)) (scr xs (y + 2)) m = some (x48, m49) := g1
  refine ⟨m93, ?_, fun gg D' hg h => ((kw_X12_setPolicy (kw_L_setPolicy hP.1 hA).fix g2).2 gg _ hg ((kw_L_setPolicy hP.1 hA).2 gg _ hg h)).mono (by (try dsimp only); omega), g5⟩
  unfold fj_L_law_450
  simp only [show w32 (y + 1) = y + 1 from w32_id (by omega) (by omega), show w32 (y + 2) = y + 2 from w32_id (by omega) (by omega)]
  rw [gd_t (show 0 ≤ y + 1 ∧ y + 1 < (xs.length : Int) by omega), gd_t (show 0 ≤ y + 2 ∧ y + 2 < (xs.length : Int) by omega)]
  exact law_shape (y := y) (B := fun M => fm_X12_setPolicy (scr xs (y + 1)) (scr xs (y + 2)) M) g1 g2 g3 g4 (by omega)
theorem oc_setKind (C : CE m ow ad e) (hR : RXE m e) (hP : P113 m) (hy : 0 ≤ y ∧ y + 7 ≤ (xs.length : Int) ∧ (xs.length : Int) < 1000000) (hc : OKc e ad (fm_X11_setKind (scr xs (y + 1)) (scr xs (y + 2)) (scr xs (y + 3)) (scr xs (y + 4)) (scr xs (y + 5)) (scr xs (y + 6)) m) (pcSetKind (scr xs (y + 1)) (scr xs (y + 2)) (scr xs (y + 3)) (scr xs (y + 4)) (scr xs (y + 5)) (scr xs (y + 6)) e)) (hx : ∀ m1, RXE m1 e → P113 m1 → OKr (fm_X12_setKind (scr xs (y + 1)) (scr xs (y + 2)) (scr xs (y + 3)) (scr xs (y + 4)) (scr xs (y + 5)) (scr xs (y + 6)) m1) cd3 (pcSetKind (scr xs (y + 1)) (scr xs (y + 2)) (scr xs (y + 3)) (scr xs (y + 4)) (scr xs (y + 5)) (scr xs (y + 6)) e)) (hq : ∀ q, (pcSetKind (scr xs (y + 1)) (scr xs (y + 2)) (scr xs (y + 3)) (scr xs (y + 4)) (scr xs (y + 5)) (scr xs (y + 6)) e).1 = .inr q → q = 0 ∨ q = 1) : ∃ m', fj_L_law_352 xs c y m = c (y + 7) m' ∧ (∀ (g : Int → Int → Int) (D : Int), GOK g → OWk g D m → OWk g (D + g 99 0) m') ∧ RLm m' (pcSetKind (scr xs (y + 1)) (scr xs (y + 2)) (scr xs (y + 3)) (scr xs (y + 4)) (scr xs (y + 5)) (scr xs (y + 6)) e).2 := by
  have hX : ∀ q, (pcSetKind (scr xs (y + 1)) (scr xs (y + 2)) (scr xs (y + 3)) (scr xs (y + 4)) (scr xs (y + 5)) (scr xs (y + 6)) e).1 = .inr q → cd3 q ≠ 0 ∧ ∀ M, (fun q_12 m_5 => if q_12 = 0 then some (1, m_5) else if q_12 = 1 then some (2, m_5) else none : Nat → MM → Option (Int × MM)) q M = some (cd3 q, M) := fun q hh => by
    have hh2 := hq q hh
    refine ⟨?_, fun M => ?_⟩
    · rcases hh2 with rfl | rfl <;> decide
    · rcases hh2 with rfl | rfl <;> rfl
  obtain ⟨x48, m49, x92, m93, g1, g2, g3, g5⟩ := law_stepV (W1 := fW_X11_setKind) (W2 := fW_X12_setKind) (F12 := fun M => fm_X12_setKind (scr xs (y + 1)) (scr xs (y + 2)) (scr xs (y + 3)) (scr xs (y + 4)) (scr xs (y + 5)) (scr xs (y + 6)) M) C hR hP hc hX (fun rr rm h => fw_X11_setKind hP.1 h) (by decide +kernel) hx (fun m1 rz rm hF h => fw_X12_setKind hF h) (by decide +kernel) (fun m1 rz rm h1 _ h => h1.fr (fw_X12_setKind h1.1 h) (by decide +kernel))
  have hA : fm_L_setKind (scr xs (y + 1)) (scr xs (y + 2)) (scr xs (y + 3)) (scr xs (y + 4)) (scr xs (y + 5)) (scr xs (y + 6)) m = some (x48, m49) := g1
  refine ⟨m93, ?_, fun gg D' hg h => ((kw_X12_setKind (kw_L_setKind hP.1 hA).fix g2).2 gg _ hg ((kw_L_setKind hP.1 hA).2 gg _ hg h)).mono (by (try dsimp only); omega), g5⟩
  unfold fj_L_law_352
  simp only [show w32 (y + 1) = y + 1 from w32_id (by omega) (by omega), show w32 (y + 2) = y + 2 from w32_id (by omega) (by omega), show w32 (y + 3) = y + 3 from w32_id (by omega) (by omega), show w32 (y + 4) = y + 4 from w32_id (by omega) (by omega), show w32 (y + 5) = y + 5 from w32_id (by omega) (by omega), show w32 (y + 6) = y + 6 from w32_id (by omega) (by omega)]
  rw [gd_t (show 0 ≤ y + 1 ∧ y + 1 < (xs.length : Int) by omega), gd_t (show 0 ≤ y + 2 ∧ y + 2 < (xs.length : Int) by omega), gd_t (show 0 ≤ y + 3 ∧ y + 3 < (xs.length : Int) by omega), gd_t (show 0 ≤ y + 4 ∧ y + 4 < (xs.length : Int) by omega), gd_t (show 0 ≤ y + 5 ∧ y + 5 < (xs.length : Int) by omega), gd_t (show 0 ≤ y + 6 ∧ y + 6 < (xs.length : Int) by omega)]
  exact law_shapeV (y := y) (B := fun M => fm_X12_setKind (scr xs (y + 1)) (scr xs (y + 2)) (scr xs (y + 3)) (scr xs (y + 4)) (scr xs (y + 5)) (scr xs (y + 6)) M) g1 g2 g3 (by omega)
theorem oc_begin (C : CE m ow ad e) (hR : RXE m e) (hP : P113 m) (hy : 0 ≤ y ∧ y + 7 ≤ (xs.length : Int) ∧ (xs.length : Int) < 1000000) (hc : OKc e ad (fm_X11_begin (scr xs (y + 1)) (scr xs (y + 2)) (scr xs (y + 3)) m) (pcBegin (scr xs (y + 1)) (scr xs (y + 2)) (scr xs (y + 3)) e)) (hx : ∀ m1, RXE m1 e → P113 m1 → OKr (fm_X12_begin (scr xs (y + 1)) (scr xs (y + 2)) (scr xs (y + 3)) m1) cd3 (pcBegin (scr xs (y + 1)) (scr xs (y + 2)) (scr xs (y + 3)) e)) (hq : ∀ q, (pcBegin (scr xs (y + 1)) (scr xs (y + 2)) (scr xs (y + 3)) e).1 = .inr q → q = 0 ∨ q = 1 ∨ q = 2) : ∃ m', fj_L_law_518 xs c y m = c (y + 7) m' ∧ (∀ (g : Int → Int → Int) (D : Int), GOK g → OWk g D m → OWk g (D + g 99 0) m') ∧ RLm m' (pcBegin (scr xs (y + 1)) (scr xs (y + 2)) (scr xs (y + 3)) e).2 := by
  have hX : ∀ q, (pcBegin (scr xs (y + 1)) (scr xs (y + 2)) (scr xs (y + 3)) e).1 = .inr q → cd3 q ≠ 0 ∧ ∀ M, (fun q_12 m_5 => if q_12 = 0 then some (1, m_5) else if q_12 = 1 then some (2, m_5) else if q_12 = 2 then some (3, m_5) else none : Nat → MM → Option (Int × MM)) q M = some (cd3 q, M) := fun q hh => by
    have hh2 := hq q hh
    refine ⟨?_, fun M => ?_⟩
    · rcases hh2 with rfl | rfl | rfl <;> decide
    · rcases hh2 with rfl | rfl | rfl <;> rfl
  obtain ⟨x48, m49, x92, m93, g1, g2, g3, g4, g5⟩ := law_step (W1 := fW_X11_begin) (W2 := fW_X12_begin) (F12 := fun M => fm_X12_begin (scr xs (y + 1)) (scr xs (y + 2)) (scr xs (y + 3)) M) C hR hP hc hX (fun rr rm h => fw_X11_begin hP.1 h) (by decide +kernel) hx (fun m1 rz rm hF h => fw_X12_begin hF h) (by decide +kernel) (fun m1 rz rm h1 _ h => h1.fr (fw_X12_begin h1.1 h) (by decide +kernel))
  have hA : fm_L_begin (scr xs (y + 1)) (scr xs (y + 2)) (scr xs (y + 3)) m = some (x48, m49) := g1
  refine ⟨m93, ?_, fun gg D' hg h => ((kw_X12_begin (kw_L_begin hP.1 hA).fix g2).2 gg _ hg ((kw_L_begin hP.1 hA).2 gg _ hg h)).mono (by (try dsimp only); omega), g5⟩
  unfold fj_L_law_518
  simp only [show w32 (y + 1) = y + 1 from w32_id (by omega) (by omega), show w32 (y + 2) = y + 2 from w32_id (by omega) (by omega), show w32 (y + 3) = y + 3 from w32_id (by omega) (by omega)]
  rw [gd_t (show 0 ≤ y + 1 ∧ y + 1 < (xs.length : Int) by omega), gd_t (show 0 ≤ y + 2 ∧ y + 2 < (xs.length : Int) by omega), gd_t (show 0 ≤ y + 3 ∧ y + 3 < (xs.length : Int) by omega)]
  exact law_shape (y := y) (B := fun M => fm_X12_begin (scr xs (y + 1)) (scr xs (y + 2)) (scr xs (y + 3)) M) g1 g2 g3 g4 (by omega)
theorem oc_signal (C : CE m ow ad e) (hR : RXE m e) (hP : P113 m) (hy : 0 ≤ y ∧ y + 7 ≤ (xs.length : Int) ∧ (xs.length : Int) < 1000000) (hc : OKc e ad (fm_X11_signal (scr xs (y + 1)) (scr xs (y + 2)) (scr xs (y + 3)) m) (pcSignal (scr xs (y + 1)) (scr xs (y + 2)) (scr xs (y + 3)) e)) (hx : ∀ m1, RXE m1 e → P113 m1 → OKr (fm_X12_signal (scr xs (y + 1)) (scr xs (y + 2)) (scr xs (y + 3)) m1) cd3 (pcSignal (scr xs (y + 1)) (scr xs (y + 2)) (scr xs (y + 3)) e)) (hq : ∀ q, (pcSignal (scr xs (y + 1)) (scr xs (y + 2)) (scr xs (y + 3)) e).1 = .inr q → q = 0 ∨ q = 1 ∨ q = 2) : ∃ m', fj_L_law_598 xs c y m = c (y + 7) m' ∧ (∀ (g : Int → Int → Int) (D : Int), GOK g → OWk g D m → OWk g (D + g 99 0) m') ∧ RLm m' (pcSignal (scr xs (y + 1)) (scr xs (y + 2)) (scr xs (y + 3)) e).2 := by
  have hX : ∀ q, (pcSignal (scr xs (y + 1)) (scr xs (y + 2)) (scr xs (y + 3)) e).1 = .inr q → cd3 q ≠ 0 ∧ ∀ M, (fun q_12 m_5 => if q_12 = 0 then some (1, m_5) else if q_12 = 1 then some (2, m_5) else if q_12 = 2 then some (3, m_5) else none : Nat → MM → Option (Int × MM)) q M = some (cd3 q, M) := fun q hh => by
    have hh2 := hq q hh
    refine ⟨?_, fun M => ?_⟩
    · rcases hh2 with rfl | rfl | rfl <;> decide
    · rcases hh2 with rfl | rfl | rfl <;> rfl
  obtain ⟨x48, m49, x92, m93, g1, g2, g3, g4, g5⟩ := law_step (W1 := fW_X11_signal) (W2 := fW_X12_signal) (F12 := fun M => fm_X12_signal (scr xs (y + 1)) (scr xs (y + 2)) (scr xs (y + 3)) M) C hR hP hc hX (fun rr rm h => fw_X11_signal hP.1 h) (by decide +kernel) hx (fun m1 rz rm hF h => fw_X12_signal hF h) (by decide +kernel) (fun m1 rz rm h1 _ h => h1.fr (fw_X12_signal h1.1 h) (by decide +kernel))
  have hA : fm_L_signal (scr xs (y + 1)) (scr xs (y + 2)) (scr xs (y + 3)) m = some (x48, m49) := g1
  refine ⟨m93, ?_, fun gg D' hg h => ((kw_X12_signal (kw_L_signal hP.1 hA).fix g2).2 gg _ hg ((kw_L_signal hP.1 hA).2 gg _ hg h)).mono (by (try dsimp only); omega), g5⟩
  unfold fj_L_law_598
  simp only [show w32 (y + 1) = y + 1 from w32_id (by omega) (by omega), show w32 (y + 2) = y + 2 from w32_id (by omega) (by omega), show w32 (y + 3) = y + 3 from w32_id (by omega) (by omega)]
  rw [gd_t (show 0 ≤ y + 1 ∧ y + 1 < (xs.length : Int) by omega), gd_t (show 0 ≤ y + 2 ∧ y + 2 < (xs.length : Int) by omega), gd_t (show 0 ≤ y + 3 ∧ y + 3 < (xs.length : Int) by omega)]
  exact law_shape (y := y) (B := fun M => fm_X12_signal (scr xs (y + 1)) (scr xs (y + 2)) (scr xs (y + 3)) M) g1 g2 g3 g4 (by omega)
theorem oc_cancel (C : CE m ow ad e) (hR : RXE m e) (hP : P113 m) (hy : 0 ≤ y ∧ y + 7 ≤ (xs.length : Int) ∧ (xs.length : Int) < 1000000) (hc : OKc e ad (fm_X11_cancel (scr xs (y + 1)) m) (pcCancel (scr xs (y + 1)) e)) (hx : ∀ m1, RXE m1 e → P113 m1 → OKr (fm_X12_cancel (scr xs (y + 1)) m1) cdS (pcCancel (scr xs (y + 1)) e)) (hq : ∀ q, (pcCancel (scr xs (y + 1)) e).1 = .inr q → q = 0 ∨ q = 2) (hb : ∀ z, (pcCancel (scr xs (y + 1)) e).1 = .inl z → z = 0 ∨ z = 1) : ∃ m', fj_L_law_765 xs c y m = c (y + 7) m' ∧ (∀ (g : Int → Int → Int) (D : Int), GOK g → OWk g D m → OWk g (D + g 99 0) m') ∧ RLm m' (pcCancel (scr xs (y + 1)) e).2 := by
  have hX : ∀ q, (pcCancel (scr xs (y + 1)) e).1 = .inr q → cdS q ≠ 0 ∧ ∀ M, (fun q_12 m_5 => if q_12 = 0 then some (1, m_5) else if q_12 = 2 then some (2, m_5) else none : Nat → MM → Option (Int × MM)) q M = some (cdS q, M) := fun q hh => by
    have hh2 := hq q hh
    refine ⟨?_, fun M => ?_⟩
    · rcases hh2 with rfl | rfl <;> decide
    · rcases hh2 with rfl | rfl <;> rfl
  obtain ⟨x48, m49, x92, m93, g1, g2, g3, g4, g5⟩ := law_step (W1 := fW_X11_cancel) (W2 := fW_X12_cancel) (F12 := fun M => fm_X12_cancel (scr xs (y + 1)) M) C hR hP hc hX (fun rr rm h => fw_X11_cancel hP.1 h) (by decide +kernel) hx (fun m1 rz rm hF h => fw_X12_cancel hF h) (by decide +kernel) (fun m1 rz rm h1 _ h => h1.fr (fw_X12_cancel h1.1 h) (by decide +kernel))
  have hA : fm_L_cancel (scr xs (y + 1)) m = some (x48, m49) := by
    unfold fm_L_cancel
    refine (bx_b fun z M hh => ?_).trans g1
    obtain ⟨mq, aq, hq1, -⟩ := hc
    rw [hq1] at hh
    exact hb z (Prod.ext_iff.mp (Option.some.inj hh)).1
  refine ⟨m93, ?_, fun gg D' hg h => ((kw_X12_cancel (kw_L_cancel hP.1 hA).fix g2).2 gg _ hg ((kw_L_cancel hP.1 hA).2 gg _ hg h)).mono (by (try dsimp only); omega), g5⟩
  unfold fj_L_law_765
  simp only [show w32 (y + 1) = y + 1 from w32_id (by omega) (by omega)]
  rw [gd_t (show 0 ≤ y + 1 ∧ y + 1 < (xs.length : Int) by omega)]
  exact law_shapeB (y := y) (J := fun s x M => fj_L_law_819 xs c y s x M) (B := fun M => fm_X12_cancel (scr xs (y + 1)) M) (fun s x M => rfl) hA g2 g3 (fun h0 => ⟨(g4 h0).1, hb _ (g4 h0).2⟩) (by omega)
theorem oc_event (C : CE m ow ad e) (hR : RXE m e) (hP : P113 m) (hy : 0 ≤ y ∧ y + 7 ≤ (xs.length : Int) ∧ (xs.length : Int) < 1000000) (hc : OKc e ad (fm_X11_event (scr xs (y + 1)) (scr xs (y + 2)) m) (pcEvent (scr xs (y + 1)) (scr xs (y + 2)) e)) (hx : ∀ m1, RXE m1 e → P113 m1 → OKr (fm_X12_event (scr xs (y + 1)) (scr xs (y + 2)) m1) cd1 (pcEvent (scr xs (y + 1)) (scr xs (y + 2)) e)) (hq : ∀ q, (pcEvent (scr xs (y + 1)) (scr xs (y + 2)) e).1 = .inr q → q = 0) : ∃ m', fj_L_law_1020 xs c y m = c (y + 7) m' ∧ (∀ (g : Int → Int → Int) (D : Int), GOK g → OWk g D m → OWk g (D + g 99 0) m') ∧ RLm m' (pcEvent (scr xs (y + 1)) (scr xs (y + 2)) e).2 := by
  have hX : ∀ q, (pcEvent (scr xs (y + 1)) (scr xs (y + 2)) e).1 = .inr q → cd1 q ≠ 0 ∧ ∀ M, (fun q_12 m_5 => if q_12 = 0 then some (1, m_5) else none : Nat → MM → Option (Int × MM)) q M = some (cd1 q, M) := fun q hh => by
    have hh2 := hq q hh
    refine ⟨?_, fun M => ?_⟩
    · rcases hh2 with rfl <;> decide
    · rcases hh2 with rfl <;> rfl
  obtain ⟨x48, m49, x92, m93, g1, g2, g3, g4, g5⟩ := law_step (W1 := fW_X11_event) (W2 := fW_X12_event) (F12 := fun M => fm_X12_event (scr xs (y + 1)) (scr xs (y + 2)) M) C hR hP hc hX (fun rr rm h => fw_X11_event hP.1 h) (by decide +kernel) hx (fun m1 rz rm hF h => fw_X12_event hF h) (by decide +kernel) (fun m1 rz rm h1 _ h => h1.fr (fw_X12_event h1.1 h) (by decide +kernel))
  have hA : fm_L_event (scr xs (y + 1)) (scr xs (y + 2)) m = some (x48, m49) := g1
  refine ⟨m93, ?_, fun gg D' hg h => ((kw_X12_event (kw_L_event hP.1 hA).fix g2).2 gg _ hg ((kw_L_event hP.1 hA).2 gg _ hg h)).mono (by (try dsimp only); omega), g5⟩
  unfold fj_L_law_1020
  simp only [show w32 (y + 1) = y + 1 from w32_id (by omega) (by omega), show w32 (y + 2) = y + 2 from w32_id (by omega) (by omega)]
  rw [gd_t (show 0 ≤ y + 1 ∧ y + 1 < (xs.length : Int) by omega), gd_t (show 0 ≤ y + 2 ∧ y + 2 < (xs.length : Int) by omega)]
  exact law_shape (y := y) (B := fun M => fm_X12_event (scr xs (y + 1)) (scr xs (y + 2)) M) g1 g2 g3 g4 (by omega)
theorem oc_difference (C : CE m ow ad e) (hR : RXE m e) (hP : P113 m) (hy : 0 ≤ y ∧ y + 7 ≤ (xs.length : Int) ∧ (xs.length : Int) < 1000000) (hc : OKc e ad (fm_X11_difference (scr xs (y + 1)) m) (pcDifference (scr xs (y + 1)) e)) (hx : ∀ m1, RXE m1 e → P113 m1 → OKr (fm_X12_difference (scr xs (y + 1)) m1) cdS (pcDifference (scr xs (y + 1)) e)) (hq : ∀ q, (pcDifference (scr xs (y + 1)) e).1 = .inr q → q = 0 ∨ q = 2) : ∃ m', fj_L_law_1088 xs c y m = c (y + 7) m' ∧ (∀ (g : Int → Int → Int) (D : Int), GOK g → OWk g D m → OWk g (D + g 99 0) m') ∧ RLm m' (pcDifference (scr xs (y + 1)) e).2 := by
  have hX : ∀ q, (pcDifference (scr xs (y + 1)) e).1 = .inr q → cdS q ≠ 0 ∧ ∀ M, (fun q_12 m_5 => if q_12 = 0 then some (1, m_5) else if q_12 = 2 then some (2, m_5) else none : Nat → MM → Option (Int × MM)) q M = some (cdS q, M) := fun q hh => by
    have hh2 := hq q hh
    refine ⟨?_, fun M => ?_⟩
    · rcases hh2 with rfl | rfl <;> decide
    · rcases hh2 with rfl | rfl <;> rfl
  obtain ⟨x48, m49, x92, m93, g1, g2, g3, g4, g5⟩ := law_step (W1 := fW_X11_difference) (W2 := fW_X12_difference) (F12 := fun M => fm_X12_difference (scr xs (y + 1)) M) C hR hP hc hX (fun rr rm h => fw_X11_difference hP.1 h) (by decide +kernel) hx (fun m1 rz rm hF h => fw_X12_difference hF h) (by decide +kernel) (fun m1 rz rm h1 _ h => h1.fr (fw_X12_difference h1.1 h) (by decide +kernel))
  have hA : fm_L_difference (scr xs (y + 1)) m = some (x48, m49) := g1
  refine ⟨m93, ?_, fun gg D' hg h => ((kw_X12_difference (kw_L_difference hP.1 hA).fix g2).2 gg _ hg ((kw_L_difference hP.1 hA).2 gg _ hg h)).mono (by (try dsimp only); omega), g5⟩
  unfold fj_L_law_1088
  simp only [show w32 (y + 1) = y + 1 from w32_id (by omega) (by omega)]
  rw [gd_t (show 0 ≤ y + 1 ∧ y + 1 < (xs.length : Int) by omega)]
  exact law_shape (y := y) (B := fun M => fm_X12_difference (scr xs (y + 1)) M) g1 g2 g3 g4 (by omega)
theorem oc_standing (C : CE m ow ad e) (hR : RXE m e) (hP : P113 m) (hy : 0 ≤ y ∧ y + 7 ≤ (xs.length : Int) ∧ (xs.length : Int) < 1000000) (hc : OKc e ad (fm_X11_standing (scr xs (y + 1)) m) (pcStanding (scr xs (y + 1)) e)) (hx : ∀ m1, RXE m1 e → P113 m1 → OKr (fm_X12_standing (scr xs (y + 1)) m1) cd1 (pcStanding (scr xs (y + 1)) e)) (hq : ∀ q, (pcStanding (scr xs (y + 1)) e).1 = .inr q → q = 0) : ∃ m', fj_L_law_964 xs c y m = c (y + 7) m' ∧ (∀ (g : Int → Int → Int) (D : Int), GOK g → OWk g D m → OWk g (D + g 99 0) m') ∧ RLm m' (pcStanding (scr xs (y + 1)) e).2 := by
  have hX : ∀ q, (pcStanding (scr xs (y + 1)) e).1 = .inr q → cd1 q ≠ 0 ∧ ∀ M, (fun q_12 m_5 => if q_12 = 0 then some (1, m_5) else none : Nat → MM → Option (Int × MM)) q M = some (cd1 q, M) := fun q hh => by
    have hh2 := hq q hh
    refine ⟨?_, fun M => ?_⟩
    · rcases hh2 with rfl <;> decide
    · rcases hh2 with rfl <;> rfl
  obtain ⟨x48, m49, x92, m93, g1, g2, g3, g4, g5⟩ := law_step (W1 := fW_X11_standing) (W2 := fW_X12_standing) (F12 := fun M => fm_X12_standing (scr xs (y + 1)) M) C hR hP hc hX (fun rr rm h => fw_X11_standing hP.1 h) (by decide +kernel) hx (fun m1 rz rm hF h => fw_X12_standing hF h) (by decide +kernel) (fun m1 rz rm h1 _ h => h1.fr (fw_X12_standing h1.1 h) (by decide +kernel))
  have hA : fm_L_standing (scr xs (y + 1)) m = some (x48, m49) := g1
  refine ⟨m93, ?_, fun gg D' hg h => ((kw_X12_standing (kw_L_standing hP.1 hA).fix g2).2 gg _ hg ((kw_L_standing hP.1 hA).2 gg _ hg h)).mono (by (try dsimp only); omega), g5⟩
  unfold fj_L_law_964
  simp only [show w32 (y + 1) = y + 1 from w32_id (by omega) (by omega)]
  rw [gd_t (show 0 ≤ y + 1 ∧ y + 1 < (xs.length : Int) by omega)]
  exact law_shape (y := y) (B := fun M => fm_X12_standing (scr xs (y + 1)) M) g1 g2 g3 g4 (by omega)
theorem oc_setRate (C : CE m ow ad e) (hR : RXE m e) (hP : P113 m) (hy : 0 ≤ y ∧ y + 7 ≤ (xs.length : Int) ∧ (xs.length : Int) < 1000000) (hc : OKc e ad (fm_X11_setRate (scr xs (y + 1)) m) (pcSetRate (scr xs (y + 1)) e)) (hx : ∀ m1, RXE m1 e → P113 m1 → OKr (fm_X12_setRate (scr xs (y + 1)) m1) cd1 (pcSetRate (scr xs (y + 1)) e)) (hq : ∀ q, (pcSetRate (scr xs (y + 1)) e).1 = .inr q → q = 1) : ∃ m', fj_L_law_1157 xs c y m = c (y + 7) m' ∧ (∀ (g : Int → Int → Int) (D : Int), GOK g → OWk g D m → OWk g (D + g 99 0) m') ∧ RLm m' (pcSetRate (scr xs (y + 1)) e).2 := by
  have hX : ∀ q, (pcSetRate (scr xs (y + 1)) e).1 = .inr q → cd1 q ≠ 0 ∧ ∀ M, (fun q_12 m_5 => if q_12 = 1 then some (1, m_5) else none : Nat → MM → Option (Int × MM)) q M = some (cd1 q, M) := fun q hh => by
    have hh2 := hq q hh
    refine ⟨?_, fun M => ?_⟩
    · rcases hh2 with rfl <;> decide
    · rcases hh2 with rfl <;> rfl
  obtain ⟨x48, m49, x92, m93, g1, g2, g3, g4, g5⟩ := law_step (W1 := fW_X11_setRate) (W2 := fW_X12_setRate) (F12 := fun M => fm_X12_setRate (scr xs (y + 1)) M) C hR hP hc hX (fun rr rm h => fw_X11_setRate hP.1 h) (by decide +kernel) hx (fun m1 rz rm hF h => fw_X12_setRate hF h) (by decide +kernel) (fun m1 rz rm h1 _ h => h1.fr (fw_X12_setRate h1.1 h) (by decide +kernel))
  have hA : fm_L_setRate (scr xs (y + 1)) m = some (x48, m49) := g1
  refine ⟨m93, ?_, fun gg D' hg h => ((kw_X12_setRate (kw_L_setRate hP.1 hA).fix g2).2 gg _ hg ((kw_L_setRate hP.1 hA).2 gg _ hg h)).mono (by (try dsimp only); omega), g5⟩
  unfold fj_L_law_1157
  simp only [show w32 (y + 1) = y + 1 from w32_id (by omega) (by omega)]
  rw [gd_t (show 0 ≤ y + 1 ∧ y + 1 < (xs.length : Int) by omega)]
  exact law_shape (y := y) (B := fun M => fm_X12_setRate (scr xs (y + 1)) M) g1 g2 g3 g4 (by omega)
theorem oc_replays (C : CE m ow ad e) (hR : RXE m e) (hP : P113 m) (hy : 0 ≤ y ∧ y + 7 ≤ (xs.length : Int) ∧ (xs.length : Int) < 1000000) (hc : OKc e ad (fm_X11_replays (scr xs (y + 1)) m) (pcReplays (scr xs (y + 1)) e)) (hx : ∀ m1, RXE m1 e → P113 m1 → OKr (fm_X12_replays (scr xs (y + 1)) m1) cd1 (pcReplays (scr xs (y + 1)) e)) (hq : ∀ q, (pcReplays (scr xs (y + 1)) e).1 = .inr q → q = 0) : ∃ m', fj_L_law_1381 xs c y m = c (y + 7) m' ∧ (∀ (g : Int → Int → Int) (D : Int), GOK g → OWk g D m → OWk g (D + g 99 0) m') ∧ RLm m' (pcReplays (scr xs (y + 1)) e).2 := by
  have hX : ∀ q, (pcReplays (scr xs (y + 1)) e).1 = .inr q → cd1 q ≠ 0 ∧ ∀ M, (fun q_12 m_5 => if q_12 = 0 then some (1, m_5) else none : Nat → MM → Option (Int × MM)) q M = some (cd1 q, M) := fun q hh => by
    have hh2 := hq q hh
    refine ⟨?_, fun M => ?_⟩
    · rcases hh2 with rfl <;> decide
    · rcases hh2 with rfl <;> rfl
  obtain ⟨x48, m49, x92, m93, g1, g2, g3, g4, g5⟩ := law_step (W1 := fW_X11_replays) (W2 := fW_X12_replays) (F12 := fun M => fm_X12_replays (scr xs (y + 1)) M) C hR hP hc hX (fun rr rm h => fw_X11_replays hP.1 h) (by decide +kernel) hx (fun m1 rz rm hF h => fw_X12_replays hF h) (by decide +kernel) (fun m1 rz rm h1 _ h => h1.fr (fw_X12_replays h1.1 h) (by decide +kernel))
  have hA : fm_L_replays (scr xs (y + 1)) m = some (x48, m49) := g1
  refine ⟨m93, ?_, fun gg D' hg h => ((kw_X12_replays (kw_L_replays hP.1 hA).fix g2).2 gg _ hg ((kw_L_replays hP.1 hA).2 gg _ hg h)).mono (by (try dsimp only); omega), g5⟩
  unfold fj_L_law_1381
  simp only [show w32 (y + 1) = y + 1 from w32_id (by omega) (by omega)]
  rw [gd_t (show 0 ≤ y + 1 ∧ y + 1 < (xs.length : Int) by omega)]
  exact law_shape (y := y) (B := fun M => fm_X12_replays (scr xs (y + 1)) M) g1 g2 g3 g4 (by omega)
theorem oc_answer (C : CE m ow ad e) (hR : RXE m e) (hP : P113 m) (hy : 0 ≤ y ∧ y + 7 ≤ (xs.length : Int) ∧ (xs.length : Int) < 1000000) (hc : OKc e ad (fm_X11_answer (scr xs (y + 1)) (scr xs (y + 2)) m) (pcAnswer (scr xs (y + 1)) (scr xs (y + 2)) e)) (hx : ∀ m1, RXE m1 e → P113 m1 → OKr (fm_X12_answer (scr xs (y + 1)) (scr xs (y + 2)) m1) cd3 (pcAnswer (scr xs (y + 1)) (scr xs (y + 2)) e)) (hq : ∀ q, (pcAnswer (scr xs (y + 1)) (scr xs (y + 2)) e).1 = .inr q → q = 0 ∨ q = 1) (hb : ∀ z, (pcAnswer (scr xs (y + 1)) (scr xs (y + 2)) e).1 = .inl z → z = 0 ∨ z = 1) : ∃ m', fj_L_law_1493 xs c y m = c (y + 7) m' ∧ (∀ (g : Int → Int → Int) (D : Int), GOK g → OWk g D m → OWk g (D + g 99 0) m') ∧ RLm m' (pcAnswer (scr xs (y + 1)) (scr xs (y + 2)) e).2 := by
  have hX : ∀ q, (pcAnswer (scr xs (y + 1)) (scr xs (y + 2)) e).1 = .inr q → cd3 q ≠ 0 ∧ ∀ M, (fun q_12 m_5 => if q_12 = 0 then some (1, m_5) else if q_12 = 1 then some (2, m_5) else none : Nat → MM → Option (Int × MM)) q M = some (cd3 q, M) := fun q hh => by
    have hh2 := hq q hh
    refine ⟨?_, fun M => ?_⟩
    · rcases hh2 with rfl | rfl <;> decide
    · rcases hh2 with rfl | rfl <;> rfl
  obtain ⟨x48, m49, x92, m93, g1, g2, g3, g4, g5⟩ := law_step (W1 := fW_X11_answer) (W2 := fW_X12_answer) (F12 := fun M => fm_X12_answer (scr xs (y + 1)) (scr xs (y + 2)) M) C hR hP hc hX (fun rr rm h => fw_X11_answer hP.1 h) (by decide +kernel) hx (fun m1 rz rm hF h => fw_X12_answer hF h) (by decide +kernel) (fun m1 rz rm h1 _ h => h1.fr (fw_X12_answer h1.1 h) (by decide +kernel))
  have hA : fm_L_answer (scr xs (y + 1)) (scr xs (y + 2)) m = some (x48, m49) := by
    unfold fm_L_answer
    refine (bx_b fun z M hh => ?_).trans g1
    obtain ⟨mq, aq, hq1, -⟩ := hc
    rw [hq1] at hh
    exact hb z (Prod.ext_iff.mp (Option.some.inj hh)).1
  refine ⟨m93, ?_, fun gg D' hg h => ((kw_X12_answer (kw_L_answer hP.1 hA).fix g2).2 gg _ hg ((kw_L_answer hP.1 hA).2 gg _ hg h)).mono (by (try dsimp only); omega), g5⟩
  unfold fj_L_law_1493
  simp only [show w32 (y + 1) = y + 1 from w32_id (by omega) (by omega), show w32 (y + 2) = y + 2 from w32_id (by omega) (by omega)]
  rw [gd_t (show 0 ≤ y + 1 ∧ y + 1 < (xs.length : Int) by omega), gd_t (show 0 ≤ y + 2 ∧ y + 2 < (xs.length : Int) by omega)]
  exact law_shapeB (y := y) (J := fun s x M => fj_L_law_1559 xs c y s x M) (B := fun M => fm_X12_answer (scr xs (y + 1)) (scr xs (y + 2)) M) (fun s x M => rfl) hA g2 g3 (fun h0 => ⟨(g4 h0).1, hb _ (g4 h0).2⟩) (by omega)
-- ?? fail 0
theorem oc_beat (C : CE m ow ad e) (hR : RXE m e) (hP : P113 m) (hy : 0 ≤ y ∧ y + 7 ≤ (xs.length : Int) ∧ (xs.length : Int) < 1000000) (hc : OKc e ad (fm_X11_beat (scr xs (y + 1)) (scr xs (y + 2)) m) (pcBeat (scr xs (y + 1)) (scr xs (y + 2)) e)) (hx : ∀ m1, RXE m1 e → P113 m1 → OKr (fm_X12_beat (scr xs (y + 1)) (scr xs (y + 2)) m1) cd3 (pcBeat (scr xs (y + 1)) (scr xs (y + 2)) e)) (hq : ∀ q, (pcBeat (scr xs (y + 1)) (scr xs (y + 2)) e).1 = .inr q → q = 0 ∨ q = 1) : ∃ m', fj_L_law_1659 xs c y m = c (y + 7) m' ∧ (∀ (g : Int → Int → Int) (D : Int), GOK g → OWk g D m → OWk g (D + g 99 0) m') ∧ RLm m' (pcBeat (scr xs (y + 1)) (scr xs (y + 2)) e).2 := by
  have hX : ∀ q, (pcBeat (scr xs (y + 1)) (scr xs (y + 2)) e).1 = .inr q → cd3 q ≠ 0 ∧ ∀ M, (fun q_12 m_5 => if q_12 = 0 then some (1, m_5) else if q_12 = 1 then some (2, m_5) else none : Nat → MM → Option (Int × MM)) q M = some (cd3 q, M) := fun q hh => by
    have hh2 := hq q hh
    refine ⟨?_, fun M => ?_⟩
    · rcases hh2 with rfl | rfl <;> decide
    · rcases hh2 with rfl | rfl <;> rfl
  obtain ⟨x48, m49, x92, m93, g1, g2, g3, g4, g5⟩ := law_step (W1 := fW_X11_beat) (W2 := fW_X12_beat) (F12 := fun M => fm_X12_beat (scr xs (y + 1)) (scr xs (y + 2)) M) C hR hP hc hX (fun rr rm h => fw_X11_beat hP.1 h) (by decide +kernel) hx (fun m1 rz rm hF h => fw_X12_beat hF h) (by decide +kernel) (fun m1 rz rm h1 _ h => h1.fr (fw_X12_beat h1.1 h) (by decide +kernel))
  have hA : fm_L_beat (scr xs (y + 1)) (scr xs (y + 2)) m = some (x48, m49) := g1
  refine ⟨m93, ?_, fun gg D' hg h => ((kw_X12_beat (kw_L_beat hP.1 hA).fix g2).2 gg _ hg ((kw_L_beat hP.1 hA).2 gg _ hg h)).mono (by (try dsimp only); omega), g5⟩
  unfold fj_L_law_1659
  simp only [show w32 (y + 1) = y + 1 from w32_id (by omega) (by omega), show w32 (y + 2) = y + 2 from w32_id (by omega) (by omega)]
  rw [gd_t (show 0 ≤ y + 1 ∧ y + 1 < (xs.length : Int) by omega), gd_t (show 0 ≤ y + 2 ∧ y + 2 < (xs.length : Int) by omega)]
  exact law_shape (y := y) (B := fun M => fm_X12_beat (scr xs (y + 1)) (scr xs (y + 2)) M) g1 g2 g3 g4 (by omega)
theorem oc_activity (C : CE m ow ad e) (hR : RXE m e) (hP : P113 m) (hy : 0 ≤ y ∧ y + 7 ≤ (xs.length : Int) ∧ (xs.length : Int) < 1000000) (hc : OKc e ad (fm_X11_activity (scr xs (y + 1)) m) (pcActivity (scr xs (y + 1)) e)) (hx : ∀ m1, RXE m1 e → P113 m1 → OKr (fm_X12_activity (scr xs (y + 1)) m1) cd1 (pcActivity (scr xs (y + 1)) e)) (hq : ∀ q, (pcActivity (scr xs (y + 1)) e).1 = .inr q → q = 0) : ∃ m', fj_L_law_1727 xs c y m = c (y + 7) m' ∧ (∀ (g : Int → Int → Int) (D : Int), GOK g → OWk g D m → OWk g (D + g 99 0) m') ∧ RLm m' (pcActivity (scr xs (y + 1)) e).2 := by
  have hX : ∀ q, (pcActivity (scr xs (y + 1)) e).1 = .inr q → cd1 q ≠ 0 ∧ ∀ M, (fun q_12 m_5 => if q_12 = 0 then some (1, m_5) else none : Nat → MM → Option (Int × MM)) q M = some (cd1 q, M) := fun q hh => by
    have hh2 := hq q hh
    refine ⟨?_, fun M => ?_⟩
    · rcases hh2 with rfl <;> decide
    · rcases hh2 with rfl <;> rfl
  obtain ⟨x48, m49, x92, m93, g1, g2, g3, g4, g5⟩ := law_step (W1 := fW_X11_activity) (W2 := fW_X12_activity) (F12 := fun M => fm_X12_activity (scr xs (y + 1)) M) C hR hP hc hX (fun rr rm h => fw_X11_activity hP.1 h) (by decide +kernel) hx (fun m1 rz rm hF h => fw_X12_activity hF h) (by decide +kernel) (fun m1 rz rm h1 _ h => h1.fr (fw_X12_activity h1.1 h) (by decide +kernel))
  have hA : fm_L_activity (scr xs (y + 1)) m = some (x48, m49) := g1
  refine ⟨m93, ?_, fun gg D' hg h => ((kw_X12_activity (kw_L_activity hP.1 hA).fix g2).2 gg _ hg ((kw_L_activity hP.1 hA).2 gg _ hg h)).mono (by (try dsimp only); omega), g5⟩
  unfold fj_L_law_1727
  simp only [show w32 (y + 1) = y + 1 from w32_id (by omega) (by omega)]
  rw [gd_t (show 0 ≤ y + 1 ∧ y + 1 < (xs.length : Int) by omega)]
  exact law_shape (y := y) (B := fun M => fm_X12_activity (scr xs (y + 1)) M) g1 g2 g3 g4 (by omega)
theorem oc_take (C : CE m ow ad e) (hR : RXE m e) (hP : P113 m) (hy : 0 ≤ y ∧ y + 7 ≤ (xs.length : Int) ∧ (xs.length : Int) < 1000000) (hc : OKc e ad (fm_X11_take (scr xs (y + 1)) m) (pcTake (scr xs (y + 1)) e)) (hx : ∀ m1, RXE m1 e → P113 m1 → OKr (fm_X12_take (scr xs (y + 1)) m1) cd1 (pcTake (scr xs (y + 1)) e)) (hq : ∀ q, (pcTake (scr xs (y + 1)) e).1 = .inr q → q = 0) : ∃ m', fj_L_law_1437 xs c y m = c (y + 7) m' ∧ (∀ (g : Int → Int → Int) (D : Int), GOK g → OWk g D m → OWk g (D + g 99 0) m') ∧ RLm m' (pcTake (scr xs (y + 1)) e).2 := by
  have hX : ∀ q, (pcTake (scr xs (y + 1)) e).1 = .inr q → cd1 q ≠ 0 ∧ ∀ M, (fun q_12 m_5 => if q_12 = 0 then some (1, m_5) else none : Nat → MM → Option (Int × MM)) q M = some (cd1 q, M) := fun q hh => by
    have hh2 := hq q hh
    refine ⟨?_, fun M => ?_⟩
    · rcases hh2 with rfl <;> decide
    · rcases hh2 with rfl <;> rfl
  obtain ⟨x48, m49, x92, m93, g1, g2, g3, g4, g5⟩ := law_step (W1 := fW_X11_take) (W2 := fW_X12_take) (F12 := fun M => fm_X12_take (scr xs (y + 1)) M) C hR hP hc hX (fun rr rm h => fw_X11_take hP.1 h) (by decide +kernel) hx (fun m1 rz rm hF h => fw_X12_take hF h) (by decide +kernel) (fun m1 rz rm h1 _ h => h1.fr (fw_X12_take h1.1 h) (by decide +kernel))
  have hA : fm_L_take (scr xs (y + 1)) m = some (x48, m49) := g1
  refine ⟨m93, ?_, fun gg D' hg h => ((kw_X12_take (kw_L_take hP.1 hA).fix g2).2 gg _ hg ((kw_L_take hP.1 hA).2 gg _ hg h)).mono (by (try dsimp only); omega), g5⟩
  unfold fj_L_law_1437
  simp only [show w32 (y + 1) = y + 1 from w32_id (by omega) (by omega)]
  rw [gd_t (show 0 ≤ y + 1 ∧ y + 1 < (xs.length : Int) by omega)]
  exact law_shape (y := y) (B := fun M => fm_X12_take (scr xs (y + 1)) M) g1 g2 g3 g4 (by omega)
theorem oc_copy (C : CE m ow ad e) (hR : RXE m e) (hP : P113 m) (hy : 0 ≤ y ∧ y + 7 ≤ (xs.length : Int) ∧ (xs.length : Int) < 1000000) (hc : OKc e ad (fm_X11_copy (scr xs (y + 1)) (scr xs (y + 2)) m) (pcCopy (scr xs (y + 1)) (scr xs (y + 2)) e)) (hx : ∀ m1, RXE m1 e → P113 m1 → OKr (fm_X12_copy (scr xs (y + 1)) (scr xs (y + 2)) m1) cd3 (pcCopy (scr xs (y + 1)) (scr xs (y + 2)) e)) (hq : ∀ q, (pcCopy (scr xs (y + 1)) (scr xs (y + 2)) e).1 = .inr q → q = 0 ∨ q = 1) : ∃ m', fj_L_law_2050 xs c y m = c (y + 7) m' ∧ (∀ (g : Int → Int → Int) (D : Int), GOK g → OWk g D m → OWk g (D + g 99 0) m') ∧ RLm m' (pcCopy (scr xs (y + 1)) (scr xs (y + 2)) e).2 := by
  have hX : ∀ q, (pcCopy (scr xs (y + 1)) (scr xs (y + 2)) e).1 = .inr q → cd3 q ≠ 0 ∧ ∀ M, (fun q_12 m_5 => if q_12 = 0 then some (1, m_5) else if q_12 = 1 then some (2, m_5) else none : Nat → MM → Option (Int × MM)) q M = some (cd3 q, M) := fun q hh => by
    have hh2 := hq q hh
    refine ⟨?_, fun M => ?_⟩
    · rcases hh2 with rfl | rfl <;> decide
    · rcases hh2 with rfl | rfl <;> rfl
  obtain ⟨x48, m49, x92, m93, g1, g2, g3, g4, g5⟩ := law_step (W1 := fW_X11_copy) (W2 := fW_X12_copy) (F12 := fun M => fm_X12_copy (scr xs (y + 1)) (scr xs (y + 2)) M) C hR hP hc hX (fun rr rm h => fw_X11_copy hP.1 h) (by decide +kernel) hx (fun m1 rz rm hF h => fw_X12_copy hF h) (by decide +kernel) (fun m1 rz rm h1 _ h => h1.fr (fw_X12_copy h1.1 h) (by decide +kernel))
  have hA : fm_L_copy (scr xs (y + 1)) (scr xs (y + 2)) m = some (x48, m49) := g1
  refine ⟨m93, ?_, fun gg D' hg h => ((kw_X12_copy (kw_L_copy hP.1 hA).fix g2).2 gg _ hg ((kw_L_copy hP.1 hA).2 gg _ hg h)).mono (by (try dsimp only); omega), g5⟩
  unfold fj_L_law_2050
  simp only [show w32 (y + 1) = y + 1 from w32_id (by omega) (by omega), show w32 (y + 2) = y + 2 from w32_id (by omega) (by omega)]
  rw [gd_t (show 0 ≤ y + 1 ∧ y + 1 < (xs.length : Int) by omega), gd_t (show 0 ≤ y + 2 ∧ y + 2 < (xs.length : Int) by omega)]
  exact law_shape (y := y) (B := fun M => fm_X12_copy (scr xs (y + 1)) (scr xs (y + 2)) M) g1 g2 g3 g4 (by omega)
theorem oc_togglePause (C : CE m ow ad e) (hR : RXE m e) (hP : P113 m) (hy : 0 ≤ y ∧ y + 7 ≤ (xs.length : Int) ∧ (xs.length : Int) < 1000000) (hc : OKc e ad (fm_X11_togglePause (scr xs (y + 1)) m) (pcTogglePause (scr xs (y + 1)) e)) (hx : ∀ m1, RXE m1 e → P113 m1 → OKr (fm_X12_togglePause (scr xs (y + 1)) m1) cd1 (pcTogglePause (scr xs (y + 1)) e)) (hq : ∀ q, (pcTogglePause (scr xs (y + 1)) e).1 = .inr q → q = 0) (hb : ∀ z, (pcTogglePause (scr xs (y + 1)) e).1 = .inl z → z = 0 ∨ z = 1) : ∃ m', fj_L_law_2298 xs c y m = c (y + 7) m' ∧ (∀ (g : Int → Int → Int) (D : Int), GOK g → OWk g D m → OWk g (D + g 99 0) m') ∧ RLm m' (pcTogglePause (scr xs (y + 1)) e).2 := by
  have hX : ∀ q, (pcTogglePause (scr xs (y + 1)) e).1 = .inr q → cd1 q ≠ 0 ∧ ∀ M, (fun q_12 m_5 => if q_12 = 0 then some (1, m_5) else none : Nat → MM → Option (Int × MM)) q M = some (cd1 q, M) := fun q hh => by
    have hh2 := hq q hh
    refine ⟨?_, fun M => ?_⟩
    · rcases hh2 with rfl <;> decide
    · rcases hh2 with rfl <;> rfl
  obtain ⟨x48, m49, x92, m93, g1, g2, g3, g4, g5⟩ := law_step (W1 := fW_X11_togglePause) (W2 := fW_X12_togglePause) (F12 := fun M => fm_X12_togglePause (scr xs (y + 1)) M) C hR hP hc hX (fun rr rm h => fw_X11_togglePause hP.1 h) (by decide +kernel) hx (fun m1 rz rm hF h => fw_X12_togglePause hF h) (by decide +kernel) (fun m1 rz rm h1 _ h => h1.fr (fw_X12_togglePause h1.1 h) (by decide +kernel))
  have hA : fm_L_togglePause (scr xs (y + 1)) m = some (x48, m49) := by
    unfold fm_L_togglePause
    refine (bx_b fun z M hh => ?_).trans g1
    obtain ⟨mq, aq, hq1, -⟩ := hc
    rw [hq1] at hh
    exact hb z (Prod.ext_iff.mp (Option.some.inj hh)).1
  refine ⟨m93, ?_, fun gg D' hg h => ((kw_X12_togglePause (kw_L_togglePause hP.1 hA).fix g2).2 gg _ hg ((kw_L_togglePause hP.1 hA).2 gg _ hg h)).mono (by (try dsimp only); omega), g5⟩
  unfold fj_L_law_2298
  simp only [show w32 (y + 1) = y + 1 from w32_id (by omega) (by omega)]
  rw [gd_t (show 0 ≤ y + 1 ∧ y + 1 < (xs.length : Int) by omega)]
  exact law_shapeB (y := y) (J := fun s x M => fj_L_law_2352 xs c y s x M) (B := fun M => fm_X12_togglePause (scr xs (y + 1)) M) (fun s x M => rfl) hA g2 g3 (fun h0 => ⟨(g4 h0).1, hb _ (g4 h0).2⟩) (by omega)
theorem oc_shift (C : CE m ow ad e) (hR : RXE m e) (hP : P113 m) (hy : 0 ≤ y ∧ y + 7 ≤ (xs.length : Int) ∧ (xs.length : Int) < 1000000) (hc : OKc e ad (fm_X11_shift (scr xs (y + 1)) m) (pcShift (scr xs (y + 1)) e)) (hx : ∀ m1, RXE m1 e → P113 m1 → OKr (fm_X12_shift (scr xs (y + 1)) m1) cd1 (pcShift (scr xs (y + 1)) e)) (hq : ∀ q, (pcShift (scr xs (y + 1)) e).1 = .inr q → q = 1) : ∃ m', fj_L_law_2429 xs c y m = c (y + 7) m' ∧ (∀ (g : Int → Int → Int) (D : Int), GOK g → OWk g D m → OWk g (D + g 99 0) m') ∧ RLm m' (pcShift (scr xs (y + 1)) e).2 := by
  have hX : ∀ q, (pcShift (scr xs (y + 1)) e).1 = .inr q → cd1 q ≠ 0 ∧ ∀ M, (fun q_12 m_5 => if q_12 = 1 then some (1, m_5) else none : Nat → MM → Option (Int × MM)) q M = some (cd1 q, M) := fun q hh => by
    have hh2 := hq q hh
    refine ⟨?_, fun M => ?_⟩
    · rcases hh2 with rfl <;> decide
    · rcases hh2 with rfl <;> rfl
  obtain ⟨x48, m49, x92, m93, g1, g2, g3, g4, g5⟩ := law_step (W1 := fW_X11_shift) (W2 := fW_X12_shift) (F12 := fun M => fm_X12_shift (scr xs (y + 1)) M) C hR hP hc hX (fun rr rm h => fw_X11_shift hP.1 h) (by decide +kernel) hx (fun m1 rz rm hF h => fw_X12_shift hF h) (by decide +kernel) (fun m1 rz rm h1 _ h => h1.fr (fw_X12_shift h1.1 h) (by decide +kernel))
  have hA : fm_L_shift (scr xs (y + 1)) m = some (x48, m49) := g1
  refine ⟨m93, ?_, fun gg D' hg h => ((kw_X12_shift (kw_L_shift hP.1 hA).fix g2).2 gg _ hg ((kw_L_shift hP.1 hA).2 gg _ hg h)).mono (by (try dsimp only); omega), g5⟩
  unfold fj_L_law_2429
  simp only [show w32 (y + 1) = y + 1 from w32_id (by omega) (by omega)]
  rw [gd_t (show 0 ≤ y + 1 ∧ y + 1 < (xs.length : Int) by omega)]
  exact law_shape (y := y) (B := fun M => fm_X12_shift (scr xs (y + 1)) M) g1 g2 g3 g4 (by omega)
theorem oc_search (C : CE m ow ad e) (hR : RXE m e) (hP : P113 m) (hy : 0 ≤ y ∧ y + 7 ≤ (xs.length : Int) ∧ (xs.length : Int) < 1000000) (hc : OKc e ad (fm_X11_search (scr xs (y + 1)) m) (pcSearch (scr xs (y + 1)) e)) (hx : ∀ m1, RXE m1 e → P113 m1 → OKr (fm_X12_search (scr xs (y + 1)) m1) cd1 (pcSearch (scr xs (y + 1)) e)) (hq : ∀ q, (pcSearch (scr xs (y + 1)) e).1 = .inr q → q = 1) : ∃ m', fj_L_law_2541 xs c y m = c (y + 7) m' ∧ (∀ (g : Int → Int → Int) (D : Int), GOK g → OWk g D m → OWk g (D + g 99 0) m') ∧ RLm m' (pcSearch (scr xs (y + 1)) e).2 := by
  have hX : ∀ q, (pcSearch (scr xs (y + 1)) e).1 = .inr q → cd1 q ≠ 0 ∧ ∀ M, (fun q_12 m_5 => if q_12 = 1 then some (1, m_5) else none : Nat → MM → Option (Int × MM)) q M = some (cd1 q, M) := fun q hh => by
    have hh2 := hq q hh
    refine ⟨?_, fun M => ?_⟩
    · rcases hh2 with rfl <;> decide
    · rcases hh2 with rfl <;> rfl
  obtain ⟨x48, m49, x92, m93, g1, g2, g3, g4, g5⟩ := law_step (W1 := fW_X11_search) (W2 := fW_X12_search) (F12 := fun M => fm_X12_search (scr xs (y + 1)) M) C hR hP hc hX (fun rr rm h => fw_X11_search hP.1 h) (by decide +kernel) hx (fun m1 rz rm hF h => fw_X12_search hF h) (by decide +kernel) (fun m1 rz rm h1 _ h => h1.fr (fw_X12_search h1.1 h) (by decide +kernel))
  have hA : fm_L_search (scr xs (y + 1)) m = some (x48, m49) := g1
  refine ⟨m93, ?_, fun gg D' hg h => ((kw_X12_search (kw_L_search hP.1 hA).fix g2).2 gg _ hg ((kw_L_search hP.1 hA).2 gg _ hg h)).mono (by (try dsimp only); omega), g5⟩
  unfold fj_L_law_2541
  simp only [show w32 (y + 1) = y + 1 from w32_id (by omega) (by omega)]
  rw [gd_t (show 0 ≤ y + 1 ∧ y + 1 < (xs.length : Int) by omega)]
  exact law_shape (y := y) (B := fun M => fm_X12_search (scr xs (y + 1)) M) g1 g2 g3 g4 (by omega)
theorem oc_schedule (C : CE m ow ad e) (hR : RXE m e) (hP : P113 m) (hy : 0 ≤ y ∧ y + 7 ≤ (xs.length : Int) ∧ (xs.length : Int) < 1000000) (hc : OKc e ad (fm_X11_schedule (scr xs (y + 1)) (scr xs (y + 2)) (scr xs (y + 3)) (scr xs (y + 4)) m) (pcSchedule (scr xs (y + 1)) (scr xs (y + 2)) (scr xs (y + 3)) (scr xs (y + 4)) e)) (hx : ∀ m1, RXE m1 e → P113 m1 → OKr (fm_X12_schedule (scr xs (y + 1)) (scr xs (y + 2)) (scr xs (y + 3)) (scr xs (y + 4)) m1) cd3 (pcSchedule (scr xs (y + 1)) (scr xs (y + 2)) (scr xs (y + 3)) (scr xs (y + 4)) e)) (hq : ∀ q, (pcSchedule (scr xs (y + 1)) (scr xs (y + 2)) (scr xs (y + 3)) (scr xs (y + 4)) e).1 = .inr q → q = 0 ∨ q = 1 ∨ q = 2) : ∃ m', fj_L_law_2206 xs c y m = c (y + 7) m' ∧ (∀ (g : Int → Int → Int) (D : Int), GOK g → OWk g D m → OWk g (D + g 99 0) m') ∧ RLm m' (pcSchedule (scr xs (y + 1)) (scr xs (y + 2)) (scr xs (y + 3)) (scr xs (y + 4)) e).2 := by
  have hX : ∀ q, (pcSchedule (scr xs (y + 1)) (scr xs (y + 2)) (scr xs (y + 3)) (scr xs (y + 4)) e).1 = .inr q → cd3 q ≠ 0 ∧ ∀ M, (fun q_12 m_5 => if q_12 = 0 then some (1, m_5) else if q_12 = 1 then some (2, m_5) else if q_12 = 2 then some (3, m_5) else none : Nat → MM → Option (Int × MM)) q M = some (cd3 q, M) := fun q hh => by
    have hh2 := hq q hh
    refine ⟨?_, fun M => ?_⟩
    · rcases hh2 with rfl | rfl | rfl <;> decide
    · rcases hh2 with rfl | rfl | rfl <;> rfl
  obtain ⟨x48, m49, x92, m93, g1, g2, g3, g4, g5⟩ := law_step (W1 := fW_X11_schedule) (W2 := fW_X12_schedule) (F12 := fun M => fm_X12_schedule (scr xs (y + 1)) (scr xs (y + 2)) (scr xs (y + 3)) (scr xs (y + 4)) M) C hR hP hc hX (fun rr rm h => fw_X11_schedule hP.1 h) (by decide +kernel) hx (fun m1 rz rm hF h => fw_X12_schedule hF h) (by decide +kernel) (fun m1 rz rm h1 _ h => h1.fr (fw_X12_schedule h1.1 h) (by decide +kernel))
  have hA : fm_L_schedule (scr xs (y + 1)) (scr xs (y + 2)) (scr xs (y + 3)) (scr xs (y + 4)) m = some (x48, m49) := g1
  refine ⟨m93, ?_, fun gg D' hg h => ((kw_X12_schedule (kw_L_schedule hP.1 hA).fix g2).2 gg _ hg ((kw_L_schedule hP.1 hA).2 gg _ hg h)).mono (by (try dsimp only); omega), g5⟩
  unfold fj_L_law_2206
  simp only [show w32 (y + 1) = y + 1 from w32_id (by omega) (by omega), show w32 (y + 2) = y + 2 from w32_id (by omega) (by omega), show w32 (y + 3) = y + 3 from w32_id (by omega) (by omega), show w32 (y + 4) = y + 4 from w32_id (by omega) (by omega)]
  rw [gd_t (show 0 ≤ y + 1 ∧ y + 1 < (xs.length : Int) by omega), gd_t (show 0 ≤ y + 2 ∧ y + 2 < (xs.length : Int) by omega), gd_t (show 0 ≤ y + 3 ∧ y + 3 < (xs.length : Int) by omega), gd_t (show 0 ≤ y + 4 ∧ y + 4 < (xs.length : Int) by omega)]
  exact law_shape (y := y) (B := fun M => fm_X12_schedule (scr xs (y + 1)) (scr xs (y + 2)) (scr xs (y + 3)) (scr xs (y + 4)) M) g1 g2 g3 g4 (by omega)
theorem oc_query (C : CE m ow ad e) (hR : RXE m e) (hP : P113 m) (hy : 0 ≤ y ∧ y + 7 ≤ (xs.length : Int) ∧ (xs.length : Int) < 1000000) (hc : OKc e ad (fm_X11_query (scr xs (y + 1)) (scr xs (y + 2)) m) (pcQuery (scr xs (y + 1)) (scr xs (y + 2)) e)) (hx : ∀ m1, RXE m1 e → P113 m1 → OKp (fm_X12_query (scr xs (y + 1)) (scr xs (y + 2)) m1) cdS (pcQuery (scr xs (y + 1)) (scr xs (y + 2)) e)) (hq : ∀ q, (pcQuery (scr xs (y + 1)) (scr xs (y + 2)) e).1 = .inr q → q = 0 ∨ q = 2) : ∃ m', fj_L_law_828 xs c y m = c (y + 7) m' ∧ (∀ (g : Int → Int → Int) (D : Int), GOK g → OWk g D m → OWk g (D + g 99 0) m') ∧ RLm m' (pcQuery (scr xs (y + 1)) (scr xs (y + 2)) e).2 := by
  have hX : ∀ q, (pcQuery (scr xs (y + 1)) (scr xs (y + 2)) e).1 = .inr q → cdS q ≠ 0 ∧ ∀ M, (fun q_12 m_5 => if q_12 = 0 then some (1, m_5) else if q_12 = 2 then some (2, m_5) else none : Nat → MM → Option (Int × MM)) q M = some (cdS q, M) := fun q hh => by
    have hh2 := hq q hh
    refine ⟨?_, fun M => ?_⟩
    · rcases hh2 with rfl | rfl <;> decide
    · rcases hh2 with rfl | rfl <;> rfl
  obtain ⟨x48, m49, x92, m93, g1, g2, g3, g4, g5⟩ := law_step (W1 := fW_X11_query) (W2 := fW_X12_query) (F12 := fun M => fm_X12_query (scr xs (y + 1)) (scr xs (y + 2)) M) C hR hP hc hX (fun rr rm h => fw_X11_query hP.1 h) (by decide +kernel) (fun m1 h1 h2 => (hx m1 h1 h2).r) (fun m1 rz rm hF h => fw_X12_query hF h) (by decide +kernel) (fun m1 rz rm h1 h2 h => (hx m1 h2 h1).q113 h)
  have hA : fm_L_query (scr xs (y + 1)) (scr xs (y + 2)) m = some (x48, m49) := g1
  refine ⟨m93, ?_, fun gg D' hg h => ((kw_X12_query (kw_L_query hP.1 hA).fix g2).2 gg _ hg ((kw_L_query hP.1 hA).2 gg _ hg h)).mono (by (try dsimp only); omega), g5⟩
  unfold fj_L_law_828
  simp only [show w32 (y + 1) = y + 1 from w32_id (by omega) (by omega), show w32 (y + 2) = y + 2 from w32_id (by omega) (by omega)]
  rw [gd_t (show 0 ≤ y + 1 ∧ y + 1 < (xs.length : Int) by omega), gd_t (show 0 ≤ y + 2 ∧ y + 2 < (xs.length : Int) by omega)]
  exact law_shape (y := y) (B := fun M => fm_X12_query (scr xs (y + 1)) (scr xs (y + 2)) M) g1 g2 g3 g4 (by omega)
theorem oc_plain (C : CE m ow ad e) (hR : RXE m e) (hP : P113 m) (hy : 0 ≤ y ∧ y + 7 ≤ (xs.length : Int) ∧ (xs.length : Int) < 1000000) (hc : OKc e ad (fm_X11_plain (scr xs (y + 1)) (scr xs (y + 2)) m) (pcPlain (scr xs (y + 1)) (scr xs (y + 2)) e)) (hx : ∀ m1, RXE m1 e → P113 m1 → OKp (fm_X12_plain (scr xs (y + 1)) (scr xs (y + 2)) m1) cdS (pcPlain (scr xs (y + 1)) (scr xs (y + 2)) e)) (hq : ∀ q, (pcPlain (scr xs (y + 1)) (scr xs (y + 2)) e).1 = .inr q → q = 0 ∨ q = 2) : ∃ m', fj_L_law_896 xs c y m = c (y + 7) m' ∧ (∀ (g : Int → Int → Int) (D : Int), GOK g → OWk g D m → OWk g (D + g 99 0) m') ∧ RLm m' (pcPlain (scr xs (y + 1)) (scr xs (y + 2)) e).2 := by
  have hX : ∀ q, (pcPlain (scr xs (y + 1)) (scr xs (y + 2)) e).1 = .inr q → cdS q ≠ 0 ∧ ∀ M, (fun q_12 m_5 => if q_12 = 0 then some (1, m_5) else if q_12 = 2 then some (2, m_5) else none : Nat → MM → Option (Int × MM)) q M = some (cdS q, M) := fun q hh => by
    have hh2 := hq q hh
    refine ⟨?_, fun M => ?_⟩
    · rcases hh2 with rfl | rfl <;> decide
    · rcases hh2 with rfl | rfl <;> rfl
  obtain ⟨x48, m49, x92, m93, g1, g2, g3, g4, g5⟩ := law_step (W1 := fW_X11_plain) (W2 := fW_X12_plain) (F12 := fun M => fm_X12_plain (scr xs (y + 1)) (scr xs (y + 2)) M) C hR hP hc hX (fun rr rm h => fw_X11_plain hP.1 h) (by decide +kernel) (fun m1 h1 h2 => (hx m1 h1 h2).r) (fun m1 rz rm hF h => fw_X12_plain hF h) (by decide +kernel) (fun m1 rz rm h1 h2 h => (hx m1 h2 h1).q113 h)
  have hA : fm_L_plain (scr xs (y + 1)) (scr xs (y + 2)) m = some (x48, m49) := g1
  refine ⟨m93, ?_, fun gg D' hg h => ((kw_X12_plain (kw_L_plain hP.1 hA).fix g2).2 gg _ hg ((kw_L_plain hP.1 hA).2 gg _ hg h)).mono (by (try dsimp only); omega), g5⟩
  unfold fj_L_law_896
  simp only [show w32 (y + 1) = y + 1 from w32_id (by omega) (by omega), show w32 (y + 2) = y + 2 from w32_id (by omega) (by omega)]
  rw [gd_t (show 0 ≤ y + 1 ∧ y + 1 < (xs.length : Int) by omega), gd_t (show 0 ≤ y + 2 ∧ y + 2 < (xs.length : Int) by omega)]
  exact law_shape (y := y) (B := fun M => fm_X12_plain (scr xs (y + 1)) (scr xs (y + 2)) M) g1 g2 g3 g4 (by omega)
theorem oc_update (C : CE m ow ad e) (hR : RXE m e) (hP : P113 m) (hy : 0 ≤ y ∧ y + 7 ≤ (xs.length : Int) ∧ (xs.length : Int) < 1000000) (hc : OKc e ad (fm_X11_update (scr xs (y + 1)) (scr xs (y + 2)) (scr xs (y + 3)) m) (pcUpdate (scr xs (y + 1)) (scr xs (y + 2)) (scr xs (y + 3)) e)) (hx : ∀ m1, RXE m1 e → P113 m1 → OKp (fm_X12_update (scr xs (y + 1)) (scr xs (y + 2)) (scr xs (y + 3)) m1) cd3 (pcUpdate (scr xs (y + 1)) (scr xs (y + 2)) (scr xs (y + 3)) e)) (hq : ∀ q, (pcUpdate (scr xs (y + 1)) (scr xs (y + 2)) (scr xs (y + 3)) e).1 = .inr q → q = 0 ∨ q = 1 ∨ q = 2) (hb : ∀ z, (pcUpdate (scr xs (y + 1)) (scr xs (y + 2)) (scr xs (y + 3)) e).1 = .inl z → z = 0 ∨ z = 1) : ∃ m', fj_L_law_678 xs c y m = c (y + 7) m' ∧ (∀ (g : Int → Int → Int) (D : Int), GOK g → OWk g D m → OWk g (D + g 99 0) m') ∧ RLm m' (pcUpdate (scr xs (y + 1)) (scr xs (y + 2)) (scr xs (y + 3)) e).2 := by
  have hX : ∀ q, (pcUpdate (scr xs (y + 1)) (scr xs (y + 2)) (scr xs (y + 3)) e).1 = .inr q → cd3 q ≠ 0 ∧ ∀ M, (fun q_12 m_5 => if q_12 = 0 then some (1, m_5) else if q_12 = 1 then some (2, m_5) else if q_12 = 2 then some (3, m_5) else none : Nat → MM → Option (Int × MM)) q M = some (cd3 q, M) := fun q hh => by
    have hh2 := hq q hh
    refine ⟨?_, fun M => ?_⟩
    · rcases hh2 with rfl | rfl | rfl <;> decide
    · rcases hh2 with rfl | rfl | rfl <;> rfl
  obtain ⟨x48, m49, x92, m93, g1, g2, g3, g4, g5⟩ := law_step (W1 := fW_X11_update) (W2 := fW_X12_update) (F12 := fun M => fm_X12_update (scr xs (y + 1)) (scr xs (y + 2)) (scr xs (y + 3)) M) C hR hP hc hX (fun rr rm h => fw_X11_update hP.1 h) (by decide +kernel) (fun m1 h1 h2 => (hx m1 h1 h2).r) (fun m1 rz rm hF h => fw_X12_update hF h) (by decide +kernel) (fun m1 rz rm h1 h2 h => (hx m1 h2 h1).q113 h)
  have hA : fm_L_update (scr xs (y + 1)) (scr xs (y + 2)) (scr xs (y + 3)) m = some (x48, m49) := by
    unfold fm_L_update
    refine (bx_b fun z M hh => ?_).trans g1
    obtain ⟨mq, aq, hq1, -⟩ := hc
    rw [hq1] at hh
    exact hb z (Prod.ext_iff.mp (Option.some.inj hh)).1
  refine ⟨m93, ?_, fun gg D' hg h => ((kw_X12_update (kw_L_update hP.1 hA).fix g2).2 gg _ hg ((kw_L_update hP.1 hA).2 gg _ hg h)).mono (by (try dsimp only); omega), g5⟩
  unfold fj_L_law_678
  simp only [show w32 (y + 1) = y + 1 from w32_id (by omega) (by omega), show w32 (y + 2) = y + 2 from w32_id (by omega) (by omega), show w32 (y + 3) = y + 3 from w32_id (by omega) (by omega)]
  rw [gd_t (show 0 ≤ y + 1 ∧ y + 1 < (xs.length : Int) by omega), gd_t (show 0 ≤ y + 2 ∧ y + 2 < (xs.length : Int) by omega), gd_t (show 0 ≤ y + 3 ∧ y + 3 < (xs.length : Int) by omega)]
  exact law_shapeB (y := y) (J := fun s x M => fj_L_law_756 xs c y s x M) (B := fun M => fm_X12_update (scr xs (y + 1)) (scr xs (y + 2)) (scr xs (y + 3)) M) (fun s x M => rfl) hA g2 g3 (fun h0 => ⟨(g4 h0).1, hb _ (g4 h0).2⟩) (by omega)
theorem oc_poll (C : CE m ow ad e) (hR : RXE m e) (hP : P113 m) (hy : 0 ≤ y ∧ y + 7 ≤ (xs.length : Int) ∧ (xs.length : Int) < 1000000) (hc : OKc e ad (fm_X11_poll (scr xs (y + 1)) m) (pcPoll (scr xs (y + 1)) e)) (hx : ∀ m1, RXE m1 e → P113 m1 → OKr (fm_X12_poll (scr xs (y + 1)) m1) cd1 (pcPoll (scr xs (y + 1)) e)) (hq : ∀ q, (pcPoll (scr xs (y + 1)) e).1 = .inr q → q = 0) : ∃ m', fj_L_law_1213 xs c y m = c (y + 7) m' ∧ (∀ (g : Int → Int → Int) (D : Int), GOK g → OWk g D m → OWk g (D + g 99 0) m') ∧ RLm m' (pcPoll (scr xs (y + 1)) e).2 := by
  have hX : ∀ q, (pcPoll (scr xs (y + 1)) e).1 = .inr q → cd1 q ≠ 0 ∧ ∀ M, (fun q_12 m_5 => if q_12 = 0 then some (1, m_5) else none : Nat → MM → Option (Int × MM)) q M = some (cd1 q, M) := fun q hh => by
    have hh2 := hq q hh
    refine ⟨?_, fun M => ?_⟩
    · rcases hh2 with rfl <;> decide
    · rcases hh2 with rfl <;> rfl
  obtain ⟨x48, m49, x92, m93, g1, g2, g3, g4, g5⟩ := law_step (W1 := fW_X11_poll) (W2 := fW_X12_poll) (F12 := fun M => fm_X12_poll (scr xs (y + 1)) M) C hR hP hc hX (fun rr rm h => fw_X11_poll hP.1 h) (by decide +kernel) hx (fun m1 rz rm hF h => fw_X12_poll hF h) (by decide +kernel) (fun m1 rz rm h1 _ h => h1.fr (fw_X12_poll h1.1 h) (by decide +kernel))
  have hA : fm_L_poll (scr xs (y + 1)) m = some (x48, m49) := g1
  refine ⟨m93, ?_, fun gg D' hg h => ((kw_X12_poll (kw_L_poll hP.1 hA).fix g2).2 gg _ hg ((kw_L_poll hP.1 hA).2 gg _ hg h)).mono (by (try dsimp only); omega), g5⟩
  unfold fj_L_law_1213
  simp only [show w32 (y + 1) = y + 1 from w32_id (by omega) (by omega)]
  rw [gd_t (show 0 ≤ y + 1 ∧ y + 1 < (xs.length : Int) by omega)]
  exact law_shape (y := y) (B := fun M => fm_X12_poll (scr xs (y + 1)) M) g1 g2 g3 g4 (by omega)
theorem oc_die (C : CE m ow ad e) (hR : RXE m e) (hP : P113 m) (hy : 0 ≤ y ∧ y + 7 ≤ (xs.length : Int) ∧ (xs.length : Int) < 1000000) (hc : OKc e ad (fm_X11_die (scr xs (y + 1)) m) (pcDie (scr xs (y + 1)) e)) (hx : ∀ m1, RXE m1 e → P113 m1 → OKr (fm_X12_die (scr xs (y + 1)) m1) cd1 (pcDie (scr xs (y + 1)) e)) (hq : ∀ q, (pcDie (scr xs (y + 1)) e).1 = .inr q → q = 0) : ∃ m', fj_L_law_1325 xs c y m = c (y + 7) m' ∧ (∀ (g : Int → Int → Int) (D : Int), GOK g → OWk g D m → OWk g (D + g 99 0) m') ∧ RLm m' (pcDie (scr xs (y + 1)) e).2 := by
  have hX : ∀ q, (pcDie (scr xs (y + 1)) e).1 = .inr q → cd1 q ≠ 0 ∧ ∀ M, (fun q_12 m_5 => if q_12 = 0 then some (1, m_5) else none : Nat → MM → Option (Int × MM)) q M = some (cd1 q, M) := fun q hh => by
    have hh2 := hq q hh
    refine ⟨?_, fun M => ?_⟩
    · rcases hh2 with rfl <;> decide
    · rcases hh2 with rfl <;> rfl
  obtain ⟨x48, m49, x92, m93, g1, g2, g3, g4, g5⟩ := law_step (W1 := fW_X11_die) (W2 := fW_X12_die) (F12 := fun M => fm_X12_die (scr xs (y + 1)) M) C hR hP hc hX (fun rr rm h => fw_X11_die hP.1 h) (by decide +kernel) hx (fun m1 rz rm hF h => fw_X12_die hF h) (by decide +kernel) (fun m1 rz rm h1 _ h => h1.fr (fw_X12_die h1.1 h) (by decide +kernel))
  have hA : fm_L_die (scr xs (y + 1)) m = some (x48, m49) := g1
  refine ⟨m93, ?_, fun gg D' hg h => ((kw_X12_die (kw_L_die hP.1 hA).fix g2).2 gg _ hg ((kw_L_die hP.1 hA).2 gg _ hg h)).mono (by (try dsimp only); omega), g5⟩
  unfold fj_L_law_1325
  simp only [show w32 (y + 1) = y + 1 from w32_id (by omega) (by omega)]
  rw [gd_t (show 0 ≤ y + 1 ∧ y + 1 < (xs.length : Int) by omega)]
  exact law_shape (y := y) (B := fun M => fm_X12_die (scr xs (y + 1)) M) g1 g2 g3 g4 (by omega)
theorem oc_complete (C : CE m ow ad e) (hR : RXE m e) (hP : P113 m) (hy : 0 ≤ y ∧ y + 7 ≤ (xs.length : Int) ∧ (xs.length : Int) < 1000000) (hc : OKc e ad (fm_X11_complete (scr xs (y + 1)) m) (pcComplete (scr xs (y + 1)) e)) (hx : ∀ m1, RXE m1 e → P113 m1 → OKp (fm_X12_complete (scr xs (y + 1)) m1) cd1 (pcComplete (scr xs (y + 1)) e)) (hq : ∀ q, (pcComplete (scr xs (y + 1)) e).1 = .inr q → q = 0) : ∃ m', fj_L_law_1269 xs c y m = c (y + 7) m' ∧ (∀ (g : Int → Int → Int) (D : Int), GOK g → OWk g D m → OWk g (D + g 99 0) m') ∧ RLm m' (pcComplete (scr xs (y + 1)) e).2 := by
  have hX : ∀ q, (pcComplete (scr xs (y + 1)) e).1 = .inr q → cd1 q ≠ 0 ∧ ∀ M, (fun q_12 m_5 => if q_12 = 0 then some (1, m_5) else none : Nat → MM → Option (Int × MM)) q M = some (cd1 q, M) := fun q hh => by
    have hh2 := hq q hh
    refine ⟨?_, fun M => ?_⟩
    · rcases hh2 with rfl <;> decide
    · rcases hh2 with rfl <;> rfl
  obtain ⟨x48, m49, x92, m93, g1, g2, g3, g4, g5⟩ := law_step (W1 := fW_X11_complete) (W2 := fW_X12_complete) (F12 := fun M => fm_X12_complete (scr xs (y + 1)) M) C hR hP hc hX (fun rr rm h => fw_X11_complete hP.1 h) (by decide +kernel) (fun m1 h1 h2 => (hx m1 h1 h2).r) (fun m1 rz rm hF h => fw_X12_complete hF h) (by decide +kernel) (fun m1 rz rm h1 h2 h => (hx m1 h2 h1).q113 h)
  have hA : fm_L_complete (scr xs (y + 1)) m = some (x48, m49) := g1
  refine ⟨m93, ?_, fun gg D' hg h => ((kw_X12_complete (kw_L_complete hP.1 hA).fix g2).2 gg _ hg ((kw_L_complete hP.1 hA).2 gg _ hg h)).mono (by (try dsimp only); omega), g5⟩
  unfold fj_L_law_1269
  simp only [show w32 (y + 1) = y + 1 from w32_id (by omega) (by omega)]
  rw [gd_t (show 0 ≤ y + 1 ∧ y + 1 < (xs.length : Int) by omega)]
  exact law_shape (y := y) (B := fun M => fm_X12_complete (scr xs (y + 1)) M) g1 g2 g3 g4 (by omega)
theorem oc_move (C : CE m ow ad e) (hR : RXE m e) (hP : P113 m) (hy : 0 ≤ y ∧ y + 7 ≤ (xs.length : Int) ∧ (xs.length : Int) < 1000000) (hc : OKc e ad (fm_X11_move (scr xs (y + 1)) (scr xs (y + 2)) m) (pcMove (scr xs (y + 1)) (scr xs (y + 2)) e)) (hx : ∀ m1, RXE m1 e → P113 m1 → OKp (fm_X12_move (scr xs (y + 1)) (scr xs (y + 2)) m1) cdS (pcMove (scr xs (y + 1)) (scr xs (y + 2)) e)) (hq : ∀ q, (pcMove (scr xs (y + 1)) (scr xs (y + 2)) e).1 = .inr q → q = 0 ∨ q = 2) (hb : ∀ z, (pcMove (scr xs (y + 1)) (scr xs (y + 2)) e).1 = .inl z → z = 0 ∨ z = 1) : ∃ m', fj_L_law_1907 xs c y m = c (y + 7) m' ∧ (∀ (g : Int → Int → Int) (D : Int), GOK g → OWk g D m → OWk g (D + g 99 0) m') ∧ RLm m' (pcMove (scr xs (y + 1)) (scr xs (y + 2)) e).2 := by
  have hX : ∀ q, (pcMove (scr xs (y + 1)) (scr xs (y + 2)) e).1 = .inr q → cdS q ≠ 0 ∧ ∀ M, (fun q_12 m_5 => if q_12 = 0 then some (1, m_5) else if q_12 = 2 then some (2, m_5) else none : Nat → MM → Option (Int × MM)) q M = some (cdS q, M) := fun q hh => by
    have hh2 := hq q hh
    refine ⟨?_, fun M => ?_⟩
    · rcases hh2 with rfl | rfl <;> decide
    · rcases hh2 with rfl | rfl <;> rfl
  obtain ⟨x48, m49, x92, m93, g1, g2, g3, g4, g5⟩ := law_step (W1 := fW_X11_move) (W2 := fW_X12_move) (F12 := fun M => fm_X12_move (scr xs (y + 1)) (scr xs (y + 2)) M) C hR hP hc hX (fun rr rm h => fw_X11_move hP.1 h) (by decide +kernel) (fun m1 h1 h2 => (hx m1 h1 h2).r) (fun m1 rz rm hF h => fw_X12_move hF h) (by decide +kernel) (fun m1 rz rm h1 h2 h => (hx m1 h2 h1).q113 h)
  have hA : fm_L_move (scr xs (y + 1)) (scr xs (y + 2)) m = some (x48, m49) := by
    unfold fm_L_move
    refine (bx_b fun z M hh => ?_).trans g1
    obtain ⟨mq, aq, hq1, -⟩ := hc
    rw [hq1] at hh
    exact hb z (Prod.ext_iff.mp (Option.some.inj hh)).1
  refine ⟨m93, ?_, fun gg D' hg h => ((kw_X12_move (kw_L_move hP.1 hA).fix g2).2 gg _ hg ((kw_L_move hP.1 hA).2 gg _ hg h)).mono (by (try dsimp only); omega), g5⟩
  unfold fj_L_law_1907
  simp only [show w32 (y + 1) = y + 1 from w32_id (by omega) (by omega), show w32 (y + 2) = y + 2 from w32_id (by omega) (by omega)]
  rw [gd_t (show 0 ≤ y + 1 ∧ y + 1 < (xs.length : Int) by omega), gd_t (show 0 ≤ y + 2 ∧ y + 2 < (xs.length : Int) by omega)]
  exact law_shapeB (y := y) (J := fun s x M => fj_L_law_1973 xs c y s x M) (B := fun M => fm_X12_move (scr xs (y + 1)) (scr xs (y + 2)) M) (fun s x M => rfl) hA g2 g3 (fun h0 => ⟨(g4 h0).1, hb _ (g4 h0).2⟩) (by omega)
theorem oc_unsafe (C : CE m ow ad e) (hR : RXE m e) (hP : P113 m) (hy : 0 ≤ y ∧ y + 7 ≤ (xs.length : Int) ∧ (xs.length : Int) < 1000000) (hc : OKc e ad (fm_X11_unsafe (scr xs (y + 1)) (scr xs (y + 2)) m) (pcUnsafe (scr xs (y + 1)) (scr xs (y + 2)) e)) (hx : ∀ m1, RXE m1 e → P113 m1 → OKp (fm_X12_unsafe (scr xs (y + 1)) (scr xs (y + 2)) m1) cd1 (pcUnsafe (scr xs (y + 1)) (scr xs (y + 2)) e)) (hq : ∀ q, (pcUnsafe (scr xs (y + 1)) (scr xs (y + 2)) e).1 = .inr q → q = 0) : ∃ m', fj_L_law_1839 xs c y m = c (y + 7) m' ∧ (∀ (g : Int → Int → Int) (D : Int), GOK g → OWk g D m → OWk g (D + g 99 0) m') ∧ RLm m' (pcUnsafe (scr xs (y + 1)) (scr xs (y + 2)) e).2 := by
  have hX : ∀ q, (pcUnsafe (scr xs (y + 1)) (scr xs (y + 2)) e).1 = .inr q → cd1 q ≠ 0 ∧ ∀ M, (fun q_12 m_5 => if q_12 = 0 then some (1, m_5) else none : Nat → MM → Option (Int × MM)) q M = some (cd1 q, M) := fun q hh => by
    have hh2 := hq q hh
    refine ⟨?_, fun M => ?_⟩
    · rcases hh2 with rfl <;> decide
    · rcases hh2 with rfl <;> rfl
  obtain ⟨x48, m49, x92, m93, g1, g2, g3, g4, g5⟩ := law_step (W1 := fW_X11_unsafe) (W2 := fW_X12_unsafe) (F12 := fun M => fm_X12_unsafe (scr xs (y + 1)) (scr xs (y + 2)) M) C hR hP hc hX (fun rr rm h => fw_X11_unsafe hP.1 h) (by decide +kernel) (fun m1 h1 h2 => (hx m1 h1 h2).r) (fun m1 rz rm hF h => fw_X12_unsafe hF h) (by decide +kernel) (fun m1 rz rm h1 h2 h => (hx m1 h2 h1).q113 h)
  have hA : fm_L_unsafe (scr xs (y + 1)) (scr xs (y + 2)) m = some (x48, m49) := g1
  refine ⟨m93, ?_, fun gg D' hg h => ((kw_X12_unsafe (kw_L_unsafe hP.1 hA).fix g2).2 gg _ hg ((kw_L_unsafe hP.1 hA).2 gg _ hg h)).mono (by (try dsimp only); omega), g5⟩
  unfold fj_L_law_1839
  simp only [show w32 (y + 1) = y + 1 from w32_id (by omega) (by omega), show w32 (y + 2) = y + 2 from w32_id (by omega) (by omega)]
  rw [gd_t (show 0 ≤ y + 1 ∧ y + 1 < (xs.length : Int) by omega), gd_t (show 0 ≤ y + 2 ∧ y + 2 < (xs.length : Int) by omega)]
  exact law_shape (y := y) (B := fun M => fm_X12_unsafe (scr xs (y + 1)) (scr xs (y + 2)) M) g1 g2 g3 g4 (by omega)
theorem oc_bringIn (C : CE m ow ad e) (hR : RXE m e) (hP : P113 m) (hy : 0 ≤ y ∧ y + 7 ≤ (xs.length : Int) ∧ (xs.length : Int) < 1000000) (hc : OKc e ad (fm_X11_bringIn (scr xs (y + 1)) m) (pcBringIn (scr xs (y + 1)) e)) (hx : ∀ m1, RXE m1 e → P113 m1 → OKr (fm_X12_bringIn (scr xs (y + 1)) m1) cd1 (pcBringIn (scr xs (y + 1)) e)) (hq : ∀ q, (pcBringIn (scr xs (y + 1)) e).1 = .inr q → q = 1) : ∃ m', fj_L_law_2485 xs c y m = c (y + 7) m' ∧ (∀ (g : Int → Int → Int) (D : Int), GOK g → OWk g D m → OWk g (D + g 99 0) m') ∧ RLm m' (pcBringIn (scr xs (y + 1)) e).2 := by
  have hX : ∀ q, (pcBringIn (scr xs (y + 1)) e).1 = .inr q → cd1 q ≠ 0 ∧ ∀ M, (fun q_12 m_5 => if q_12 = 1 then some (1, m_5) else none : Nat → MM → Option (Int × MM)) q M = some (cd1 q, M) := fun q hh => by
    have hh2 := hq q hh
    refine ⟨?_, fun M => ?_⟩
    · rcases hh2 with rfl <;> decide
    · rcases hh2 with rfl <;> rfl
  obtain ⟨x48, m49, x92, m93, g1, g2, g3, g4, g5⟩ := law_step (W1 := fW_X11_bringIn) (W2 := fW_X12_bringIn) (F12 := fun M => fm_X12_bringIn (scr xs (y + 1)) M) C hR hP hc hX (fun rr rm h => fw_X11_bringIn hP.1 h) (by decide +kernel) hx (fun m1 rz rm hF h => fw_X12_bringIn hF h) (by decide +kernel) (fun m1 rz rm h1 _ h => h1.fr (fw_X12_bringIn h1.1 h) (by decide +kernel))
  have hA : fm_L_bringIn (scr xs (y + 1)) m = some (x48, m49) := g1
  refine ⟨m93, ?_, fun gg D' hg h => ((kw_X12_bringIn (kw_L_bringIn hP.1 hA).fix g2).2 gg _ hg ((kw_L_bringIn hP.1 hA).2 gg _ hg h)).mono (by (try dsimp only); omega), g5⟩
  unfold fj_L_law_2485
  simp only [show w32 (y + 1) = y + 1 from w32_id (by omega) (by omega)]
  rw [gd_t (show 0 ≤ y + 1 ∧ y + 1 < (xs.length : Int) by omega)]
  exact law_shape (y := y) (B := fun M => fm_X12_bringIn (scr xs (y + 1)) M) g1 g2 g3 g4 (by omega)
theorem oc_backfill (C : CE m ow ad e) (hR : RXE m e) (hP : P113 m) (hy : 0 ≤ y ∧ y + 7 ≤ (xs.length : Int) ∧ (xs.length : Int) < 1000000) (hc : OKc e ad (fm_X11_backfill (scr xs (y + 1)) (scr xs (y + 2)) m) (pcBackfill (scr xs (y + 1)) (scr xs (y + 2)) e)) (hx : ∀ m1, RXE m1 e → P113 m1 → OKr (fm_X12_backfill (scr xs (y + 1)) (scr xs (y + 2)) m1) cd3 (pcBackfill (scr xs (y + 1)) (scr xs (y + 2)) e)) (hq : ∀ q, (pcBackfill (scr xs (y + 1)) (scr xs (y + 2)) e).1 = .inr q → q = 0 ∨ q = 1) : ∃ m', fj_L_law_2361 xs c y m = c (y + 7) m' ∧ (∀ (g : Int → Int → Int) (D : Int), GOK g → OWk g D m → OWk g (D + g 99 0) m') ∧ RLm m' (pcBackfill (scr xs (y + 1)) (scr xs (y + 2)) e).2 := by
  have hX : ∀ q, (pcBackfill (scr xs (y + 1)) (scr xs (y + 2)) e).1 = .inr q → cd3 q ≠ 0 ∧ ∀ M, (fun q_12 m_5 => if q_12 = 0 then some (1, m_5) else if q_12 = 1 then some (2, m_5) else none : Nat → MM → Option (Int × MM)) q M = some (cd3 q, M) := fun q hh => by
    have hh2 := hq q hh
    refine ⟨?_, fun M => ?_⟩
    · rcases hh2 with rfl | rfl <;> decide
    · rcases hh2 with rfl | rfl <;> rfl
  obtain ⟨x48, m49, x92, m93, g1, g2, g3, g4, g5⟩ := law_step (W1 := fW_X11_backfill) (W2 := fW_X12_backfill) (F12 := fun M => fm_X12_backfill (scr xs (y + 1)) (scr xs (y + 2)) M) C hR hP hc hX (fun rr rm h => fw_X11_backfill hP.1 h) (by decide +kernel) hx (fun m1 rz rm hF h => fw_X12_backfill hF h) (by decide +kernel) (fun m1 rz rm h1 _ h => h1.fr (fw_X12_backfill h1.1 h) (by decide +kernel))
  have hA : fm_L_backfill (scr xs (y + 1)) (scr xs (y + 2)) m = some (x48, m49) := g1
  refine ⟨m93, ?_, fun gg D' hg h => ((kw_X12_backfill (kw_L_backfill hP.1 hA).fix g2).2 gg _ hg ((kw_L_backfill hP.1 hA).2 gg _ hg h)).mono (by (try dsimp only); omega), g5⟩
  unfold fj_L_law_2361
  simp only [show w32 (y + 1) = y + 1 from w32_id (by omega) (by omega), show w32 (y + 2) = y + 2 from w32_id (by omega) (by omega)]
  rw [gd_t (show 0 ≤ y + 1 ∧ y + 1 < (xs.length : Int) by omega), gd_t (show 0 ≤ y + 2 ∧ y + 2 < (xs.length : Int) by omega)]
  exact law_shape (y := y) (B := fun M => fm_X12_backfill (scr xs (y + 1)) (scr xs (y + 2)) M) g1 g2 g3 g4 (by omega)
theorem oc_join (C : CE m ow ad e) (hR : RXE m e) (hP : P113 m) (hy : 0 ≤ y ∧ y + 7 ≤ (xs.length : Int) ∧ (xs.length : Int) < 1000000) (hc : OKc e ad (fm_X11_join  m) (pcJoin e)) (hx : ∀ m1, RXE m1 e → P113 m1 → OKr (fm_X12_join  m1) cd1 (pcJoin e)) (hq : ∀ q, (pcJoin e).1 = .inr q → q = 2) : ∃ m', fj_L_law_2162 xs c y m = c (y + 7) m' ∧ (∀ (g : Int → Int → Int) (D : Int), GOK g → OWk g D m → OWk g (D + g 99 0) m') ∧ RLm m' (pcJoin e).2 := by
  have hX : ∀ q, (pcJoin e).1 = .inr q → cd1 q ≠ 0 ∧ ∀ M, (fun q_12 m_5 => if q_12 = 2 then some (1, m_5) else none : Nat → MM → Option (Int × MM)) q M = some (cd1 q, M) := fun q hh => by
    have hh2 := hq q hh
    refine ⟨?_, fun M => ?_⟩
    · rcases hh2 with rfl <;> decide
    · rcases hh2 with rfl <;> rfl
  obtain ⟨x48, m49, x92, m93, g1, g2, g3, g4, g5⟩ := law_step (W1 := fW_X11_join) (W2 := fW_X12_join) (F12 := fun M => fm_X12_join  M) C hR hP hc hX (fun rr rm h => fw_X11_join hP.1 h) (by decide +kernel) hx (fun m1 rz rm hF h => fw_X12_join hF h) (by decide +kernel) (fun m1 rz rm h1 _ h => h1.fr (fw_X12_join h1.1 h) (by decide +kernel))
  have hA : fm_L_join m = some (x48, m49) := g1
  refine ⟨m93, ?_, fun gg D' hg h => ((kw_X12_join (kw_L_join hP.1 hA).fix g2).2 gg _ hg ((kw_L_join hP.1 hA).2 gg _ hg h)).mono (by (try dsimp only); omega), g5⟩
  unfold fj_L_law_2162
  exact law_shape (y := y) (B := fun M => fm_X12_join  M) g1 g2 g3 g4 (by omega)
theorem oc_setBack (C : CE m ow ad e) (hR : RXE m e) (hP : P113 m) (hy : 0 ≤ y ∧ y + 7 ≤ (xs.length : Int) ∧ (xs.length : Int) < 1000000) (hc : OKc e ad (fm_X11_setBack (scr xs (y + 1)) (scr xs (y + 2)) m) (pcSetBack (scr xs (y + 1)) (scr xs (y + 2)) e)) (hx : ∀ m1, RXE m1 e → P113 m1 → OKr (fm_X12_setBack (scr xs (y + 1)) (scr xs (y + 2)) m1) cdS (pcSetBack (scr xs (y + 1)) (scr xs (y + 2)) e)) (hq : ∀ q, (pcSetBack (scr xs (y + 1)) (scr xs (y + 2)) e).1 = .inr q → q = 0 ∨ q = 2) : ∃ m', fj_L_law_1982 xs c y m = c (y + 7) m' ∧ (∀ (g : Int → Int → Int) (D : Int), GOK g → OWk g D m → OWk g (D + g 99 0) m') ∧ RLm m' (pcSetBack (scr xs (y + 1)) (scr xs (y + 2)) e).2 := by
  have hX : ∀ q, (pcSetBack (scr xs (y + 1)) (scr xs (y + 2)) e).1 = .inr q → cdS q ≠ 0 ∧ ∀ M, (fun q_12 m_5 => if q_12 = 0 then some (1, m_5) else if q_12 = 2 then some (2, m_5) else none : Nat → MM → Option (Int × MM)) q M = some (cdS q, M) := fun q hh => by
    have hh2 := hq q hh
    refine ⟨?_, fun M => ?_⟩
    · rcases hh2 with rfl | rfl <;> decide
    · rcases hh2 with rfl | rfl <;> rfl
  obtain ⟨x48, m49, x92, m93, g1, g2, g3, g4, g5⟩ := law_step (W1 := fW_X11_setBack) (W2 := fW_X12_setBack) (F12 := fun M => fm_X12_setBack (scr xs (y + 1)) (scr xs (y + 2)) M) C hR hP hc hX (fun rr rm h => fw_X11_setBack hP.1 h) (by decide +kernel) hx (fun m1 rz rm hF h => fw_X12_setBack hF h) (by decide +kernel) (fun m1 rz rm h1 _ h => h1.fr (fw_X12_setBack h1.1 h) (by decide +kernel))
  have hA : fm_L_setBack (scr xs (y + 1)) (scr xs (y + 2)) m = some (x48, m49) := g1
  refine ⟨m93, ?_, fun gg D' hg h => ((kw_X12_setBack (kw_L_setBack hP.1 hA).fix g2).2 gg _ hg ((kw_L_setBack hP.1 hA).2 gg _ hg h)).mono (by (try dsimp only); omega), g5⟩
  unfold fj_L_law_1982
  simp only [show w32 (y + 1) = y + 1 from w32_id (by omega) (by omega), show w32 (y + 2) = y + 2 from w32_id (by omega) (by omega)]
  rw [gd_t (show 0 ≤ y + 1 ∧ y + 1 < (xs.length : Int) by omega), gd_t (show 0 ≤ y + 2 ∧ y + 2 < (xs.length : Int) by omega)]
  exact law_shape (y := y) (B := fun M => fm_X12_setBack (scr xs (y + 1)) (scr xs (y + 2)) M) g1 g2 g3 g4 (by omega)
theorem oc_takeOver (C : CE m ow ad e) (hR : RXE m e) (hP : P113 m) (hy : 0 ≤ y ∧ y + 7 ≤ (xs.length : Int) ∧ (xs.length : Int) < 1000000) (hc : OKc e ad (fm_X11_takeOver  m) (pcTakeOver e)) (hx : ∀ m1, RXE m1 e → P113 m1 → OKr (fm_X12_takeOver  m1) cd1 (pcTakeOver e)) (hq : ∀ q, (pcTakeOver e).1 = .inr q → q = 2) : ∃ m', fj_L_law_2118 xs c y m = c (y + 7) m' ∧ (∀ (g : Int → Int → Int) (D : Int), GOK g → OWk g D m → OWk g (D + g 99 0) m') ∧ RLm m' (pcTakeOver e).2 := by
  have hX : ∀ q, (pcTakeOver e).1 = .inr q → cd1 q ≠ 0 ∧ ∀ M, (fun q_12 m_5 => if q_12 = 2 then some (1, m_5) else none : Nat → MM → Option (Int × MM)) q M = some (cd1 q, M) := fun q hh => by
    have hh2 := hq q hh
    refine ⟨?_, fun M => ?_⟩
    · rcases hh2 with rfl <;> decide
    · rcases hh2 with rfl <;> rfl
  obtain ⟨x48, m49, x92, m93, g1, g2, g3, g4, g5⟩ := law_step (W1 := fW_X11_takeOver) (W2 := fW_X12_takeOver) (F12 := fun M => fm_X12_takeOver  M) C hR hP hc hX (fun rr rm h => fw_X11_takeOver hP.1 h) (by decide +kernel) hx (fun m1 rz rm hF h => fw_X12_takeOver hF h) (by decide +kernel) (fun m1 rz rm h1 _ h => h1.fr (fw_X12_takeOver h1.1 h) (by decide +kernel))
  have hA : fm_L_takeOver m = some (x48, m49) := g1
  refine ⟨m93, ?_, fun gg D' hg h => ((kw_X12_takeOver (kw_L_takeOver hP.1 hA).fix g2).2 gg _ hg ((kw_L_takeOver hP.1 hA).2 gg _ hg h)).mono (by (try dsimp only); omega), g5⟩
  unfold fj_L_law_2118
  exact law_shape (y := y) (B := fun M => fm_X12_takeOver  M) g1 g2 g3 g4 (by omega)
theorem oc_pass (C : CE m ow ad e) (hR : RXE m e) (hP : P113 m) (hy : 0 ≤ y ∧ y + 7 ≤ (xs.length : Int) ∧ (xs.length : Int) < 1000000) (hc : OKc e ad (fm_X11_pass (scr xs (y + 1)) m) (pcPass (scr xs (y + 1)) e)) (hx : ∀ m1, RXE m1 e → P113 m1 → OKr (fm_X12_pass (scr xs (y + 1)) m1) cd1 (pcPass (scr xs (y + 1)) e)) (hq : ∀ q, (pcPass (scr xs (y + 1)) e).1 = .inr q → q = 1) : ∃ m', fj_L_law_1783 xs c y m = c (y + 7) m' ∧ (∀ (g : Int → Int → Int) (D : Int), GOK g → OWk g D m → OWk g (D + g 99 0) m') ∧ RLm m' (pcPass (scr xs (y + 1)) e).2 := by
  have hX : ∀ q, (pcPass (scr xs (y + 1)) e).1 = .inr q → cd1 q ≠ 0 ∧ ∀ M, (fun q_12 m_5 => if q_12 = 1 then some (1, m_5) else none : Nat → MM → Option (Int × MM)) q M = some (cd1 q, M) := fun q hh => by
    have hh2 := hq q hh
    refine ⟨?_, fun M => ?_⟩
    · rcases hh2 with rfl <;> decide
    · rcases hh2 with rfl <;> rfl
  obtain ⟨x48, m49, x92, m93, g1, g2, g3, g4, g5⟩ := law_step (W1 := fW_X11_pass) (W2 := fW_X12_pass) (F12 := fun M => fm_X12_pass (scr xs (y + 1)) M) C hR hP hc hX (fun rr rm h => fw_X11_pass hP.1 h) (by decide +kernel) hx (fun m1 rz rm hF h => fw_X12_pass hF h) (by decide +kernel) (fun m1 rz rm h1 _ h => h1.fr (fw_X12_pass h1.1 h) (by decide +kernel))
  have hA : fm_L_pass (scr xs (y + 1)) m = some (x48, m49) := g1
  refine ⟨m93, ?_, fun gg D' hg h => ((kw_X12_pass (kw_L_pass hP.1 hA).fix g2).2 gg _ hg ((kw_L_pass hP.1 hA).2 gg _ hg h)).mono (by (try dsimp only); omega), g5⟩
  unfold fj_L_law_1783
  simp only [show w32 (y + 1) = y + 1 from w32_id (by omega) (by omega)]
  rw [gd_t (show 0 ≤ y + 1 ∧ y + 1 < (xs.length : Int) by omega)]
  exact law_shape (y := y) (B := fun M => fm_X12_pass (scr xs (y + 1)) M) g1 g2 g3 g4 (by omega)
end OCLWO

section OCLWP
variable {m m' M m1 m2 : MM} {ow : Int → Int} {ad : Int → Int → Int} {e e' : ES} {a b k i j y v w p s x n P : Int} {xs : List Int32} {c : Int → MM → Option (Int × MM)}
theorem oc_fail (C : CE m ow ad e) (hR : RXE m e) (hP : P113 m) (hy : 0 ≤ y ∧ y + 7 ≤ (xs.length : Int) ∧ (xs.length : Int) < 1000000) (hp : P = if scr xs (y + 2) = 0 then 0 else 1) (hc : OKc e ad (fm_X11_fail (scr xs (y + 1)) P m) (pcFail (scr xs (y + 1)) P e)) (hx : ∀ m1, RXE m1 e → P113 m1 → OKr (fm_X12_fail (scr xs (y + 1)) P m1) cd1 (pcFail (scr xs (y + 1)) P e)) (hq : ∀ q, (pcFail (scr xs (y + 1)) P e).1 = .inr q → q = 0) (hb : ∀ z, (pcFail (scr xs (y + 1)) P e).1 = .inl z → z = 0 ∨ z = 1) : ∃ m', fj_L_law_1568 xs c y m = c (y + 7) m' ∧ (∀ (g : Int → Int → Int) (D : Int), GOK g → OWk g D m → OWk g (D + g 99 0) m') ∧ RLm m' (pcFail (scr xs (y + 1)) P e).2 := by
  have hX : ∀ q, (pcFail (scr xs (y + 1)) P e).1 = .inr q → cd1 q ≠ 0 ∧ ∀ M, (fun q_12 m_5 => if q_12 = 0 then some (1, m_5) else none : Nat → MM → Option (Int × MM)) q M = some (cd1 q, M) := fun q hh => by
    have hh2 := hq q hh
    subst hh2
    exact ⟨by decide, fun M => rfl⟩
  obtain ⟨x48, m49, x92, m93, g1, g2, g3, g4, g5⟩ := law_step (W1 := fW_X11_fail) (W2 := fW_X12_fail) (F12 := fun M => fm_X12_fail (scr xs (y + 1)) P M) C hR hP hc hX (fun rr rm h => fw_X11_fail hP.1 h) (by decide +kernel) hx (fun m1 rz rm hF h => fw_X12_fail hF h) (by decide +kernel) (fun m1 rz rm h1 _ h => h1.fr (fw_X12_fail h1.1 h) (by decide +kernel))
  have hA : fm_L_fail (scr xs (y + 1)) P m = some (x48, m49) := by
    unfold fm_L_fail
    refine (bx_b fun z M hh => ?_).trans g1
    obtain ⟨mq, aq, hq1, -⟩ := hc
    rw [hq1] at hh
    exact hb z (Prod.ext_iff.mp (Option.some.inj hh)).1
  refine ⟨m93, ?_, fun gg D' hg h => ((kw_X12_fail (kw_L_fail hP.1 hA).fix g2).2 gg _ hg ((kw_L_fail hP.1 hA).2 gg _ hg h)).mono (by (try dsimp only); omega), g5⟩
  have w1 : w32 (y + 1) = y + 1 := w32_id (by omega) (by omega)
  have w2 : w32 (y + 2) = y + 2 := w32_id (by omega) (by omega)
  have w7 : w32 (y + 7) = y + 7 := w32_id (by omega) (by omega)
  have ht : fm_X12_thrown m93 = some x48 := by
    unfold fm_X12_thrown
    rw [lx_p, g3]
  have g2' : fm_X12_fail (scr xs (y + 1)) P m49 = some (x92, m93) := g2
  have h16 : fj_L_law_1616 xs c y x48 P (scr xs (y + 1)) m49 = c (y + 7) m93 := by
    unfold fj_L_law_1616
    rw [bd_t g2', bp_t ht, if_pos rfl]
    by_cases c0 : x48 = 0
    · obtain ⟨h1, h2⟩ := g4 c0
      rw [if_pos c0, lx_p, h1]
      rcases hb _ h2 with h2 | h2
      · rw [if_pos h2]
        unfold fj_L_law_1650
        rw [if_pos h2, lx_p, w7]
      · rw [if_neg (by omega)]
        unfold fj_L_law_1650
        rw [if_pos h2, lx_p, w7]
    · rw [if_neg c0, lx_p, w7]
  have h15 : fj_L_law_1589 xs c y P (scr xs (y + 1)) m = c (y + 7) m93 := by
    unfold fj_L_law_1589
    simp only [w1, w2]
    rw [bd_t hA, gd_t (show 0 ≤ y + 1 ∧ y + 1 < (xs.length : Int) by omega), gd_t (show 0 ≤ y + 2 ∧ y + 2 < (xs.length : Int) by omega)]
    by_cases c2 : scr xs (y + 2) = 0
    · rw [if_pos c2] at hp
      subst hp
      rw [if_pos c2]
      exact h16
    · rw [if_neg c2] at hp
      subst hp
      rw [if_neg c2]
      exact h16
  unfold fj_L_law_1568
  simp only [w1, w2]
  rw [gd_t (show 0 ≤ y + 1 ∧ y + 1 < (xs.length : Int) by omega), gd_t (show 0 ≤ y + 2 ∧ y + 2 < (xs.length : Int) by omega)]
  by_cases c2 : scr xs (y + 2) = 0
  · rw [if_pos c2] at hp
    subst hp
    rw [if_pos c2]
    exact h15
  · rw [if_neg c2] at hp
    subst hp
    rw [if_neg c2]
    exact h15
end OCLWP
