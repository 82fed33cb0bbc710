/-! THE REFERENCE'S ENGINE: a new schedule, a new activity; schedule. -/
section RXC9
variable {m m' M : MM} {e e' e2 : ES} {a b c i j k o r v w p t s x y n ev p1 p2 p3 p4 p5 p6 q A B : Int} {l : List Int} {f : Int → Int}
theorem CN.pnew (hc : CN e) (h8 : 8 ≤ c) (h10 : c ≤ 10) (h1 : c = 8 → e.1 8 2 < 60) (h2 : c = 9 → e.1 9 2 < 512) (h3 : c = 10 → e.1 10 2 < 4) : CN (pNew c f e) := hc.new h8 h10 h1 h2 h3
theorem RXE.newS (h : RXE m e) (hc : CN e) (hn : e.1 10 2 < 4) (hS : B = e.1 10 2) : RXE (mset (mset (mset (mset (mset (mset m 128 B p1) 129 B p2) 130 B p3) 131 B p4) 132 B p5) 68 69 (B + 1)) (pNew 10 (fSch p1 p2 p3 p4 p5) e) := by
  have n7 := hc.1
  have n10 := hc.2.2.2.1
  have f1 : ∀ a u : Int, a ≠ 10 → a ≠ 10000 + B → (pNew 10 (fSch p1 p2 p3 p4 p5) e).1 a u = e.1 a u := fun a u g1 g2 => pNew_a g1 (by rw [hS] at g2; omega)
  have f2 : (pNew 10 (fSch p1 p2 p3 p4 p5) e).1 10 2 = B + 1 := by rw [hS]; exact pNew_n
  have f3 : ∀ u, (pNew 10 (fSch p1 p2 p3 p4 p5) e).1 (10000 + B) u = fSch p1 p2 p3 p4 p5 u := fun u => by rw [hS]; exact pNew_f10 (by omega)
  have x1 : ∀ a j : Int, (a < 128 ∨ 132 < a) ∨ j ≠ B → (a ≠ 68 ∨ j ≠ 69) → mset (mset (mset (mset (mset (mset m 128 B p1) 129 B p2) 130 B p3) 131 B p4) 132 B p5) 68 69 (B + 1) a j = m a j := fun a j g1 g2 => by
    unfold mset
    rw [if_neg (by omega), if_neg (by omega), if_neg (by omega), if_neg (by omega), if_neg (by omega), if_neg (by omega)]
  refine h.chg hc (W := fun a => 128 ≤ a ∧ a ≤ 132) (U := fun a => a = 69) (V := fun a => a = 10 ∨ a = 10000 + B) (fun a j g1 g2 g3 => x1 a j (by omega) (by omega)) (fun u g1 g2 => x1 _ _ (by omega) (by omega)) ⟨fun a u g => f1 a u (by omega) (by omega), fun c _ => rfl, fun i _ => rfl⟩ (by rw [f1 _ _ (by omega) (by omega)]; omega) (DdM.of fun q q0 q1 => f1 _ _ (by omega) (by omega)) (by rw [f1 _ _ (by omega) (by omega)]; omega) (Or.inr ?_) (Or.inl ⟨fun a g => by omega, fun a g => by omega, fun a g => by omega⟩) (Or.inl ⟨fun a g => by omega, fun a g => by omega, fun a g => by omega⟩) (Or.inl ⟨fun a g => by omega, fun a g => by omega, fun a g => by omega⟩) (Or.inl ⟨fun a g => by omega, fun a g => by omega, fun a g => by omega⟩) (Or.inl ⟨fun a g => by omega, fun a g => by omega, fun a g => by omega⟩) (Or.inl ⟨fun a g => by omega, fun a g => by omega, fun a g => by omega⟩) (Or.inl ⟨fun a g => by omega, fun a g => by omega, fun a g => by omega⟩) (Or.inr ⟨fun p g0 g1 i i0 i1 => ?_, fun p g0 g1 => ?_⟩) (Or.inl ⟨fun a g => by omega, fun a g => by omega, fun a g => by omega⟩) (Or.inl ⟨fun a g => by omega, fun a g => by omega, fun a g => by omega⟩) (Or.inl ⟨fun a g => by omega, fun a g => by omega, fun a g => by omega⟩) (Or.inl ⟨fun a g => by omega, fun a g => by omega, fun a g => by omega⟩)
  · obtain ⟨s1, s2, s3, s4, s5, s6, s7, s8, s9, s10, s11⟩ := h.ps
    unfold RXs
    rw [x1 68 0 (by omega) (by omega), x1 68 12 (by omega) (by omega), x1 68 29 (by omega) (by omega), x1 68 30 (by omega) (by omega), x1 68 34 (by omega) (by omega), x1 68 50 (by omega) (by omega), x1 68 51 (by omega) (by omega), x1 68 68 (by omega) (by omega), x1 68 79 (by omega) (by omega), x1 68 80 (by omega) (by omega), f2, f1 4 _ (by omega) (by omega), f1 4 _ (by omega) (by omega), f1 4 _ (by omega) (by omega), f1 4 _ (by omega) (by omega), f1 4 _ (by omega) (by omega), f1 68 _ (by omega) (by omega), f1 68 _ (by omega) (by omega), f1 7 _ (by omega) (by omega), f1 8 _ (by omega) (by omega), f1 9 _ (by omega) (by omega)]
    exact ⟨s1, s2, s3, s4, s5, s6, s7, s8, ms_e, s10, s11⟩
  · rw [f2] at g1
    by_cases c : p = B
    · subst c
      obtain ⟨z1, z2, z3, z4⟩ := h.pc.2 p (by omega) (by omega)
      rw [f3]
      have hi : i = 0 ∨ i = 1 ∨ i = 2 ∨ i = 3 ∨ i = 4 ∨ i = 5 ∨ i = 6 ∨ i = 7 ∨ i = 8 := by omega
      rcases hi with rfl | rfl | rfl | rfl | rfl | rfl | rfl | rfl | rfl
      · show _ = p1; rw [ms_a (by decide), ms_a (by decide), ms_a (by decide), ms_a (by decide), ms_a (by decide)]; exact ms_e
      · show _ = p2; rw [ms_a (by decide), ms_a (by decide), ms_a (by decide), ms_a (by decide)]; exact ms_e
      · show _ = p3; rw [ms_a (by decide), ms_a (by decide), ms_a (by decide)]; exact ms_e
      · show _ = p4; rw [ms_a (by decide), ms_a (by decide)]; exact ms_e
      · show _ = p5; rw [ms_a (by decide)]; exact ms_e
      · rw [x1 _ _ (by omega) (by omega)]; exact z1
      · rw [x1 _ _ (by omega) (by omega)]; exact z2
      · rw [x1 _ _ (by omega) (by omega)]; exact z3
      · rw [x1 _ _ (by omega) (by omega)]; exact z4
    · rw [x1 _ _ (Or.inr c) (by omega), f1 _ _ (by omega) (by omega)]
      exact h.pc.1 p g0 (by omega) i i0 i1
  · rw [f2] at g0
    rw [x1 133 _ (by omega) (by omega), x1 134 _ (by omega) (by omega), x1 135 _ (by omega) (by omega), x1 136 _ (by omega) (by omega)]
    exact h.pc.2 p (by omega) g1
theorem x_schedule (h : RXE m e) (hc : CN e) (hl : RLw e) (hg : -20000 ≤ e.1 4 15 ∧ e.1 4 15 ≤ 20000) : OKr (fm_X12_schedule p1 p2 p3 p4 m) cd3 (pcSchedule p1 p2 p3 p4 e) := by
  have h0 := h.th (q := 0) hc
  have n10 := hc.2.2.2.1
  have no : ∀ (q : Int) (n : Nat), 0 < q → cd3 n = q → OKr (fj_X12_schedule_89 p1 p2 p3 p4 q m) cd3 (rT n e) := fun q n hq hn => by
    unfold fj_X12_schedule_89
    rw [bd_t fails_e, if_pos hq, if_neg (show ¬ (1 : Int) = 0 by decide)]
    exact OKr.no h hc hn
  have h46 : ∀ s0 : Int, (s0 = 0 ∨ s0 = 1) → 0 ≤ p1 ∧ p1 < 4 → OKr (fj_X12_schedule_46 p1 p2 p3 p4 1 s0 m) cd3 (if s0 = 0 then rT 1 e else if 0 < e.1 (48 + 4 * p1 + 1) 2 ∧ e.1 10 2 < 4 then (.inl (e.1 10 2), pNew 10 (fSch p1 p2 p3 p4 (e.1 4 14 + e.1 4 15)) e) else rT 2 e) := fun s0 hs c1 => by
    unfold fj_X12_schedule_46
    rw [if_neg (show ¬ (1 : Int) = 0 by decide)]
    by_cases c2 : s0 = 0
    · rw [if_pos c2, if_pos c2]
      exact no 2 1 (by decide) rfl
    · have t1 := (h.pt p1 c1.1 c1.2).1
      have hv := hc.2.2.2.2 (48 + 4 * p1) (isT_4 c1.1 c1.2)
      have e69 : m 68 69 = e.1 10 2 := h.ps.2.2.2.2.2.2.2.2.1
      rw [if_neg c2, if_neg c2, gd_t c1, lx_p, t1, show 49 + 4 * p1 = 48 + 4 * p1 + 1 by omega]
      by_cases c3 : e.1 (48 + 4 * p1 + 1) 2 = 0
      · rw [if_pos c3, if_neg (fun hh => by omega)]
        exact no 3 2 (by decide) rfl
      · rw [if_neg c3, lx_p, e69]
        by_cases c4 : e.1 10 2 = 4
        · rw [if_pos c4, if_neg (fun hh => by omega)]
          exact no 3 2 (by decide) rfl
        · rw [if_neg c4, if_pos (show 0 < e.1 (48 + 4 * p1 + 1) 2 ∧ e.1 10 2 < 4 by omega)]
          have e0 : mset m 68 129 0 68 0 = e.1 4 14 := h0.ps.1
          have e68 : mset m 68 129 0 68 68 = e.1 4 15 := h0.ps.2.2.2.2.2.2.2.1
          have e69' : mset m 68 129 0 68 69 = e.1 10 2 := h0.ps.2.2.2.2.2.2.2.2.1
          have ht := hl.1
          unfold fj_X12_schedule_89
          rw [bd_t fails_e, if_neg (show ¬ (0 : Int) < 0 by decide), if_pos (show (0 : Int) = 0 from rfl), lx_p, e69', gd_t (by omega), up_t, lx_p, ms_a (b := 68) (i := 69) (by decide), e69', gd_t (by omega), up_t, lx_p, ms_a (b := 68) (i := 69) (by decide), ms_a (b := 68) (i := 69) (by decide), e69', gd_t (by omega), up_t, lx_p, ms_a (b := 68) (i := 69) (by decide), ms_a (b := 68) (i := 69) (by decide), ms_a (b := 68) (i := 69) (by decide), e69', gd_t (by omega), up_t, lx_p, ms_a (b := 68) (i := 69) (by decide), ms_a (b := 68) (i := 69) (by decide), ms_a (b := 68) (i := 69) (by decide), ms_a (b := 68) (i := 69) (by decide), e69', lx_p, ms_a (b := 68) (i := 0) (by decide), ms_a (b := 68) (i := 0) (by decide), ms_a (b := 68) (i := 0) (by decide), ms_a (b := 68) (i := 0) (by decide), e0, lx_p, ms_a (b := 68) (i := 68) (by decide), ms_a (b := 68) (i := 68) (by decide), ms_a (b := 68) (i := 68) (by decide), ms_a (b := 68) (i := 68) (by decide), e68, gd_t (by omega), w32_id (z := e.1 4 14 + e.1 4 15) (by omega) (by omega), up_t, lx_p, ms_a (b := 68) (i := 69) (by decide), ms_a (b := 68) (i := 69) (by decide), ms_a (b := 68) (i := 69) (by decide), ms_a (b := 68) (i := 69) (by decide), ms_a (b := 68) (i := 69) (by decide), e69', w32_id (z := e.1 10 2 + 1) (by omega) (by omega), up_t, lx_p, ms_e, w32_id (by omega) (by omega), show e.1 10 2 + 1 - 1 = e.1 10 2 by omega]
          exact OKr.fin (h0.newS hc (by omega) rfl) (by rw [ms_j (by decide), ms_a (by decide), ms_a (by decide), ms_a (by decide), ms_a (by decide), ms_a (by decide)]; exact ms_e)
  have bad : OKr (fj_X12_schedule_46 p1 p2 p3 p4 0 0 m) cd3 (rT 0 e) ∧ OKr (fj_X12_schedule_46 p1 p2 p3 p4 0 1 m) cd3 (rT 0 e) := by
    unfold fj_X12_schedule_46
    rw [if_pos (show (0 : Int) = 0 from rfl), if_pos (show (0 : Int) = 0 from rfl)]
    exact ⟨no 1 0 (by decide) rfl, no 1 0 (by decide) rfl⟩
  have b19 : OKr (fj_X12_schedule_19 p1 p2 p3 p4 0 m) cd3 (rT 0 e) := by
    unfold fj_X12_schedule_19
    rw [bp_t isIn_e]
    by_cases d1 : 1 ≤ p3 ∧ p3 ≤ 50
    · rw [if_pos d1, if_neg (show ¬ (1 : Int) = 0 by decide), bp_t isIn_e]
      by_cases d2 : 0 ≤ p4 ∧ p4 ≤ 3
      · rw [if_pos d2, if_neg (show ¬ (1 : Int) = 0 by decide)]
        exact bad.2
      · rw [if_neg d2, if_pos (show (0 : Int) = 0 from rfl)]
        exact bad.1
    · rw [if_neg d1, if_pos (show (0 : Int) = 0 from rfl)]
      exact bad.1
  unfold fm_X12_schedule pcSchedule
  rw [bp_t rIsT]
  by_cases c1 : 0 ≤ p1 ∧ p1 < 4
  · rw [if_pos c1, if_neg (show ¬ (1 : Int) = 0 by decide), if_pos c1, bp_t rIsTn]
    by_cases c2 : 0 ≤ p2 ∧ p2 < 3
    · have m0 := h46 0 (Or.inl rfl) c1
      have m1 := h46 1 (Or.inr rfl) c1
      rw [if_pos (show (0 : Int) = 0 from rfl)] at m0
      rw [if_neg (show ¬ (1 : Int) = 0 by decide)] at m1
      rw [if_pos c2, if_neg (show ¬ (1 : Int) = 0 by decide), if_pos c2]
      unfold fj_X12_schedule_19
      rw [bp_t isIn_e]
      by_cases d1 : 1 ≤ p3 ∧ p3 ≤ 50
      · rw [if_pos d1, if_neg (show ¬ (1 : Int) = 0 by decide), bp_t isIn_e]
        by_cases d2 : 0 ≤ p4 ∧ p4 ≤ 3
        · rw [if_pos d2, if_neg (show ¬ (1 : Int) = 0 by decide), if_neg (show ¬ (p3 < 1 ∨ 50 < p3 ∨ p4 < 0 ∨ 3 < p4) by omega)]
          exact m1
        · rw [if_neg d2, if_pos (show (0 : Int) = 0 from rfl), if_pos (show p3 < 1 ∨ 50 < p3 ∨ p4 < 0 ∨ 3 < p4 by omega)]
          exact m0
      · rw [if_neg d1, if_pos (show (0 : Int) = 0 from rfl), if_pos (show p3 < 1 ∨ 50 < p3 ∨ p4 < 0 ∨ 3 < p4 by omega)]
        exact m0
    · rw [if_neg c2, if_pos (show (0 : Int) = 0 from rfl), if_neg c2]
      exact b19
  · rw [if_neg c1, if_pos (show (0 : Int) = 0 from rfl), if_neg c1]
    exact b19
def xNA (m : MM) (B r ev k x t : Int) : MM := mset (mset (mset (mset (mset (mset (mset (mset (mset (mset m 98 B r) 99 B ev) 100 B k) 101 B x) 102 B 0) 103 B 0) 104 B t) 105 B t) 108 B 0) 68 34 (B + 1)
theorem RXE.newA (h : RXE m e) (hc : CN e) (hn : e.1 8 2 < 60) (ht : 0 ≤ e.1 4 14) (hB : B = e.1 8 2) : RXE (xNA m B r ev k x (e.1 4 14)) (pNew 8 (fAct r ev k x (e.1 4 14)) e) := by
  have n7 := hc.1
  have n8 := hc.2.1
  have f1 : ∀ a u : Int, a ≠ 8 → a ≠ 8000 + B → (pNew 8 (fAct r ev k x (e.1 4 14)) e).1 a u = e.1 a u := fun a u g1 g2 => pNew_a g1 (by rw [hB] at g2; omega)
  have f2 : (pNew 8 (fAct r ev k x (e.1 4 14)) e).1 8 2 = B + 1 := by rw [hB]; exact pNew_n
  have f3 : ∀ u, (pNew 8 (fAct r ev k x (e.1 4 14)) e).1 (8000 + B) u = fAct r ev k x (e.1 4 14) u := fun u => by rw [hB]; exact pNew_f8 (by omega)
  have x1 : ∀ a j : Int, (a < 98 ∨ 108 < a) ∨ j ≠ B → (a ≠ 68 ∨ j ≠ 34) → xNA m B r ev k x (e.1 4 14) a j = m a j := fun a j g1 g2 => by
    unfold xNA mset
    rw [if_neg (by omega), if_neg (by omega), if_neg (by omega), if_neg (by omega), if_neg (by omega), if_neg (by omega), if_neg (by omega), if_neg (by omega), if_neg (by omega), if_neg (by omega)]
  refine h.chg hc (W := fun a => 98 ≤ a ∧ a ≤ 108) (U := fun a => a = 34) (V := fun a => a = 8 ∨ a = 8000 + B) (fun a j g1 g2 g3 => x1 a j (by omega) (by omega)) (fun u g1 g2 => x1 _ _ (by omega) (by omega)) ⟨fun a u g => f1 a u (by omega) (by omega), fun c _ => rfl, fun i _ => rfl⟩ (by rw [f1 _ _ (by omega) (by omega)]; omega) (DdM.of fun q q0 q1 => f1 _ _ (by omega) (by omega)) (by rw [f1 _ _ (by omega) (by omega)]; omega) (Or.inr ?_) (Or.inl ⟨fun a g => by omega, fun a g => by omega, fun a g => by omega⟩) (Or.inl ⟨fun a g => by omega, fun a g => by omega, fun a g => by omega⟩) (Or.inl ⟨fun a g => by omega, fun a g => by omega, fun a g => by omega⟩) (Or.inr fun p g0 g1 => ?_) (Or.inl ⟨fun a g => by omega, fun a g => by omega, fun a g => by omega⟩) (Or.inl ⟨fun a g => by omega, fun a g => by omega, fun a g => by omega⟩) (Or.inl ⟨fun a g => by omega, fun a g => by omega, fun a g => by omega⟩) (Or.inl ⟨fun a g => by omega, fun a g => by omega, fun a g => by omega⟩) (Or.inl ⟨fun a g => by omega, fun a g => by omega, fun a g => by omega⟩) (Or.inl ⟨fun a g => by omega, fun a g => by omega, fun a g => by omega⟩) (Or.inl ⟨fun a g => by omega, fun a g => by omega, fun a g => by omega⟩) (Or.inl ⟨fun a g => by omega, fun a g => by omega, fun a g => by omega⟩)
  · obtain ⟨s1, s2, s3, s4, s5, s6, s7, s8, s9, s10, s11⟩ := h.ps
    unfold RXs
    rw [x1 68 0 (by omega) (by omega), x1 68 12 (by omega) (by omega), x1 68 29 (by omega) (by omega), x1 68 30 (by omega) (by omega), x1 68 50 (by omega) (by omega), x1 68 51 (by omega) (by omega), x1 68 68 (by omega) (by omega), x1 68 69 (by omega) (by omega), x1 68 79 (by omega) (by omega), x1 68 80 (by omega) (by omega), f2, f1 4 _ (by omega) (by omega), f1 4 _ (by omega) (by omega), f1 4 _ (by omega) (by omega), f1 4 _ (by omega) (by omega), f1 4 _ (by omega) (by omega), f1 68 _ (by omega) (by omega), f1 68 _ (by omega) (by omega), f1 7 _ (by omega) (by omega), f1 9 _ (by omega) (by omega), f1 10 _ (by omega) (by omega)]
    exact ⟨s1, s2, s3, s4, ms_e, s6, s7, s8, s9, s10, s11⟩
  · rw [f2] at g1
    by_cases c : p = B
    · subst c
      unfold RXa1
      rw [f3, f3, f3, f3, f3, f3, f3, f3, f3, f3, f3, f1 4 _ (by omega) (by omega)]
      refine ⟨⟨?_, ?_, ?_, ?_, ?_, ?_, ?_, ?_⟩, Or.inr ⟨?_, ht⟩, fun hh => ?_⟩
      · unfold xNA; rw [ms_a (by decide), ms_a (by decide), ms_a (by decide), ms_a (by decide), ms_a (by decide), ms_a (by decide), ms_a (by decide), ms_a (by decide), ms_a (by decide)]; exact ms_e
      · unfold xNA; rw [ms_a (by decide), ms_a (by decide), ms_a (by decide), ms_a (by decide), ms_a (by decide), ms_a (by decide), ms_a (by decide), ms_a (by decide)]; exact ms_e
      · unfold xNA; rw [ms_a (by decide), ms_a (by decide), ms_a (by decide), ms_a (by decide), ms_a (by decide), ms_a (by decide), ms_a (by decide)]; exact ms_e
      · unfold xNA; rw [ms_a (by decide), ms_a (by decide), ms_a (by decide), ms_a (by decide), ms_a (by decide), ms_a (by decide)]; exact ms_e
      · unfold xNA; rw [ms_a (by decide), ms_a (by decide), ms_a (by decide), ms_a (by decide), ms_a (by decide)]; exact ms_e
      · unfold xNA; rw [ms_a (by decide), ms_a (by decide), ms_a (by decide), ms_a (by decide)]; exact ms_e
      · unfold xNA; rw [ms_a (by decide), ms_a (by decide), ms_a (by decide)]; exact ms_e
      · unfold xNA; rw [ms_a (by decide)]; exact ms_e
      · unfold xNA; rw [ms_a (by decide), ms_a (by decide), ms_e]; exact Int.le_refl _
      · exact absurd (show (0 : Int) = 1 from hh) (by decide)
    · obtain ⟨b1, b2, b3⟩ := h.pa p g0 (by omega)
      unfold RXa1
      simp only [f1 (8000 + p) _ (show 8000 + p ≠ 8 by omega) (show 8000 + p ≠ 8000 + B by omega)]
      rw [x1 98 _ (Or.inr c) (by omega), x1 99 _ (Or.inr c) (by omega), x1 100 _ (Or.inr c) (by omega), x1 101 _ (Or.inr c) (by omega), x1 102 _ (Or.inr c) (by omega), x1 103 _ (Or.inr c) (by omega), x1 104 _ (Or.inr c) (by omega), x1 105 _ (Or.inr c) (by omega), x1 106 _ (Or.inr c) (by omega), x1 107 _ (Or.inr c) (by omega), x1 108 _ (Or.inr c) (by omega), f1 4 _ (by omega) (by omega)]
      exact ⟨b1, b2, b3⟩
/-- an activity is commanded -/
theorem RXE.makA (h : RXE m e) (hc : CN e) (hl : RLw e) (hf : RFw (pMakA r ev k x e)) (r0 : 0 ≤ r) (r1 : r < e.1 7 2) (hd : ¬ Dead e r) (e0 : 0 ≤ ev) (e1 : ev < 524288) : ∃ m', fm_X12_makesActivity r ev k x m = some (0, m') ∧ RXE m' (pMakA r ev k x e) ∧ SCR m m' := by
  have n8 := hc.2.1
  have e34 : m 68 34 = e.1 8 2 := h.ps.2.2.2.2.1
  have s0 : m 68 0 = e.1 4 14 := h.ps.1
  unfold fm_X12_makesActivity
  unfold pMakA at hf ⊢
  rw [lx_p, e34]
  by_cases c : e.1 8 2 < 60
  · rw [if_pos c]
    rw [if_neg (by omega), gd_t (by omega), up_t, lx_p, ms_a (b := 68) (i := 34) (by decide), e34, gd_t (by omega), up_t, lx_p, ms_a (b := 68) (i := 34) (by decide), ms_a (b := 68) (i := 34) (by decide), e34, gd_t (by omega), up_t, lx_p, ms_a (b := 68) (i := 34) (by decide), ms_a (b := 68) (i := 34) (by decide), ms_a (b := 68) (i := 34) (by decide), e34, gd_t (by omega), up_t, lx_p, ms_a (b := 68) (i := 34) (by decide), ms_a (b := 68) (i := 34) (by decide), ms_a (b := 68) (i := 34) (by decide), ms_a (b := 68) (i := 34) (by decide), e34, gd_t (by omega), up_t, lx_p, ms_a (b := 68) (i := 34) (by decide), ms_a (b := 68) (i := 34) (by decide), ms_a (b := 68) (i := 34) (by decide), ms_a (b := 68) (i := 34) (by decide), ms_a (b := 68) (i := 34) (by decide), e34, gd_t (by omega), up_t, lx_p, ms_a (b := 68) (i := 34) (by decide), ms_a (b := 68) (i := 34) (by decide), ms_a (b := 68) (i := 34) (by decide), ms_a (b := 68) (i := 34) (by decide), ms_a (b := 68) (i := 34) (by decide), ms_a (b := 68) (i := 34) (by decide), e34, lx_p, ms_a (b := 68) (i := 0) (by decide), ms_a (b := 68) (i := 0) (by decide), ms_a (b := 68) (i := 0) (by decide), ms_a (b := 68) (i := 0) (by decide), ms_a (b := 68) (i := 0) (by decide), ms_a (b := 68) (i := 0) (by decide), s0, gd_t (by omega), up_t, lx_p, ms_a (b := 68) (i := 34) (by decide), ms_a (b := 68) (i := 34) (by decide), ms_a (b := 68) (i := 34) (by decide), ms_a (b := 68) (i := 34) (by decide), ms_a (b := 68) (i := 34) (by decide), ms_a (b := 68) (i := 34) (by decide), ms_a (b := 68) (i := 34) (by decide), e34, lx_p, ms_a (b := 68) (i := 0) (by decide), ms_a (b := 68) (i := 0) (by decide), ms_a (b := 68) (i := 0) (by decide), ms_a (b := 68) (i := 0) (by decide), ms_a (b := 68) (i := 0) (by decide), ms_a (b := 68) (i := 0) (by decide), ms_a (b := 68) (i := 0) (by decide), s0, gd_t (by omega), up_t, lx_p, ms_a (b := 68) (i := 34) (by decide), ms_a (b := 68) (i := 34) (by decide), ms_a (b := 68) (i := 34) (by decide), ms_a (b := 68) (i := 34) (by decide), ms_a (b := 68) (i := 34) (by decide), ms_a (b := 68) (i := 34) (by decide), ms_a (b := 68) (i := 34) (by decide), ms_a (b := 68) (i := 34) (by decide), e34, gd_t (by omega), up_t, lx_p, ms_a (b := 68) (i := 34) (by decide), ms_a (b := 68) (i := 34) (by decide), ms_a (b := 68) (i := 34) (by decide), ms_a (b := 68) (i := 34) (by decide), ms_a (b := 68) (i := 34) (by decide), ms_a (b := 68) (i := 34) (by decide), ms_a (b := 68) (i := 34) (by decide), ms_a (b := 68) (i := 34) (by decide), ms_a (b := 68) (i := 34) (by decide), e34, w32_id (by omega) (by omega), up_t]
    refine ⟨_, rfl, h.newA hc c hl.1.1 rfl, ⟨fun a j g1 g2 => ?_, fun j g1 => ?_⟩⟩
    · unfold mset
      rw [if_neg (by omega), if_neg (by omega), if_neg (by omega), if_neg (by omega), if_neg (by omega), if_neg (by omega), if_neg (by omega), if_neg (by omega), if_neg (by omega), if_neg (by omega)]
    · unfold mset
      rw [if_neg (by omega), if_neg (by omega), if_neg (by omega), if_neg (by omega), if_neg (by omega), if_neg (by omega), if_neg (by omega), if_neg (by omega), if_neg (by omega), if_neg (by omega)]
  · rw [if_neg c] at hf
    rw [if_neg c, if_pos (by omega)]
    obtain ⟨m', g1, g2, g3⟩ := h.arr2 hc hl hf r0 r1 hd (by decide) (by decide) e0 e1 (by decide) (by decide)
    rw [bd_t g1]
    exact ⟨m', rfl, g2, g3⟩
end RXC9
