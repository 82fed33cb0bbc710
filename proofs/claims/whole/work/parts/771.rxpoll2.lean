/-! THE REFERENCE'S CALLS: poll: the task that is given. -/
section RXO2
variable {m m' M : MM} {e e' e2 : ES} {a b c i j k o r v w p t s x y n p1 q A B T : Int} {l : List Int}
/-- a run's field that the reference doesn't have -/
theorem RXE.s10 (h : RXE m e) (hc : CN e) (r0 : 0 ≤ r) (r1 : r < e.1 7 2) : RXE m (eS e (7000 + r) 10 v) := by
  have n7 := hc.1
  have k := h.pr.1 r r0 r1
  have hN1 : hN (eS e (7000 + r) 10 v) r = hN e r := eS_a (by omega)
  refine h.rn hc r0 r1 (fun _ _ _ _ _ _ => rfl) (fun a u g => ?_) rfl (fun hd => ?_) ?_
  · by_cases c : a = 7000 + r
    · rw [c]; exact eS_j (by omega)
    · exact eS_a c
  · unfold Dead
    rw [eS_j (by decide)]
    exact hd
  · unfold RXr1 hA hT hC
    rw [hN1, eS_j (i := 1) (by decide), eS_j (i := 2) (by decide), eS_j (i := 3) (by decide), eS_j (i := 6) (by decide), eS_j (i := 4) (by decide), eS_j (i := 5) (by decide), eS_j (i := 8) (by decide), eS_j (i := 9) (by decide), eS_j (i := 7) (by decide), eS_j (i := 11) (by decide)]
    exact k
def xTk (m : MM) (T w b g1 g2 a t x v c : Int) : MM := mset (mset (mset (mset (mset (mset (mset (mset (mset (mset m 112 T w) 113 T b) 114 T a) 115 T t) 116 T x) 117 T v) 118 T c) 120 (g1) g2) 121 g1 (m 121 g1 + 1)) 68 51 (T + 1)
theorem RXE.give (h : RXE m e) (hc : CN e) (hn : e.1 9 2 < 512) (hTT : T = e.1 9 2) (b0 : 0 ≤ b) (b1 : b < e.1 7 2) (ht : t = e.1 (7000 + b) 2) (t0 : 0 ≤ t ∧ t < 3) (hM : 0 ≤ e.1 (7000 + b) 9 ∧ (0 ≤ hT e b ∧ hT e b < 1000) ∧ 0 ≤ e.1 (7000 + b) 3 ∧ e.1 (7000 + b) 3 < 4) : RXE (xTk m T p1 b t (m 120 t + 1) (hA e b) (e.1 4 14) (hT e b) (e.1 (7000 + b) 3) (e.1 (7000 + b) 9)) (pNew 9 (fTsk p1 b (e.1 4 14) (hA e b) (pMark e b)) (eS (pGiv t e) (7000 + b) 10 T)) := by
  have n7 := hc.1
  have n9 := hc.2.2.1
  have h1 := h.s10 (v := T) hc b0 b1
  have e9 : (eS (pGiv t e) (7000 + b) 10 T).1 9 2 = T := by
    rw [eS_a (by omega)]
    unfold pGiv
    rw [eS_a (by decide), eS_a (by decide), hTT]
  have f1 : ∀ a u : Int, a ≠ 9 → a ≠ 9000 + T → a ≠ 12 → a ≠ 13 → (pNew 9 (fTsk p1 b (e.1 4 14) (hA e b) (pMark e b)) (eS (pGiv t e) (7000 + b) 10 T)).1 a u = (eS e (7000 + b) 10 T).1 a u := fun a u g1 g2 g3 g4 => by
    rw [pNew_a g1 (by rw [e9]; omega)]
    by_cases ca : a = 7000 + b ∧ u = 10
    · rw [ca.1, ca.2, eS_e, eS_e]
    · have : (eS (pGiv t e) (7000 + b) 10 T).1 a u = (pGiv t e).1 a u := if_neg ca
      have h2 : (eS e (7000 + b) 10 T).1 a u = e.1 a u := if_neg ca
      rw [this, h2]
      unfold pGiv
      rw [eS_a g4, eS_a g3]
  have f2 : (pNew 9 (fTsk p1 b (e.1 4 14) (hA e b) (pMark e b)) (eS (pGiv t e) (7000 + b) 10 T)).1 9 2 = T + 1 := by rw [pNew_n, e9]
  have f3 : ∀ u, (pNew 9 (fTsk p1 b (e.1 4 14) (hA e b) (pMark e b)) (eS (pGiv t e) (7000 + b) 10 T)).1 (9000 + T) u = fTsk p1 b (e.1 4 14) (hA e b) (pMark e b) u := fun u => by
    have := pNew_f9 (e := eS (pGiv t e) (7000 + b) 10 T) (f := fTsk p1 b (e.1 4 14) (hA e b) (pMark e b)) (j := u) (by rw [e9]; omega)
    rw [e9] at this
    exact this
  have f12 : ∀ (a w : Int), (a = 12 ∨ a = 13) → (pNew 9 (fTsk p1 b (e.1 4 14) (hA e b) (pMark e b)) (eS (pGiv t e) (7000 + b) 10 T)).1 a w = if w = t then e.1 a t + 1 else e.1 a w := fun a w ha => by
    rw [pNew_a (by omega) (by rw [e9]; omega), eS_a (by omega)]
    unfold pGiv
    rcases ha with rfl | rfl
    · rw [eS_a (by decide), eS_i]
    · rw [eS_i]
      by_cases cw : w = t
      · rw [if_pos cw, if_pos cw]
      · rw [if_neg cw, if_neg cw, eS_a (by decide)]
  have x1 : ∀ a j : Int, ¬ ((112 ≤ a ∧ a ≤ 118) ∧ j = T) → ¬ ((a = 120 ∨ a = 121) ∧ j = t) → (a ≠ 68 ∨ j ≠ 51) → xTk m T p1 b t (m 120 t + 1) (hA e b) (e.1 4 14) (hT e b) (e.1 (7000 + b) 3) (e.1 (7000 + b) 9) a j = m a j := fun a j g1 g2 g3 => by
    unfold xTk mset
    rw [if_neg (by omega), if_neg (by omega), if_neg (by omega), if_neg (by omega), if_neg (by omega), if_neg (by omega), if_neg (by omega), if_neg (by omega), if_neg (by omega), if_neg (by omega)]
  have hc1 : CN (eS e (7000 + b) 10 T) := cn_eS hc (by omega)
  have z9 : (eS e (7000 + b) 10 T).1 9 2 = T := by rw [eS_a (by omega), hTT]
  have n9' := hc1.2.2.1
  have n7' := hc1.1
  refine h1.chg hc1 (W := fun a => (112 ≤ a ∧ a ≤ 118) ∨ a = 120 ∨ a = 121) (U := fun a => a = 51) (V := fun a => a = 9 ∨ a = 9000 + T ∨ a = 12 ∨ a = 13) (fun a j g1 g2 g3 => x1 a j (by omega) (by omega) (by omega)) (fun u g1 g2 => x1 _ _ (by omega) (by omega) (by omega)) ⟨fun a u g => f1 a u (by omega) (by omega) (by omega) (by omega), fun c _ => rfl, fun i _ => rfl⟩ (by rw [f1 _ _ (by omega) (by omega) (by omega) (by omega)]; omega) (DdM.of fun q q0 q1 => f1 _ _ (by omega) (by omega) (by omega) (by omega)) (by rw [f1 _ _ (by omega) (by omega) (by omega) (by omega)]; omega) (Or.inr ?_) (Or.inl ⟨fun a g => by omega, fun a g => by omega, fun a g => by omega⟩) (Or.inl ⟨fun a g => by omega, fun a g => by omega, fun a g => by omega⟩) (Or.inl ⟨fun a g => by omega, fun a g => by omega, fun a g => by omega⟩) (Or.inl ⟨fun a g => by omega, fun a g => by omega, fun a g => by omega⟩) (Or.inl ⟨fun a g => by omega, fun a g => by omega, fun a g => by omega⟩) (Or.inr ⟨fun p g0 g1 => ?_, fun p g0 g1 => ?_, fun w w0 w1 => ?_⟩) (Or.inl ⟨fun a g => by omega, fun a g => by omega, fun a g => by omega⟩) (Or.inl ⟨fun a g => by omega, fun a g => by omega, fun a g => by omega⟩) (Or.inl ⟨fun a g => by omega, fun a g => by omega, fun a g => by omega⟩) (Or.inl ⟨fun a g => by omega, fun a g => by omega, fun a g => by omega⟩) (Or.inl ⟨fun a g => by omega, fun a g => by omega, fun a g => by omega⟩) (Or.inl ⟨fun a g => by omega, fun a g => by omega, fun a g => by omega⟩)
  · obtain ⟨s1, s2, s3, s4, s5, s6, s7, s8, s9, s10, s11⟩ := h1.ps
    unfold RXs
    rw [x1 68 0 (by omega) (by omega) (by omega), x1 68 12 (by omega) (by omega) (by omega), x1 68 29 (by omega) (by omega) (by omega), x1 68 30 (by omega) (by omega) (by omega), x1 68 34 (by omega) (by omega) (by omega), x1 68 50 (by omega) (by omega) (by omega), x1 68 68 (by omega) (by omega) (by omega), x1 68 69 (by omega) (by omega) (by omega), x1 68 79 (by omega) (by omega) (by omega), x1 68 80 (by omega) (by omega) (by omega), f2, f1 4 _ (by omega) (by omega) (by omega) (by omega), f1 4 _ (by omega) (by omega) (by omega) (by omega), f1 4 _ (by omega) (by omega) (by omega) (by omega), f1 4 _ (by omega) (by omega) (by omega) (by omega), f1 4 _ (by omega) (by omega) (by omega) (by omega), f1 68 _ (by omega) (by omega) (by omega) (by omega), f1 68 _ (by omega) (by omega) (by omega) (by omega), f1 7 _ (by omega) (by omega) (by omega) (by omega), f1 8 _ (by omega) (by omega) (by omega) (by omega), f1 10 _ (by omega) (by omega) (by omega) (by omega)]
    exact ⟨s1, s2, s3, s4, s5, s6, ms_e, s8, s9, s10, s11⟩
  · rw [f2] at g1
    by_cases c : p = T
    · subst c
      have z119 := h.pj.2.1 p (by omega) (by omega)
      unfold RXj1
      rw [f3, f3, f3, f3, f3, f3]
      refine ⟨?_, ?_, ?_, ?_, ⟨?_, ?_, ?_, ?_, ?_, ?_⟩, ?_⟩
      · unfold xTk; rw [ms_a (by decide), ms_a (by decide), ms_a (by decide), ms_a (by decide), ms_a (by decide), ms_a (by decide), ms_a (by decide), ms_a (by decide), ms_a (by decide)]; exact ms_e
      · unfold xTk; rw [ms_a (by decide), ms_a (by decide), ms_a (by decide), ms_a (by decide), ms_a (by decide), ms_a (by decide), ms_a (by decide), ms_a (by decide)]; exact ms_e
      · unfold xTk; rw [ms_a (by decide), ms_a (by decide), ms_a (by decide), ms_a (by decide), ms_a (by decide), ms_a (by decide), ms_a (by decide)]; exact ms_e
      · unfold xTk; rw [ms_a (by decide), ms_a (by decide), ms_a (by decide), ms_a (by decide), ms_a (by decide), ms_a (by decide)]; exact ms_e
      · have y118 : xTk m p p1 b t (m 120 t + 1) (hA e b) (e.1 4 14) (hT e b) (e.1 (7000 + b) 3) (e.1 (7000 + b) 9) 118 p = e.1 (7000 + b) 9 := by unfold xTk; rw [ms_a (by decide), ms_a (by decide), ms_a (by decide)]; exact ms_e
        have y117 : xTk m p p1 b t (m 120 t + 1) (hA e b) (e.1 4 14) (hT e b) (e.1 (7000 + b) 3) (e.1 (7000 + b) 9) 117 p = e.1 (7000 + b) 3 := by unfold xTk; rw [ms_a (by decide), ms_a (by decide), ms_a (by decide), ms_a (by decide)]; exact ms_e
        have y116 : xTk m p p1 b t (m 120 t + 1) (hA e b) (e.1 4 14) (hT e b) (e.1 (7000 + b) 3) (e.1 (7000 + b) 9) 116 p = hT e b := by unfold xTk; rw [ms_a (by decide), ms_a (by decide), ms_a (by decide), ms_a (by decide), ms_a (by decide)]; exact ms_e
        rw [y118, y117, y116]
        rfl
      · unfold xTk; rw [ms_a (by decide), ms_a (by decide), ms_a (by decide), ms_e]; exact hM.1
      · unfold xTk; rw [ms_a (by decide), ms_a (by decide), ms_a (by decide), ms_a (by decide), ms_a (by decide), ms_e]; exact hM.2.1.1
      · unfold xTk; rw [ms_a (by decide), ms_a (by decide), ms_a (by decide), ms_a (by decide), ms_a (by decide), ms_e]; exact hM.2.1.2
      · unfold xTk; rw [ms_a (by decide), ms_a (by decide), ms_a (by decide), ms_a (by decide), ms_e]; exact hM.2.2.1
      · unfold xTk; rw [ms_a (by decide), ms_a (by decide), ms_a (by decide), ms_a (by decide), ms_e]; exact hM.2.2.2
      · rw [x1 _ _ (by omega) (by omega) (by omega)]; exact z119
    · obtain ⟨a1, a2, a3, a4, a5, a6⟩ := h1.pj.1 p g0 (by omega)
      unfold RXj1
      simp only [f1 (9000 + p) _ (show 9000 + p ≠ 9 by omega) (show 9000 + p ≠ 9000 + T by omega) (show 9000 + p ≠ 12 by omega) (show 9000 + p ≠ 13 by omega)]
      rw [x1 112 _ (by omega) (by omega) (by omega), x1 113 _ (by omega) (by omega) (by omega), x1 114 _ (by omega) (by omega) (by omega), x1 115 _ (by omega) (by omega) (by omega), x1 116 _ (by omega) (by omega) (by omega), x1 117 _ (by omega) (by omega) (by omega), x1 118 _ (by omega) (by omega) (by omega), x1 119 _ (by omega) (by omega) (by omega)]
      exact ⟨a1, a2, a3, a4, a5, a6⟩
  · rw [f2] at g0
    rw [x1 119 _ (by omega) (by omega) (by omega)]
    exact h1.pj.2.1 p (by omega) g1
  · obtain ⟨k1, k2, k3⟩ := h.pj.2.2 w w0 w1
    have y121 : xTk m T p1 b t (m 120 t + 1) (hA e b) (e.1 4 14) (hT e b) (e.1 (7000 + b) 3) (e.1 (7000 + b) 9) 121 w = if w = t then m 121 t + 1 else m 121 w := by
      unfold xTk
      rw [ms_a (by decide), ms_i]
      by_cases cw : w = t
      · rw [if_pos cw, if_pos cw]
      · rw [if_neg cw, if_neg cw, ms_a (by decide), ms_a (by decide), ms_a (by decide), ms_a (by decide), ms_a (by decide), ms_a (by decide), ms_a (by decide), ms_a (by decide)]
    have y120 : xTk m T p1 b t (m 120 t + 1) (hA e b) (e.1 4 14) (hT e b) (e.1 (7000 + b) 3) (e.1 (7000 + b) 9) 120 w = if w = t then m 120 t + 1 else m 120 w := by
      unfold xTk
      rw [ms_a (by decide), ms_a (by decide), ms_i]
      by_cases cw : w = t
      · rw [if_pos cw, if_pos cw]
      · rw [if_neg cw, if_neg cw, ms_a (by decide), ms_a (by decide), ms_a (by decide), ms_a (by decide), ms_a (by decide), ms_a (by decide), ms_a (by decide)]
    obtain ⟨t1, t2, t3⟩ := h.pj.2.2 t t0.1 t0.2
    rw [x1 122 _ (by omega) (by omega) (by omega), f1 11 _ (by omega) (by omega) (by omega) (by omega), eS_a (b := 11) (by omega), y121, y120, f12 12 w (Or.inl rfl), f12 13 w (Or.inr rfl), t2, t3, k2, k3]
    exact ⟨k1, rfl, rfl⟩
theorem x_poll (h : RXE m e) (hc : CN e) (hl : RLw e) (hb : TskB e) (hH : HeldI e) (hO : OrdI e) (hG : ∀ w : Int, 0 ≤ w → w < 3 → (0 ≤ e.1 12 w ∧ e.1 12 w < 1000000) ∧ 0 ≤ e.1 13 w ∧ e.1 13 w < 1000000) (hR : ∀ i : Int, 0 ≤ i → i < e.1 7 2 → (hN e i < 524288 ∧ 0 ≤ hC e i) ∧ (0 ≤ e.1 (7000 + i) 2 ∧ e.1 (7000 + i) 2 < 3) ∧ 0 ≤ e.1 (7000 + i) 9 ∧ (0 ≤ hT e i ∧ hT e i < 1000) ∧ 0 ≤ e.1 (7000 + i) 3 ∧ e.1 (7000 + i) 3 < 4) (hn : e.1 9 2 < 512) : OKr (fm_X12_poll p1 m) cd1 (pcPoll p1 e) := by
  have h0 := h.th (q := 0) hc
  have n7 := hc.1
  have n9 := hc.2.2.1
  unfold fm_X12_poll pcPoll
  rw [bp_t rIsW]
  by_cases c1 : 0 ≤ p1 ∧ p1 < 3
  · rw [if_pos c1, if_neg (show ¬ (1 : Int) = 0 by decide), if_pos c1]
    have hB0 : Bst e (TnK e 0) (-1) := Or.inl ⟨rfl, fun t _ _ ⟨_, i, i0, i1, _⟩ => by omega⟩
    obtain ⟨w, u1, u2⟩ := whoL (p1 := p1) (K := fun x_194 =>
fl_X12_poll_148 p1 x_194 (mset m 68 129 0) (fun x_366 =>
if x_366 = (-1) then
some ((-1), (mset m 68 129 0))
else
lx ((mset m 68 129 0) 68 51) fun x_391 =>
gd (0 ≤ x_391 ∧ x_391 < 4096) <| up (mset m 68 129 0) 112 x_391 p1 fun m_394 =>
lx (m_394 68 51) fun x_407 =>
gd (0 ≤ x_407 ∧ x_407 < 4096) <| up m_394 113 x_407 x_366 fun m_410 =>
lx (m_410 68 51) fun x_423 =>
gd (0 ≤ x_366 ∧ x_366 < 30) <| lx (m_410 89 x_366) fun x_432 =>
gd (0 ≤ x_423 ∧ x_423 < 4096) <| up m_410 114 x_423 x_432 fun m_435 =>
lx (m_435 68 51) fun x_448 =>
lx (m_435 68 0) fun x_453 =>
gd (0 ≤ x_448 ∧ x_448 < 4096) <| up m_435 115 x_448 x_453 fun m_456 =>
lx (m_456 68 51) fun x_469 =>
lx (m_456 90 x_366) fun x_477 =>
gd (0 ≤ x_469 ∧ x_469 < 4096) <| up m_456 116 x_469 x_477 fun m_480 =>
lx (m_480 68 51) fun x_493 =>
lx (m_480 82 x_366) fun x_501 =>
gd (0 ≤ x_493 ∧ x_493 < 4096) <| up m_480 117 x_493 x_501 fun m_504 =>
lx (m_504 68 51) fun x_517 =>
lx (m_504 93 x_366) fun x_525 =>
gd (0 ≤ x_517 ∧ x_517 < 4096) <| up m_504 118 x_517 x_525 fun m_528 =>
gd (0 ≤ x_194 ∧ x_194 < 3) <| lx (m_528 120 x_194) fun x_542 =>
up m_528 120 x_194 (w32 (x_542 + 1)) fun m_548 =>
lx (m_548 121 x_194) fun x_561 =>
up m_548 121 x_194 (w32 (x_561 + 1)) fun m_567 =>
lx (m_567 68 51) fun x_577 =>
up m_567 68 51 (w32 (x_577 + 1)) fun m_583 =>
lx (m_583 68 51) fun x_595 =>
some (w32 ((w32 (100 * (w32 (x_595 - 1)))) + x_366), m_583)) BIG (-1) 0) h0 hc hl hb hH (fun i i0 i1 => (hR i i0 i1).2.1) (e.1 7 2 - 0).toNat BIG (-1) 0 (by decide) n7.1 rfl (BIG_g (by omega)) hB0
    have fs : ∀ t : Int, (fFw e t 31 (-1) 0 = -1 ∨ (0 ≤ fFw e t 31 (-1) 0 ∧ fFw e t 31 (-1) 0 < e.1 7 2 ∧ e.1 (7000 + fFw e t 31 (-1) 0) 2 = t ∧ Rdy e (fFw e t 31 (-1) 0))) ∧ (0 ≤ fFw e t 31 (-1) 0 ↔ 0 ≤ (-1 : Int) ∨ ∃ j : Int, 0 ≤ j ∧ j < e.1 7 2 ∧ e.1 (7000 + j) 2 = t ∧ Rdy e j) := fun t => fFw_s 31 (-1) 0 (by decide) (by omega) (Or.inl rfl)
    have h4 : ∀ t : Int, 0 ≤ t → t < 3 → (TnK e (e.1 7 2) t ↔ 0 ≤ fFw e t 31 (-1) 0 ∧ e.1 13 t < e.1 4 13) := fun t _ _ => by
      constructor
      · rintro ⟨g1, i, i0, i1, i2, i3⟩
        exact ⟨(fs t).2.mpr (Or.inr ⟨i, i0, i1, i2, i3⟩), g1⟩
      · rintro ⟨g1, g2⟩
        rcases (fs t).2.mp g1 with g | g
        · exact absurd g (by decide)
        · exact ⟨g2, g⟩
    obtain ⟨w2, v1, v2⟩ := fPo_s (e := e) h4 (fun t => (fs t).1.imp id fun g => ⟨g.1, g.2.2.1⟩) 4 (-1) 0 (by decide) (by decide) (by decide) ⟨-1, Or.inl ⟨rfl, fun t t0 _ hh => by omega⟩, by rw [if_pos rfl]⟩
    have ew : w2 = w := v1.un u2
    rw [ew] at v2
    unfold fj_X12_poll_13
    rw [bd_t fails_e, if_neg (show ¬ (0 : Int) < 0 by decide), if_pos (show (0 : Int) = 0 from rfl), u1]
    by_cases c2 : w = -1
    · rw [if_pos c2] at v2
      rw [v2, if_pos (show (-1 : Int) < 0 by decide)]
      obtain ⟨N, hN9⟩ := BIG_s
      rw [hN9]
      unfold fl_X12_poll_148
      have e12 : mset m 68 129 0 68 12 = e.1 7 2 := h0.ps.2.1
      rw [lx_p, e12]
      by_cases c7 : 0 < e.1 7 2
      · rw [if_pos c7, if_pos c2, if_pos rfl]
        exact OKr.fin h0 ms_e
      · rw [if_neg c7, if_pos rfl]
        exact OKr.fin h0 ms_e
    · have w03 : (0 ≤ w ∧ w < 3) ∧ TnK e (e.1 7 2) w := by
        rcases u2 with ⟨g, -⟩ | ⟨g1, g2, -⟩
        · exact absurd g c2
        · exact ⟨g1, g2⟩
      rw [if_neg c2] at v2
      have fw := (h4 w w03.1.1 w03.1.2).mp w03.2
      obtain ⟨b, hbb⟩ : ∃ b, b = fFw e w 31 (-1) 0 := ⟨_, rfl⟩
      have fb := (fs w).1
      rw [← hbb] at fb fw v2
      have fb2 : 0 ≤ b ∧ b < e.1 7 2 ∧ e.1 (7000 + b) 2 = w ∧ Rdy e b := fb.elim (fun g => by omega) id
      have hRb := hR b fb2.1 fb2.2.1
      rw [bstL h0 hc hl hb hH hO (fun i i0 i1 => (hR i i0 i1).1) w03.1.1 31 BIG (-1) 0 (by decide) (by omega) (by decide) (Nat.le_of_lt (BIG_g (by decide))) (Or.inl rfl), ← hbb, v2, if_neg (show ¬ b < 0 by omega), if_neg (show ¬ b = -1 by omega)]
      have k51 : mset m 68 129 0 68 51 = e.1 9 2 := h0.ps.2.2.2.2.2.2.1
      have k0 : mset m 68 129 0 68 0 = e.1 4 14 := h0.ps.1
      obtain ⟨⟨r1, r2, r3, r4, r5, r6⟩, ⟨r86, r89, r90, r91⟩, r92, r93, -⟩ := h0.pr.1 b fb2.1 fb2.2.1
      obtain ⟨q1, q2, q3⟩ := h0.pj.2.2 w w03.1.1 w03.1.2
      have gw := hG w w03.1.1 w03.1.2
      have hg := h0.give (p1 := p1) (b := b) (t := w) hc hn rfl fb2.1 fb2.2.1 fb2.2.2.1.symm w03.1 hRb.2.2
      obtain ⟨M0, hM0⟩ : ∃ M0, M0 = mset m 68 129 0 := ⟨_, rfl⟩
      rw [← hM0] at k51 k0 r89 r90 r3 r93 q1 q2 q3 hg ⊢
      rw [lx_p, k51, gd_t (by omega), up_t, lx_p, ms_a (b := 68) (i := 51) (by decide), k51, gd_t (by omega), up_t, lx_p, ms_a (b := 68) (i := 51) (by decide), ms_a (b := 68) (i := 51) (by decide), k51, gd_t (by omega), lx_p, ms_a (b := 89) (by decide), ms_a (b := 89) (by decide), r89, gd_t (by omega), up_t, lx_p, ms_a (b := 68) (i := 51) (by decide), ms_a (b := 68) (i := 51) (by decide), ms_a (b := 68) (i := 51) (by decide), k51, lx_p, ms_a (b := 68) (i := 0) (by decide), ms_a (b := 68) (i := 0) (by decide), ms_a (b := 68) (i := 0) (by decide), k0, gd_t (by omega), up_t, lx_p, ms_a (b := 68) (i := 51) (by decide), ms_a (b := 68) (i := 51) (by decide), ms_a (b := 68) (i := 51) (by decide), ms_a (b := 68) (i := 51) (by decide), k51, lx_p, ms_a (b := 90) (by decide), ms_a (b := 90) (by decide), ms_a (b := 90) (by decide), ms_a (b := 90) (by decide), r90, gd_t (by omega), up_t, lx_p, ms_a (b := 68) (i := 51) (by decide), ms_a (b := 68) (i := 51) (by decide), ms_a (b := 68) (i := 51) (by decide), ms_a (b := 68) (i := 51) (by decide), ms_a (b := 68) (i := 51) (by decide), k51, lx_p, ms_a (b := 82) (by decide), ms_a (b := 82) (by decide), ms_a (b := 82) (by decide), ms_a (b := 82) (by decide), ms_a (b := 82) (by decide), r3, gd_t (by omega), up_t, lx_p, ms_a (b := 68) (i := 51) (by decide), ms_a (b := 68) (i := 51) (by decide), ms_a (b := 68) (i := 51) (by decide), ms_a (b := 68) (i := 51) (by decide), ms_a (b := 68) (i := 51) (by decide), ms_a (b := 68) (i := 51) (by decide), k51, lx_p, ms_a (b := 93) (by decide), ms_a (b := 93) (by decide), ms_a (b := 93) (by decide), ms_a (b := 93) (by decide), ms_a (b := 93) (by decide), ms_a (b := 93) (by decide), r93, gd_t (by omega), up_t, gd_t w03.1, lx_p, ms_a (b := 120) (by decide), ms_a (b := 120) (by decide), ms_a (b := 120) (by decide), ms_a (b := 120) (by decide), ms_a (b := 120) (by decide), ms_a (b := 120) (by decide), ms_a (b := 120) (by decide), w32_id (z := M0 120 w + 1) (by omega) (by omega), up_t, lx_p, ms_a (b := 121) (by decide), ms_a (b := 121) (by decide), ms_a (b := 121) (by decide), ms_a (b := 121) (by decide), ms_a (b := 121) (by decide), ms_a (b := 121) (by decide), ms_a (b := 121) (by decide), ms_a (b := 121) (by decide), w32_id (z := M0 121 w + 1) (by omega) (by omega), up_t, lx_p, ms_a (b := 68) (i := 51) (by decide), ms_a (b := 68) (i := 51) (by decide), ms_a (b := 68) (i := 51) (by decide), ms_a (b := 68) (i := 51) (by decide), ms_a (b := 68) (i := 51) (by decide), ms_a (b := 68) (i := 51) (by decide), ms_a (b := 68) (i := 51) (by decide), ms_a (b := 68) (i := 51) (by decide), ms_a (b := 68) (i := 51) (by decide), k51, w32_id (z := e.1 9 2 + 1) (by omega) (by omega), up_t, lx_p, ms_e, w32_id (z := e.1 9 2 + 1 - 1) (by omega) (by omega), show e.1 9 2 + 1 - 1 = e.1 9 2 by omega, w32_id (z := 100 * e.1 9 2) (by omega) (by omega), w32_id (z := 100 * e.1 9 2 + b) (by omega) (by omega)]
      rw [fb2.2.2.1]
      exact OKr.fin hg (by
        rw [ms_j (by decide), ms_a (by decide), ms_a (by decide), ms_a (by decide), ms_a (by decide), ms_a (by decide), ms_a (by decide), ms_a (by decide), ms_a (by decide), ms_a (by decide), hM0]
        exact ms_e)
  · rw [if_neg c1, if_pos (show (0 : Int) = 0 from rfl), if_neg c1]
    unfold fj_X12_poll_13
    rw [bd_t fails_e, if_pos (show (0 : Int) < 1 by decide), if_neg (show ¬ (1 : Int) = 0 by decide)]
    exact OKr.no h hc rfl
end RXO2
