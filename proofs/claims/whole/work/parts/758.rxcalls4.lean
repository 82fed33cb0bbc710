/-! THE REFERENCE'S CALLS: a run's fields; answer, fail, take, copy, search. -/
section RXC6
variable {m m' : MM} {e e' e2 : ES} {a b c i j k o r v w p t s x y n p1 p2 p3 q A : Int} {l : List Int}
/-- fields of one run -/
theorem RXE.rn (h : RXE m e) (hc : CN e) (r0 : 0 ≤ r) (r1 : r < e.1 7 2) (fR : ∀ a j : Int, ¬ (a = 82 ∨ a = 83 ∨ a = 84 ∨ a = 92 ∨ a = 94 ∨ a = 138) ∨ j ≠ r → 68 ≤ a → a ≤ 141 → (a = 68 → j ≤ 84) → m' a j = m a j) (fE : ∀ a u : Int, a ≠ 7000 + r ∨ u = 9 ∨ 12 ≤ u → e'.1 a u = e.1 a u) (f2 : e'.2 = e.2) (hd : Dead e r → Dead e' r) (hq : RXr1 m' e' r) : RXE m' e' := by
  have n7 := hc.1
  have hl : ∀ c, eL e' c = eL e c := fun c => congrFun (congrArg (fun x => x.2.1) f2) c
  have hh : ∀ i, eH e' i = eH e i := fun i => congrFun (congrArg (fun x => x.1) f2) i
  have hn : ∀ i : Int, 0 ≤ i → hN e' i = hN e i := fun i i0 => fE _ _ (Or.inl (by omega))
  have e7 : e'.1 7 2 = e.1 7 2 := fE _ _ (Or.inl (by omega))
  refine h.chg hc (W := fun a => a = 82 ∨ a = 83 ∨ a = 84 ∨ a = 92 ∨ a = 94 ∨ a = 138) (U := fun a => a = 1000000) (V := fun a => a = 7000 + r) (fun a j g1 g2 g3 => fR _ _ (Or.inl g3) (by omega) g2 (by omega)) (fun u g1 _ => fR _ _ (by omega) (by decide) (by decide) (fun _ => g1)) ⟨fun a u g => fE a u (Or.inl g), fun c _ => hl c, fun i _ => hh i⟩ (by rw [fE _ _ (Or.inl (by omega))]; omega) (fun q q0 q1 hq' => ?_) (by rw [fE _ _ (Or.inl (by omega))]; omega) (Or.inl ⟨fun a g => by omega, fun a g => by omega, fun a g => by omega⟩) (Or.inl ⟨fun a g => by omega, fun a g => by omega, fun a g => by omega⟩) (Or.inl ⟨fun a g => by omega, fun a g => by omega, fun a g => by omega⟩) (Or.inr ⟨fun r' g0 g1 => ?_, fun r' g0 g1 => ?_⟩) (Or.inl ⟨fun a g => by omega, fun a g => by omega, fun a g => by omega⟩) (Or.inl ⟨fun a g => by omega, fun a g => by omega, fun a g => by omega⟩) (Or.inl ⟨fun a g => by omega, fun a g => by omega, fun a g => by omega⟩) (Or.inr fun w w0 w1 => ⟨fun r' g0 g1 => ?_, fun r' g0 g1 => ?_⟩) (Or.inl ⟨fun a g => by omega, fun a g => by omega, fun a g => by omega⟩) (Or.inl ⟨fun a g => by omega, fun a g => by omega, fun a g => by omega⟩) (Or.inl ⟨fun a g => by omega, fun a g => by omega, fun a g => by omega⟩) (Or.inl ⟨fun a g => by omega, fun a g => by omega, fun a g => by omega⟩) (Or.inl ⟨fun a g => by omega, fun a g => by omega, fun a g => by omega⟩)
  · by_cases c : q = r
    · rw [c]
      rw [c] at hq'
      exact hd hq'
    · unfold Dead
      rw [fE _ _ (Or.inl (by omega))]
      exact hq'
  · rw [e7] at g1
    by_cases c : r' = r
    · rw [c]; exact hq
    · have hm : ∀ a, 80 ≤ a → a ≤ 138 → m' a r' = m a r' := fun a g2 g3 => fR _ _ (Or.inr c) (by omega) (by omega) (by omega)
      have k := h.pr.1 r' g0 g1
      unfold RXr1 hA hT hC
      simp only [fE (7000 + r') _ (Or.inl (show 7000 + r' ≠ 7000 + r by omega))]
      rw [hn r' g0, hh r', hm 80 (by decide) (by decide), hm 81 (by decide) (by decide), hm 82 (by decide) (by decide), hm 83 (by decide) (by decide), hm 84 (by decide) (by decide), hm 85 (by decide) (by decide), hm 86 (by decide) (by decide), hm 89 (by decide) (by decide), hm 90 (by decide) (by decide), hm 91 (by decide) (by decide), hm 92 (by decide) (by decide), hm 93 (by decide) (by decide), hm 94 (by decide) (by decide), hm 138 (by decide) (by decide)]
      exact k
  · rw [e7] at g0
    have hm : ∀ a, 80 ≤ a → a ≤ 138 → m' a r' = m a r' := fun a g2 g3 => fR _ _ (Or.inr (by omega)) (by omega) (by omega) (by omega)
    unfold RXr0
    rw [hm 88 (by decide) (by decide), hm 89 (by decide) (by decide), hm 90 (by decide) (by decide), hm 91 (by decide) (by decide), hm 92 (by decide) (by decide), hm 93 (by decide) (by decide), hm 138 (by decide) (by decide)]
    exact h.pr.2 r' g0 g1
  · rw [e7] at g1
    have k := (h.pw w w0 w1).1 r' g0 g1
    have hm : ∀ a j, 123 ≤ a → a ≤ 127 → m' a j = m a j := fun a j g2 g3 => fR _ _ (Or.inl (by omega)) (by omega) (by omega) (by omega)
    have eT' : hT e' r' = hT e r' := by unfold hT; rw [hn r' g0, hh r']
    unfold RXw1
    rw [eT', hm 123 _ (by decide) (by decide), hm 124 _ (by decide) (by decide), hm 125 _ (by decide) (by decide), hm 126 _ (by decide) (by decide), hm 127 _ (by decide) (by decide), fE (7000 + r') 9 (by omega), fE (7000 + r') 12 (by omega), fE (7000 + r') 13 (by omega), fE (7000 + r') 14 (by omega), fE (7000 + r') 15 (by omega)]
    exact k
  · rw [e7] at g0
    rw [fR 123 _ (by omega) (by decide) (by decide) (by omega)]
    exact (h.pw w w0 w1).2 r' g0 g1
/-- an activity's state -/
theorem RXE.ast (h : RXE m e) (hc : CN e) (p0 : 0 ≤ p) (p1 : p < e.1 8 2) (hv : v ≠ 1) : RXE (mset m 102 p v) (eS e (8000 + p) 5 v) := by
  have n8 := hc.2.1
  obtain ⟨⟨b0, b1, b2, b3, b4, b5, b6, b7⟩, b8, b9⟩ := h.pa p p0 p1
  refine h.ac hc p0 p1 (fun a j g1 g2 g3 _ => ?_) (fun a u g => eS_a g) rfl ⟨⟨?_, ?_, ?_, ?_, ?_, ?_, ?_, ?_⟩, ?_, fun hh => ?_⟩
  · unfold mset
    rw [if_neg (by omega)]
  · rw [eS_j (by decide), ms_a (by decide)]; exact b0
  · rw [eS_j (by decide), ms_a (by decide)]; exact b1
  · rw [eS_j (by decide), ms_a (by decide)]; exact b2
  · rw [eS_j (by decide), ms_a (by decide)]; exact b3
  · rw [eS_e, ms_e]
  · rw [eS_j (by decide), ms_a (by decide)]; exact b5
  · rw [eS_j (by decide), ms_a (by decide)]; exact b6
  · rw [eS_j (by decide), ms_a (by decide)]; exact b7
  · rw [eS_j (by decide), eS_a (by omega), ms_a (by decide)]; exact b8
  · rw [eS_e] at hh
    exact absurd hh hv
theorem rl_eS (h : RLw e) (h1 : a ≠ 4) (h2 : a ≠ 3) (h3 : a ≠ 68) (h4 : a ≠ 7) (h5 : a < 71000) : RLw (eS e a j v) := by
  obtain ⟨q1, q2, q3, q4⟩ := h
  refine ⟨by rw [eS_a (Ne.symm h1)]; exact q1, by rw [eS_a (Ne.symm h2)]; exact q2, by rw [eS_a (Ne.symm h3), eS_a (Ne.symm h1)]; exact q3, fun i i0 i1 => ?_⟩
  rw [eS_a (Ne.symm h4)] at i1
  have : hN (eS e a j v) i = hN e i := eS_a (by omega)
  rw [this]
  exact q4 i i0 i1
theorem cn_eS (h : CN e) (h1 : ¬ ((7 ≤ a ∧ a ≤ 10) ∨ (48 ≤ a ∧ a ≤ 61))) : CN (eS e a j v) := h.of fun b hb => eS_a (by omega)
theorem x_answer (h : RXE m e) (hc : CN e) (hl : RLw e) (hf : RFw (pcAnswer p1 p2 e).2) (hA : ∀ i : Int, 0 ≤ i → i < e.1 8 2 → AcW e i) : OKr (fm_X12_answer p1 p2 m) cd3 (pcAnswer p1 p2 e) := by
  have h0 := h.th (q := 0) hc
  have no : ∀ (q : Int) (n : Nat), 0 < q → cd3 n = q → OKr (fj_X12_answer_27 p1 p2 q m) cd3 (rT n e) := fun q n hq hn => by
    unfold fj_X12_answer_27
    rw [bd_t fails_e, if_pos hq, if_neg (show ¬ (1 : Int) = 0 by decide)]
    exact OKr.no h hc hn
  unfold fm_X12_answer
  unfold pcAnswer at hf ⊢
  rw [bp_t (rIsA h hc)]
  by_cases c1 : 0 ≤ p1 ∧ p1 < e.1 8 2
  · have n8 := hc.2.1
    have n7 := hc.1
    rw [if_pos c1, if_neg (show ¬ (1 : Int) = 0 by decide), if_pos c1, bp_t rIsV]
    rw [if_pos c1] at hf
    by_cases c2 : 0 ≤ p2 ∧ p2 < 1000
    · rw [if_pos c2, if_neg (show ¬ (1 : Int) = 0 by decide), if_pos c2]
      rw [if_pos c2] at hf
      obtain ⟨⟨k98, k99, -, -, k102, -⟩, -⟩ := h0.pa p1 c1.1 c1.2
      obtain ⟨⟨w1, -⟩, ⟨w2, w3⟩, w4⟩ := hA p1 c1.1 c1.2
      unfold fj_X12_answer_27
      rw [bd_t fails_e, if_neg (show ¬ (0 : Int) < 0 by decide), if_pos (show (0 : Int) = 0 from rfl), gd_t (by omega), lx_p, k102]
      by_cases c5 : e.1 (8000 + p1) 5 = 1
      · rw [if_pos c5, if_pos c5, up_t, lx_p, ms_a (b := 98) (by decide), k98, lx_p, ms_a (b := 99) (by decide), k99]
        rw [if_pos c5] at hf
        have h1 := h0.ast (v := 2) hc c1.1 c1.2 (by decide)
        have e7 : (eS e (8000 + p1) 5 2).1 7 2 = e.1 7 2 := eS_a (by omega)
        have hd : ¬ Dead (eS e (8000 + p1) 5 2) (e.1 (8000 + p1) 0) := fun hh => w4 (by omega) (by
          unfold Dead at hh
          rw [eS_a (by omega)] at hh
          exact hh)
        obtain ⟨m', g1, g2, g3⟩ := h1.arr2 (cn_eS hc (by omega)) (rl_eS hl (by omega) (by omega) (by omega) (by omega) (by omega)) hf w2 (by omega) hd (by decide) (by decide) w1.1 w1.2 c2.1 (by omega)
        rw [bd_t g1]
        exact ⟨_, _, rfl, g2, fun z hz => ⟨Sum.inl.inj hz, by rw [g3.2 _ (by decide), ms_a (by decide)]; exact ms_e⟩, fun q hq => absurd hq (by simp)⟩
      · rw [if_neg c5, if_neg c5]
        exact OKr.fin h0 ms_e
    · rw [if_neg c2, if_pos (show (0 : Int) = 0 from rfl), if_neg c2]
      exact no 2 1 (by decide) rfl
  · rw [if_neg c1, if_pos (show (0 : Int) = 0 from rfl), if_neg c1]
    exact no 1 0 (by decide) rfl
/-- an attempt fails -/
theorem RXE.miss (h : RXE m e) (hc : CN e) (hl : RLw e) (hf : RFw (pMiss p v e)) (hA : AcW e p) (hG : WGlo e) (p0 : 0 ≤ p) (p1 : p < e.1 8 2) (c5 : e.1 (8000 + p) 5 = 1) : ∃ m', fm_X12_misses p v m = some (0, m') ∧ RXE m' (pMiss p v e) ∧ SCR m m' := by
  have n8 := hc.2.1
  have n7 := hc.1
  obtain ⟨⟨k98, k99, k100, k101, k102, k103, k104, k108⟩, kd, kt⟩ := h.pa p p0 p1
  obtain ⟨⟨w1, wk, -, -, -, w6, -⟩, ⟨w2, w3⟩, w4⟩ := hA
  have k74 := h.pk _ wk.1 wk.2 0 (by decide) (by decide)
  have k75 := h.pk _ wk.1 wk.2 1 (by decide) (by decide)
  rw [show (74 : Int) + 0 = 74 from rfl] at k74
  rw [show (74 : Int) + 1 = 75 from rfl] at k75
  have e0 := h.ps.1
  have gk := hG.2.2.2.2.2.1 _ wk.1 wk.2
  have last : RFw (pArr (e.1 (8000 + p) 0) 2 (e.1 (8000 + p) 1) 0 (eS e (8000 + p) 5 2)) → ∃ m', fj_X12_misses_56 p m = some (0, m') ∧ RXE m' (pArr (e.1 (8000 + p) 0) 2 (e.1 (8000 + p) 1) 0 (eS e (8000 + p) 5 2)) ∧ SCR m m' := fun hf => by
    have h1 := h.ast (v := 2) hc p0 p1 (by decide)
    have e7 : (eS e (8000 + p) 5 2).1 7 2 = e.1 7 2 := eS_a (by omega)
    have hd : ¬ Dead (eS e (8000 + p) 5 2) (e.1 (8000 + p) 0) := fun hh => w4 (by omega) (by
      unfold Dead at hh
      rw [eS_a (by omega)] at hh
      exact hh)
    obtain ⟨m', g1, g2, g3⟩ := h1.arr2 (cn_eS hc (by omega)) (rl_eS hl (by omega) (by omega) (by omega) (by omega) (by omega)) hf w2 (by omega) hd (by decide) (by decide) w1.1 w1.2 (by decide) (by decide)
    unfold fj_X12_misses_56
    rw [gd_t (by omega), up_t, lx_p, ms_a (b := 98) (by decide), k98, lx_p, ms_a (b := 99) (by decide), k99, bd_t g1]
    exact ⟨m', rfl, g2, (SCR.ms (by decide) (by decide) (by decide) (by omega)).tr g3⟩
  unfold fm_X12_misses
  unfold pMiss at hf ⊢
  by_cases cv : v = 0
  · rw [if_pos cv, gd_t (by omega), lx_p, k103, lx_p, k100, gd_t wk, lx_p, k74]
    by_cases c6 : e.1 (8000 + p) 6 < e.1 (64 + e.1 (8000 + p) 2) 0
    · rw [if_pos c6, if_pos ⟨cv, c6⟩, up_t, lx_p, ms_a (b := 68) (by decide), e0, lx_p, ms_a (b := 100) (by decide), k100, gd_t wk, lx_p, ms_a (b := 75) (by decide), k75]
      have ht := hl.1
      rw [w32_id (by omega) (by omega), up_t]
      refine ⟨_, rfl, h.ac hc p0 p1 (fun a j g1 g2 g3 _ => ?_) (fun a u g => by rw [eS_a g, eS_a g]) rfl ⟨⟨?_, ?_, ?_, ?_, ?_, ?_, ?_, ?_⟩, Or.inl ?_, fun hh => ?_⟩, (SCR.ms (by decide) (by decide) (by decide) (by omega)).tr (SCR.ms (by decide) (by decide) (by decide) (by omega))⟩
      · unfold mset
        rw [if_neg (by omega), if_neg (by omega)]
      · rw [eS_j (by decide), eS_j (by decide), ms_a (by decide), ms_a (by decide)]; exact k98
      · rw [eS_j (by decide), eS_j (by decide), ms_a (by decide), ms_a (by decide)]; exact k99
      · rw [eS_j (by decide), eS_j (by decide), ms_a (by decide), ms_a (by decide)]; exact k100
      · rw [eS_j (by decide), eS_j (by decide), ms_a (by decide), ms_a (by decide)]; exact k101
      · rw [eS_j (by decide), eS_e, ms_a (by decide), ms_e]
      · rw [eS_j (by decide), eS_j (by decide), ms_a (by decide), ms_a (by decide)]; exact k103
      · rw [eS_j (by decide), eS_j (by decide), ms_a (by decide), ms_a (by decide)]; exact k104
      · rw [eS_j (by decide), eS_j (by decide), ms_a (by decide), ms_a (by decide)]; exact k108
      · rw [eS_e, ms_e]
      · rw [eS_j (by decide), eS_e] at hh
        exact absurd hh (by decide)
    · rw [if_neg (fun hh => c6 hh.2)] at hf
      rw [if_neg c6, if_neg (fun hh => c6 hh.2)]
      exact last hf
  · rw [if_neg (fun hh => cv hh.1)] at hf
    rw [if_neg cv, if_neg (fun hh => cv hh.1)]
    exact last hf
theorem x_fail (h : RXE m e) (hc : CN e) (hl : RLw e) (hf : RFw (pcFail p1 p2 e).2) (hA : ∀ i : Int, 0 ≤ i → i < e.1 8 2 → AcW e i) (hG : WGlo e) : OKr (fm_X12_fail p1 p2 m) cd1 (pcFail p1 p2 e) := by
  have h0 := h.th (q := 0) hc
  unfold fm_X12_fail
  unfold pcFail at hf ⊢
  rw [bp_t (rIsA h hc)]
  by_cases c1 : 0 ≤ p1 ∧ p1 < e.1 8 2
  · have n8 := hc.2.1
    rw [if_pos c1, if_neg (show ¬ (1 : Int) = 0 by decide), if_pos c1]
    rw [if_pos c1] at hf
    have k102 := (h0.pa p1 c1.1 c1.2).1.2.2.2.2.1
    unfold fj_X12_fail_14
    rw [bd_t fails_e, if_neg (show ¬ (0 : Int) < 0 by decide), if_pos (show (0 : Int) = 0 from rfl), gd_t (by omega), lx_p, k102]
    by_cases c5 : e.1 (8000 + p1) 5 = 1
    · rw [if_pos c5] at hf
      rw [if_pos c5, if_pos c5]
      obtain ⟨m', g1, g2, g3⟩ := h0.miss hc hl hf (hA p1 c1.1 c1.2) hG c1.1 c1.2 c5
      rw [bd_t g1]
      exact ⟨_, _, rfl, g2, fun z hz => ⟨Sum.inl.inj hz, by rw [g3.2 _ (by decide)]; exact ms_e⟩, fun q hq => absurd hq (by simp)⟩
    · rw [if_neg c5, if_neg c5]
      exact OKr.fin h0 ms_e
  · rw [if_neg c1, if_pos (show (0 : Int) = 0 from rfl), if_neg c1]
    unfold fj_X12_fail_14
    rw [bd_t fails_e, if_pos (show (0 : Int) < 1 by decide), if_neg (show ¬ (1 : Int) = 0 by decide)]
    exact OKr.no h hc rfl
/-- the first activity of a kind that waits and is due -/
theorem rTk (h : RXE m e) (hc : CN e) {K : Int → Option (Int × MM)} : ∀ (n f : Nat) (i : Int), 0 ≤ i → e.1 8 2 < i + n → 0 < n → n ≤ f → fl_X12_take_25 k m K f i = if fTk e k n i < 0 then some (-1, m) else K (fTk e k n i) := by
  have n8 := hc.2.1
  have e34 : m 68 34 = e.1 8 2 := h.ps.2.2.2.2.1
  have e0 := h.ps.1
  intro n
  induction n with
  | zero =>
    intro f i i0 i1 h1 h2
    omega
  | succ n ih =>
    intro f i i0 i1 h1 h2
    obtain ⟨f, rfl⟩ : ∃ g, f = g + 1 := ⟨f - 1, by omega⟩
    unfold fl_X12_take_25 fTk
    rw [lx_p, e34]
    by_cases c : i < e.1 8 2
    · obtain ⟨⟨k98, k99, k100, k101, k102, k103, k104, k108⟩, kd, kt⟩ := h.pa i i0 c
      rw [if_pos c, if_pos c, gd_t (by omega), lx_p, k100, lx_p, k102, lx_p, lx_p, e0, lx_p, w32_id (by omega) (by omega)]
      have go : ¬ (e.1 (8000 + i) 2 = k ∧ e.1 (8000 + i) 5 = 0 ∧ e.1 (8000 + i) 7 ≤ e.1 4 14) → fl_X12_take_25 k m K f (i + 1) = if (if e.1 (8000 + i) 2 = k ∧ e.1 (8000 + i) 5 = 0 ∧ e.1 (8000 + i) 7 ≤ e.1 4 14 then i else fTk e k n (i + 1)) < 0 then some (-1, m) else K (if e.1 (8000 + i) 2 = k ∧ e.1 (8000 + i) 5 = 0 ∧ e.1 (8000 + i) 7 ≤ e.1 4 14 then i else fTk e k n (i + 1)) := fun hh => by
        rw [if_neg hh]
        rcases Nat.eq_zero_or_pos n with z | z
        · omega
        · exact ih f (i + 1) (by omega) (by omega) z (by omega)
      by_cases c2 : e.1 (8000 + i) 2 = k
      · rw [if_pos c2]
        by_cases c3 : e.1 (8000 + i) 5 = 0
        · rw [if_pos c3]
          by_cases c4 : e.1 (8000 + i) 7 ≤ e.1 4 14
          · rw [if_neg (show ¬ e.1 4 14 < m 105 i by omega), if_pos (show e.1 (8000 + i) 2 = k ∧ e.1 (8000 + i) 5 = 0 ∧ e.1 (8000 + i) 7 ≤ e.1 4 14 from ⟨c2, c3, c4⟩), if_neg (show ¬ i < 0 by omega)]
          · rw [if_pos (show e.1 4 14 < m 105 i by omega)]
            exact go fun hh => c4 hh.2.2
        · rw [if_neg c3]
          exact go fun hh => c3 hh.2.1
      · rw [if_neg c2]
        exact go fun hh => c2 hh.1
    · rw [if_neg c, if_neg c, if_pos (by decide)]
theorem fTk_b : ∀ (n : Nat) (i : Int), 0 ≤ i → fTk e k n i < 0 ∨ (0 ≤ fTk e k n i ∧ fTk e k n i < e.1 8 2) := by
  intro n
  induction n with
  | zero => intro i _; exact Or.inl (show (-1 : Int) < 0 by decide)
  | succ n ih =>
    intro i i0
    unfold fTk
    by_cases c : i < e.1 8 2
    · rw [if_pos c]
      split
      · right; omega
      · exact ih (i + 1) (by omega)
    · rw [if_neg c]
      left; decide
theorem x_take (h : RXE m e) (hc : CN e) (hA : ∀ i : Int, 0 ≤ i → i < e.1 8 2 → AcW e i) : OKr (fm_X12_take p1 m) cd1 (pcTake p1 e) := by
  have h0 := h.th (q := 0) hc
  have n8 := hc.2.1
  unfold fm_X12_take pcTake
  rw [bp_t isIn_e]
  by_cases c1 : 0 ≤ p1 ∧ p1 < 4
  · rw [if_pos (show 0 ≤ p1 ∧ p1 ≤ 3 by omega), if_neg (show ¬ (1 : Int) = 0 by decide), if_pos c1]
    unfold fj_X12_take_15
    rw [bd_t fails_e, if_neg (show ¬ (0 : Int) < 0 by decide), if_pos (show (0 : Int) = 0 from rfl), rTk h0 hc 61 BIG 0 (by decide) (by omega) (by decide) (Nat.le_of_lt (BIG_g (by decide)))]
    by_cases c2 : fTk e p1 61 0 < 0
    · rw [if_pos c2, if_pos c2]
      exact OKr.fin h0 ms_e
    · rcases fTk_b (e := e) (k := p1) 61 0 (by decide) with g | g
      · exact absurd g c2
      rw [if_neg c2, if_neg c2]
      obtain ⟨i, hi⟩ : ∃ i, i = fTk e p1 61 0 := ⟨_, rfl⟩
      rw [← hi] at g ⊢
      obtain ⟨⟨k98, k99, k100, k101, k102, k103, k104, k108⟩, kd, kt⟩ := h0.pa i g.1 g.2
      obtain ⟨⟨-, -, w3, -, -, w6, -⟩, -⟩ := hA i g.1 g.2
      have e0 := h0.ps.1
      rw [gd_t (by omega), up_t, lx_p, ms_a (b := 103) (by decide), k103, w32_id (z := e.1 (8000 + i) 6 + 1) (by omega) (by omega), up_t, lx_p, ms_a (b := 68) (by decide), ms_a (b := 68) (by decide), e0, up_t, lx_p, ms_a (b := 68) (by decide), ms_a (b := 68) (by decide), ms_a (b := 68) (by decide), e0, up_t, lx_p, ms_a (b := 101) (by decide), ms_a (b := 101) (by decide), ms_a (b := 101) (by decide), ms_a (b := 101) (by decide), k101, w32_id (z := 1000 * i) (by omega) (by omega), w32_id (by omega) (by omega)]
      refine ⟨_, _, rfl, h0.ac hc g.1 g.2 (fun a j g1 g2 g3 _ => ?_) (fun a u g => by rw [eS_a g, eS_a g, eS_a g, eS_a g]) rfl ⟨⟨?_, ?_, ?_, ?_, ?_, ?_, ?_, ?_⟩, ?_, fun hh => ⟨?_, ?_⟩⟩, fun z hz => ⟨Sum.inl.inj hz, by rw [ms_a (by decide), ms_a (by decide), ms_a (by decide), ms_a (by decide)]; exact ms_e⟩, fun q hq => absurd hq (by simp)⟩
      · unfold mset
        rw [if_neg (by omega), if_neg (by omega), if_neg (by omega), if_neg (by omega)]
      · rw [eS_j (by decide), eS_j (by decide), eS_j (by decide), eS_j (by decide), ms_a (by decide), ms_a (by decide), ms_a (by decide), ms_a (by decide)]; exact k98
      · rw [eS_j (by decide), eS_j (by decide), eS_j (by decide), eS_j (by decide), ms_a (by decide), ms_a (by decide), ms_a (by decide), ms_a (by decide)]; exact k99
      · rw [eS_j (by decide), eS_j (by decide), eS_j (by decide), eS_j (by decide), ms_a (by decide), ms_a (by decide), ms_a (by decide), ms_a (by decide)]; exact k100
      · rw [eS_j (by decide), eS_j (by decide), eS_j (by decide), eS_j (by decide), ms_a (by decide), ms_a (by decide), ms_a (by decide), ms_a (by decide)]; exact k101
      · rw [eS_j (by decide), eS_j (by decide), eS_j (by decide), eS_e, ms_a (by decide), ms_a (by decide), ms_a (by decide), ms_e]
      · rw [eS_j (by decide), eS_j (by decide), eS_e, ms_a (by decide), ms_a (by decide), ms_e]
      · rw [eS_j (by decide), eS_j (by decide), eS_j (by decide), eS_j (by decide), ms_a (by decide), ms_a (by decide), ms_a (by decide), ms_a (by decide)]; exact k104
      · rw [eS_j (by decide), eS_j (by decide), eS_j (by decide), eS_j (by decide), ms_a (by decide), ms_a (by decide), ms_a (by decide), ms_a (by decide)]; exact k108
      · rw [eS_j (by decide), eS_j (by decide), eS_j (by decide), eS_j (by decide), eS_a (by omega), eS_a (by omega), eS_a (by omega), eS_a (by omega), ms_a (by decide), ms_a (by decide), ms_a (by decide), ms_a (by decide)]; exact kd
      · rw [eS_j (by decide), eS_e, ms_a (by decide), ms_e]
      · rw [eS_e, ms_e]
  · rw [if_neg (show ¬ (0 ≤ p1 ∧ p1 ≤ 3) by omega), if_pos (show (0 : Int) = 0 from rfl), if_neg c1]
    unfold fj_X12_take_15
    rw [bd_t fails_e, if_pos (show (0 : Int) < 1 by decide), if_neg (show ¬ (1 : Int) = 0 by decide)]
    exact OKr.no h hc rfl
theorem x_copy (h : RXE m e) (hc : CN e) (h8 : ∀ i : Int, 0 ≤ i → i < e.1 7 2 → 0 ≤ e.1 (7000 + i) 8 ∧ e.1 (7000 + i) 8 < 100000000) : OKr (fm_X12_copy p1 p2 m) cd3 (pcCopy p1 p2 e) := by
  have h0 := h.th (q := 0) hc
  have no : ∀ (q : Int) (n : Nat), 0 < q → cd3 n = q → OKr (fj_X12_copy_28 p1 p2 q m) cd3 (rT n e) := fun q n hq hn => by
    unfold fj_X12_copy_28
    rw [bd_t fails_e, if_pos hq, if_neg (show ¬ (1 : Int) = 0 by decide)]
    exact OKr.no h hc hn
  unfold fm_X12_copy pcCopy
  rw [bp_t (rIsR h hc)]
  by_cases c1 : 0 ≤ p1 ∧ p1 < e.1 7 2
  · have n7 := hc.1
    rw [if_pos c1, if_neg (show ¬ (1 : Int) = 0 by decide), if_pos c1, bp_t isIn_e]
    by_cases c2 : 1 ≤ p2 ∧ p2 ≤ 100
    · rw [if_pos c2, if_neg (show ¬ (1 : Int) = 0 by decide), if_neg (show ¬ (p2 < 1 ∨ 100 < p2) by omega)]
      have b8 := h8 p1 c1.1 c1.2
      have k := h0.pr.1 p1 c1.1 c1.2
      obtain ⟨⟨a1, a2, a3, a4, a5, a6⟩, ⟨k86, k89, k90, k91⟩, k92, k93, k94, k138⟩ := k
      unfold fj_X12_copy_28
      rw [bd_t fails_e, if_neg (show ¬ (0 : Int) < 0 by decide), if_pos (show (0 : Int) = 0 from rfl), gd_t (by omega), lx_p, k92, lx_p, k86, w32_id (by omega) (by omega)]
      have hle : fm_X12_least (e.1 (7000 + p1) 8 + p2) (hN e p1) (mset m 68 129 0) = some (if e.1 (7000 + p1) 8 + p2 < hN e p1 then e.1 (7000 + p1) 8 + p2 else hN e p1) := by
        unfold fm_X12_least
        split <;> rfl
      rw [bp_t hle, up_t, lx_p, ms_e]
      refine ⟨_, _, rfl, h0.rn hc c1.1 c1.2 (fun a j g1 g2 g3 _ => ?_) (fun a u g => ?_) rfl (fun hh => ?_) ⟨⟨?_, ?_, ?_, ?_, ?_, ?_⟩, ⟨?_, ?_, ?_, ?_⟩, ?_, ?_, fun hh => ?_, ?_⟩, fun z hz => ⟨Sum.inl.inj hz, by rw [ms_a (by decide)]; exact ms_e⟩, fun q hq => absurd hq (by simp)⟩
      · unfold mset
        rw [if_neg (by omega)]
      · by_cases c : a = 7000 + p1
        · rw [c]; exact eS_j (by omega)
        · exact eS_a c
      · unfold Dead
        rw [eS_j (by decide)]
        exact hh
      · rw [eS_j (by decide), ms_a (by decide)]; exact a1
      · rw [eS_j (by decide), ms_a (by decide)]; exact a2
      · rw [eS_j (by decide), ms_a (by decide)]; exact a3
      · rw [eS_j (by decide), ms_a (by decide)]; exact a4
      · rw [eS_j (by decide), ms_a (by decide)]; exact a5
      · rw [eS_j (by decide), eS_j (by decide), ms_a (by decide)]; exact a6
      · rw [ms_a (by decide)]; exact k86.trans (eS_a (by omega)).symm
      · rw [ms_a (by decide), k89]
        unfold hA
        rw [show hN (eS e (7000 + p1) 8 _) p1 = hN e p1 from eS_a (by omega)]
        rfl
      · rw [ms_a (by decide), k90]
        unfold hT
        rw [show hN (eS e (7000 + p1) 8 _) p1 = hN e p1 from eS_a (by omega)]
        rfl
      · rw [ms_a (by decide), k91]
        unfold hC
        rw [show hN (eS e (7000 + p1) 8 _) p1 = hN e p1 from eS_a (by omega)]
        rfl
      · rw [ms_e, eS_e]
      · rw [eS_j (by decide), ms_a (by decide)]; exact k93
      · rw [eS_j (by decide)] at hh
        rw [eS_j (by decide), ms_a (by decide)]
        exact k94 hh
      · rw [eS_j (by decide), ms_a (by decide)]; exact k138
    · rw [if_neg c2, if_pos (show (0 : Int) = 0 from rfl), if_pos (show p2 < 1 ∨ 100 < p2 by omega)]
      exact no 2 1 (by decide) rfl
  · rw [if_neg c1, if_pos (show (0 : Int) = 0 from rfl), if_neg c1]
    exact no 1 0 (by decide) rfl
theorem iOr_0 (h : (Int32.ofInt a).toInt = a) : iOr a 0 = a := by
  have : Int32.ofInt a ||| Int32.ofInt 0 = Int32.ofInt a := by
    show Int32.ofInt a ||| 0 = Int32.ofInt a
    simp
  unfold iOr
  rw [this, h]
theorem iOr_i : (Int32.ofInt (iOr a b)).toInt = iOr a b := by
  unfold iOr
  rw [Int32.ofInt_toInt]
theorem rSea (h : RXE m e) (hc : CN e) : ∀ (n f : Nat) (a i : Int), 0 ≤ i → (Int32.ofInt a).toInt = a → e.1 7 2 < i + n → 0 < n → n ≤ f → fl_X12_search_25 t m f a i = some (fSea e t n a i, m) := by
  have n7 := hc.1
  have e12 : m 68 12 = e.1 7 2 := h.ps.2.1
  intro n
  induction n with
  | zero =>
    intro f a i i0 ha i1 hn h2
    omega
  | succ n ih =>
    intro f a i i0 ha i1 hn h2
    obtain ⟨f, rfl⟩ : ∃ g, f = g + 1 := ⟨f - 1, by omega⟩
    unfold fl_X12_search_25 fSea
    rw [lx_p, e12]
    by_cases c : i < e.1 7 2
    · have k138 := (h.pr.1 i i0 c).2.2.2.2.2
      rw [if_pos c, if_pos c, gd_t (by omega), lx_p, k138]
      by_cases c2 : e.1 (7000 + i) 11 = t
      · rw [if_pos c2, if_pos c2, lx_p, lx_p, w32_id (by omega) (by omega)]
        exact ih f _ (i + 1) (by omega) iOr_i (by omega) (by omega) (by omega)
      · rw [if_neg c2, if_neg c2, lx_p, lx_p, w32_id (by omega) (by omega), iOr_0 ha]
        exact ih f a (i + 1) (by omega) ha (by omega) (by omega) (by omega)
    · rw [if_neg c, if_neg c]
theorem x_search (h : RXE m e) (hc : CN e) : OKr (fm_X12_search p1 m) cd1 (pcSearch p1 e) := by
  have h0 := h.th (q := 0) hc
  have n7 := hc.1
  unfold fm_X12_search pcSearch
  rw [bp_t rIsV]
  by_cases c1 : 0 ≤ p1 ∧ p1 < 1000
  · rw [if_pos c1, if_neg (show ¬ (1 : Int) = 0 by decide), if_pos c1]
    unfold fj_X12_search_13
    rw [bd_t fails_e, if_neg (show ¬ (0 : Int) < 0 by decide), if_pos (show (0 : Int) = 0 from rfl), rSea h0 hc 31 BIG 0 0 (by decide) (by decide) (by omega) (by decide) (Nat.le_of_lt (BIG_g (by decide)))]
    exact OKr.fin h0 ms_e
  · rw [if_neg c1, if_pos (show (0 : Int) = 0 from rfl), if_neg c1]
    unfold fj_X12_search_13
    rw [bd_t fails_e, if_pos (show (0 : Int) < 1 by decide), if_neg (show ¬ (1 : Int) = 0 by decide)]
    exact OKr.no h hc rfl
end RXC6
