/-! THE REFERENCE'S CALLS: die, bringIn, backfill. -/
section RXM1
variable {m m' M : MM} {e e' e2 : ES} {a b c i j k o r v w p t s x y n p1 p2 p3 q A B N : Int} {l : List Int}
/-- a task is over -/
theorem RXE.tk (h : RXE m e) (hc : CN e) (p0 : 0 ≤ p) (p1 : p < e.1 9 2) : RXE (mset m 119 p 1) (eS e (9000 + p) 5 1) := by
  have n7 := hc.1
  have n9 := hc.2.2.1
  have fE : ∀ a u : Int, a ≠ 9000 + p → (eS e (9000 + p) 5 1).1 a u = e.1 a u := fun a u g => eS_a g
  refine h.chg hc (W := fun a => a = 119) (U := fun a => a = 1000000) (V := fun a => a = 9000 + p) (fun a j g1 g2 g3 => ms_a g3) (fun u g1 _ => ms_a (by decide)) ⟨fE, fun c _ => rfl, fun i _ => rfl⟩ (by rw [fE _ _ (by omega)]; omega) (DdM.of fun q q0 q1 => fE _ _ (by omega)) (by rw [fE _ _ (by omega)]; omega) (Or.inl ⟨fun a g => by omega, fun a g => by omega, fun a g => by omega⟩) (Or.inl ⟨fun a g => by omega, fun a g => by omega, fun a g => by omega⟩) (Or.inl ⟨fun a g => by omega, fun a g => by omega, fun a g => by omega⟩) (Or.inl ⟨fun a g => by omega, fun a g => by omega, fun a g => by omega⟩) (Or.inl ⟨fun a g => by omega, fun a g => by omega, fun a g => by omega⟩) (Or.inl ⟨fun a g => by omega, fun a g => by omega, fun a g => by omega⟩) (Or.inr ⟨fun p' g0 g1 => ?_, fun p' g0 g1 => ?_, fun w w0 w1 => ?_⟩) (Or.inl ⟨fun a g => by omega, fun a g => by omega, fun a g => by omega⟩) (Or.inl ⟨fun a g => by omega, fun a g => by omega, fun a g => by omega⟩) (Or.inl ⟨fun a g => by omega, fun a g => by omega, fun a g => by omega⟩) (Or.inl ⟨fun a g => by omega, fun a g => by omega, fun a g => by omega⟩) (Or.inl ⟨fun a g => by omega, fun a g => by omega, fun a g => by omega⟩) (Or.inl ⟨fun a g => by omega, fun a g => by omega, fun a g => by omega⟩)
  · rw [fE _ _ (by omega)] at g1
    obtain ⟨a1, a2, a3, a4, a5, a6⟩ := h.pj.1 p' g0 g1
    unfold RXj1
    rw [ms_a (b := 112) (by decide), ms_a (b := 113) (by decide), ms_a (b := 114) (by decide), ms_a (b := 115) (by decide), ms_a (b := 116) (by decide), ms_a (b := 117) (by decide), ms_a (b := 118) (by decide)]
    by_cases c : p' = p
    · rw [c] at a1 a2 a3 a4 a5 a6 ⊢
      rw [ms_e, eS_e, eS_j (by decide), eS_j (by decide), eS_j (by decide), eS_j (by decide), eS_j (by decide)]
      exact ⟨a1, a2, a3, a4, a5, rfl⟩
    · simp only [fE (9000 + p') _ (show 9000 + p' ≠ 9000 + p by omega)]
      rw [ms_j c]
      exact ⟨a1, a2, a3, a4, a5, a6⟩
  · rw [fE _ _ (by omega)] at g0
    rw [ms_j (by omega)]
    exact h.pj.2.1 p' g0 g1
  · rw [ms_a (by decide), ms_a (by decide), ms_a (by decide), fE _ _ (by omega), fE _ _ (by omega), fE _ _ (by omega)]
    exact h.pj.2.2 w w0 w1
theorem dieL {K : Int → MM → Option (Int × MM)} : ∀ (n f : Nat) (c i : Int) (m : MM) (e : ES), RXE m e → CN e → (∀ p : Int, 0 ≤ p → p < e.1 9 2 → e.1 (9000 + p) 5 = 0 ∨ e.1 (9000 + p) 5 = 1) → 0 ≤ i → (0 ≤ c ∧ c ≤ i) → e.1 9 2 < i + n → 0 < n → n ≤ f → ∃ m', fl_X12_die_25 w K f c i m = K (pDieL w n c i e).1 m' ∧ RXE m' (pDieL w n c i e).2 ∧ SCR m m' := by
  intro n
  induction n with
  | zero => intro f c i m e h hc hW i0 hcb i1 hn; omega
  | succ n ih =>
    intro f c i m e h hc hW i0 hcb i1 hn h2
    obtain ⟨f, rfl⟩ : ∃ g, f = g + 1 := ⟨f - 1, by omega⟩
    have n9 := hc.2.2.1
    have e51 : m 68 51 = e.1 9 2 := h.ps.2.2.2.2.2.2.1
    unfold fl_X12_die_25 pDieL
    rw [lx_p, e51]
    by_cases c1 : i < e.1 9 2
    · obtain ⟨k112, k113, k114, k115, k116, k119⟩ := h.pj.1 i i0 c1
      have w5 := hW i i0 c1
      rw [if_pos c1, if_pos c1, gd_t (by omega), lx_p, k112, lx_p, k119]
      -- nothing of it changes
      have same : ¬ (e.1 (9000 + i) 0 = w ∧ e.1 (9000 + i) 5 = 0) → ∃ m', fj_X12_die_57 (fl_X12_die_25 w K f) K w c i 0 m = K (pDieL w n c (i + 1) e).1 m' ∧ RXE m' (pDieL w n c (i + 1) e).2 ∧ SCR m m' := fun hh => by
        unfold fj_X12_die_57 fj_X12_die_70
        rw [if_pos (show (0 : Int) = 0 from rfl), lx_p, w32_id (z := c + 0) (by omega) (by omega), show c + 0 = c by omega, gd_t (by omega), lx_p, k119]
        rcases w5 with w5 | w5
        · rw [if_pos w5, if_pos (show (0 : Int) = 0 from rfl), up_t, show mset m 119 i 0 = m by rw [show (0 : Int) = m 119 i by rw [k119, w5]]; exact ms_id, lx_p, w32_id (by omega) (by omega)]
          exact ih f c (i + 1) m e h hc hW (by omega) (by omega) (by omega) (by omega) (by omega)
        · rw [if_neg (by omega), up_t, show mset m 119 i 1 = m by rw [show (1 : Int) = m 119 i by rw [k119, w5]]; exact ms_id, lx_p, w32_id (by omega) (by omega)]
          exact ih f c (i + 1) m e h hc hW (by omega) (by omega) (by omega) (by omega) (by omega)
      by_cases c2 : e.1 (9000 + i) 0 = w
      · rw [if_pos c2]
        by_cases c3 : e.1 (9000 + i) 5 = 0
        · rw [if_pos c3, if_pos (show e.1 (9000 + i) 0 = w ∧ e.1 (9000 + i) 5 = 0 from ⟨c2, c3⟩)]
          unfold fj_X12_die_57 fj_X12_die_70
          rw [if_neg (show ¬ (1 : Int) = 0 by decide), lx_p, w32_id (z := c + 1) (by omega) (by omega), gd_t (by omega), lx_p, k119, if_pos c3, if_neg (show ¬ (1 : Int) = 0 by decide), up_t, lx_p, w32_id (by omega) (by omega)]
          have e9 : (eS e (9000 + i) 5 1).1 9 2 = e.1 9 2 := eS_a (by omega)
          obtain ⟨m', g1, g2, g3⟩ := ih f (c + 1) (i + 1) _ _ (h.tk hc i0 c1) (cn_eS hc (by omega)) (fun p g0 g1 => by
            rw [e9] at g1
            by_cases cp : p = i
            · rw [cp, eS_e]; exact Or.inr rfl
            · rw [eS_a (by omega)]; exact hW p g0 g1) (by omega) (by omega) (by rw [e9]; omega) (by omega) (by omega)
          exact ⟨m', g1, g2, (SCR.ms (by decide) (by decide) (by decide) (by omega)).tr g3⟩
        · rw [if_neg c3, if_neg (show ¬ (e.1 (9000 + i) 0 = w ∧ e.1 (9000 + i) 5 = 0) from fun hh => c3 hh.2)]
          exact same fun hh => c3 hh.2
      · rw [if_neg c2, if_neg (show ¬ (e.1 (9000 + i) 0 = w ∧ e.1 (9000 + i) 5 = 0) from fun hh => c2 hh.1)]
        exact same fun hh => c2 hh.1
    · rw [if_neg c1, if_neg c1]
      exact ⟨m, rfl, h, SCR.rf⟩
theorem die108 (w0 : 0 ≤ w) (w1 : w < 3) : ∀ (n f : Nat) (i : Int) (m : MM), 0 ≤ i → (30 * w + 30 - i).toNat = n → n < f → i ≤ 30 * w + 30 → ∃ m', fl_X12_die_108 w y f i m = some (y, m') ∧ (∀ a j : Int, m' a j = if a = 123 ∧ i ≤ j ∧ j < 30 * w + 30 then 0 else m a j) := by
  intro n
  induction n with
  | zero =>
    intro f i m i0 h1 h2 i1
    obtain ⟨f, rfl⟩ : ∃ g, f = g + 1 := ⟨f - 1, by omega⟩
    unfold fl_X12_die_108
    rw [w32_id (z := 30 * w) (by omega) (by omega), w32_id (by omega) (by omega), if_neg (by omega)]
    exact ⟨m, rfl, fun a j => by rw [if_neg (by omega)]⟩
  | succ n ih =>
    intro f i m i0 h1 h2 i1
    obtain ⟨f, rfl⟩ : ∃ g, f = g + 1 := ⟨f - 1, by omega⟩
    unfold fl_X12_die_108
    rw [w32_id (z := 30 * w) (by omega) (by omega), w32_id (z := 30 * w + 30) (by omega) (by omega), if_pos (by omega), gd_t (by omega), up_t, lx_p, w32_id (by omega) (by omega)]
    obtain ⟨m', g1, g2⟩ := ih f (i + 1) (mset m 123 i 0) (by omega) (by omega) (by omega) (by omega)
    refine ⟨m', g1, fun a j => ?_⟩
    rw [g2]
    by_cases c : a = 123 ∧ i ≤ j ∧ j < 30 * w + 30
    · rw [if_pos c]
      by_cases c2 : j = i
      · rw [if_neg (by omega), c.1, c2, ms_e]
      · rw [if_pos (by omega)]
    · rw [if_neg c, if_neg (by omega)]
      exact if_neg (by omega)
theorem die2_f : ∀ (n : Nat) (i : Int) (e : ES), 0 ≤ i → e.1 7 2 < i + n → 0 < n → e.1 7 2 ≤ 30 → (pDie2 w n i e).2 = e.2 ∧ ∀ a u : Int, (pDie2 w n i e).1 a u = if 7000 + i ≤ a ∧ a < 7000 + e.1 7 2 ∧ u = 12 ∧ e.1 a 12 = w then -1 else e.1 a u := by
  intro n
  induction n with
  | zero => intro i e i0 i1 hn; omega
  | succ n ih =>
    intro i e i0 i1 hn h30
    unfold pDie2
    by_cases c : i < e.1 7 2
    · rw [if_pos c]
      have e7 : (eS e (7000 + i) 12 (if e.1 (7000 + i) 12 = w then -1 else e.1 (7000 + i) 12)).1 7 2 = e.1 7 2 := eS_a (by omega)
      obtain ⟨g1, g2⟩ := ih (i + 1) (eS e (7000 + i) 12 (if e.1 (7000 + i) 12 = w then -1 else e.1 (7000 + i) 12)) (by omega) (by rw [e7]; omega) (by omega) (by rw [e7]; exact h30)
      refine ⟨g1.trans rfl, fun a u => ?_⟩
      rw [g2, e7]
      by_cases ca : a = 7000 + i
      · rw [ca, if_neg (by omega)]
        by_cases cu : u = 12
        · rw [cu, eS_e]
          by_cases cw : e.1 (7000 + i) 12 = w
          · rw [if_pos cw, if_pos (show 7000 + i ≤ 7000 + i ∧ 7000 + i < 7000 + e.1 7 2 ∧ (12 : Int) = 12 ∧ e.1 (7000 + i) 12 = w from ⟨Int.le_refl _, by omega, rfl, cw⟩)]
          · rw [if_neg cw, if_neg (show ¬ (7000 + i ≤ 7000 + i ∧ 7000 + i < 7000 + e.1 7 2 ∧ (12 : Int) = 12 ∧ e.1 (7000 + i) 12 = w) from fun hh => cw hh.2.2.2)]
        · rw [eS_j cu, if_neg (show ¬ (7000 + i ≤ 7000 + i ∧ 7000 + i < 7000 + e.1 7 2 ∧ u = 12 ∧ e.1 (7000 + i) 12 = w) from fun hh => cu hh.2.2.1)]
      · rw [eS_a ca, eS_a ca]
        by_cases cc : 7000 + i ≤ a ∧ a < 7000 + e.1 7 2 ∧ u = 12 ∧ e.1 a 12 = w
        · rw [if_pos cc, if_pos (show 7000 + (i + 1) ≤ a ∧ a < 7000 + e.1 7 2 ∧ u = 12 ∧ e.1 a 12 = w from ⟨by omega, cc.2.1, cc.2.2⟩)]
        · rw [if_neg cc, if_neg (show ¬ (7000 + (i + 1) ≤ a ∧ a < 7000 + e.1 7 2 ∧ u = 12 ∧ e.1 a 12 = w) from fun hh => cc ⟨by omega, hh.2.1, hh.2.2⟩)]
    · rw [if_neg c]
      exact ⟨rfl, fun a u => by rw [if_neg (show ¬ (7000 + i ≤ a ∧ a < 7000 + e.1 7 2 ∧ u = 12 ∧ e.1 a 12 = w) from fun hh => by omega)]⟩
theorem x_die (h : RXE m e) (hc : CN e) (hW : ∀ p : Int, 0 ≤ p → p < e.1 9 2 → e.1 (9000 + p) 5 = 0 ∨ e.1 (9000 + p) 5 = 1) : OKr (fm_X12_die p1 m) cd1 (pcDie p1 e) := by
  have h0 := h.th (q := 0) hc
  have n9 := hc.2.2.1
  unfold fm_X12_die pcDie
  rw [bp_t rIsW]
  by_cases c1 : 0 ≤ p1 ∧ p1 < 3
  · rw [if_pos c1, if_neg (show ¬ (1 : Int) = 0 by decide), if_pos c1]
    unfold fj_X12_die_13
    rw [bd_t fails_e, if_neg (show ¬ (0 : Int) < 0 by decide), if_pos (show (0 : Int) = 0 from rfl)]
    obtain ⟨m1, g1, g2, g3⟩ := dieL (w := p1) (K := fun x_170 m_183 => lx (w32 (30 * p1)) fun x_192 => fl_X12_die_108 p1 x_170 BIG x_192 m_183) 513 BIG 0 0 (mset m 68 129 0) e h0 hc hW (by decide) ⟨Int.le_refl _, Int.le_refl _⟩ (by omega) (by decide) (Nat.le_of_lt (BIG_g (by decide)))
    obtain ⟨E, hE⟩ : ∃ E, E = (pDieL p1 513 0 0 e).2 := ⟨_, rfl⟩
    rw [← hE] at g2 ⊢
    obtain ⟨m2, q1, q2⟩ := die108 (y := (pDieL p1 513 0 0 e).1) c1.1 c1.2 (30 * p1 + 30 - 30 * p1).toNat BIG (30 * p1) m1 (by omega) rfl (BIG_g (by omega)) (by omega)
    rw [g1, lx_p, w32_id (by omega) (by omega), q1]
    have hcE : CN E := by
      have key : ∀ (n : Nat) (c i : Int) (e : ES), 0 ≤ i → CN e → CN (pDieL p1 n c i e).2 := by
        intro n
        induction n with
        | zero => intro c i e _ hc; exact hc
        | succ n ih =>
          intro c i e i0 hc
          unfold pDieL
          by_cases cc : i < e.1 9 2
          · rw [if_pos cc]
            have := hc.2.2.1
            split
            · exact ih _ _ _ (by omega) (cn_eS hc (by omega))
            · exact ih _ _ _ (by omega) hc
          · rw [if_neg cc]
            exact hc
      rw [hE]
      exact key 513 0 0 e (by decide) hc
    have n7 := hcE.1
    obtain ⟨d1, d2⟩ := die2_f (w := p1) 31 0 E (by decide) (by omega) (by decide) n7.2
    have d3 : ∀ a u : Int, (a < 7000 ∨ 7030 ≤ a ∨ u ≠ 12) → (pDie2 p1 31 0 E).1 a u = E.1 a u := fun a u hu => by rw [d2, if_neg (by omega)]
    refine ⟨_, _, rfl, ?_, fun z hz => ⟨Sum.inl.inj hz, ?_⟩, fun q hq => absurd hq (by simp)⟩
    · refine g2.chg hcE (W := fun a => a = 123) (U := fun a => a = 1000000) (V := fun a => 7000 ≤ a ∧ a < 7030) (fun a j _ _ g => by rw [q2, if_neg (by omega)]) (fun u _ _ => by rw [q2, if_neg (by omega)]) ⟨fun a u g => d3 a u (by omega), fun c _ => congrFun (congrArg (fun x => x.2.1) d1) c, fun i _ => congrFun (congrArg (fun x => x.1) d1) i⟩ (by rw [d3 _ _ (by omega)]; omega) (fun q q0 q1 hq => ?_) (by rw [d3 _ _ (by omega)]; omega) (Or.inl ⟨fun a g => by omega, fun a g => by omega, fun a g => by omega⟩) (Or.inl ⟨fun a g => by omega, fun a g => by omega, fun a g => by omega⟩) (Or.inl ⟨fun a g => by omega, fun a g => by omega, fun a g => by omega⟩) (Or.inr ⟨fun r r0 r1 => ?_, fun r r0 r1 => ?_⟩) (Or.inl ⟨fun a g => by omega, fun a g => by omega, fun a g => by omega⟩) (Or.inl ⟨fun a g => by omega, fun a g => by omega, fun a g => by omega⟩) (Or.inl ⟨fun a g => by omega, fun a g => by omega, fun a g => by omega⟩) (Or.inr fun w w0 w1 => ⟨fun r r0 r1 => ?_, fun r r0 r1 => ?_⟩) (Or.inl ⟨fun a g => by omega, fun a g => by omega, fun a g => by omega⟩) (Or.inl ⟨fun a g => by omega, fun a g => by omega, fun a g => by omega⟩) (Or.inl ⟨fun a g => by omega, fun a g => by omega, fun a g => by omega⟩) (Or.inl ⟨fun a g => by omega, fun a g => by omega, fun a g => by omega⟩) (Or.inl ⟨fun a g => by omega, fun a g => by omega, fun a g => by omega⟩)
      · unfold Dead
        rw [d3 _ _ (by omega)]
        exact hq
      · rw [d3 _ _ (by omega)] at r1
        have hn : hN (pDie2 p1 31 0 E) r = hN E r := d3 _ _ (by omega)
        have hh : eH (pDie2 p1 31 0 E) r = eH E r := congrFun (congrArg (fun x => x.1) d1) r
        have hm : ∀ a, a ≠ 123 → m2 a r = m1 a r := fun a ha => by rw [q2, if_neg (by omega)]
        unfold RXr1 hA hT hC
        rw [hn, hh, hm 80 (by decide), hm 81 (by decide), hm 82 (by decide), hm 83 (by decide), hm 84 (by decide), hm 85 (by decide), hm 86 (by decide), hm 89 (by decide), hm 90 (by decide), hm 91 (by decide), hm 92 (by decide), hm 93 (by decide), hm 94 (by decide), hm 138 (by decide), d3 _ 1 (by omega), d3 _ 2 (by omega), d3 _ 3 (by omega), d3 _ 6 (by omega), d3 _ 4 (by omega), d3 _ 5 (by omega), d3 _ 8 (by omega), d3 _ 9 (by omega), d3 _ 7 (by omega), d3 _ 11 (by omega)]
        exact g2.pr.1 r r0 r1
      · rw [d3 _ _ (by omega)] at r0
        have hm : ∀ a, a ≠ 123 → m2 a r = m1 a r := fun a ha => by rw [q2, if_neg (by omega)]
        unfold RXr0
        rw [hm 88 (by decide), hm 89 (by decide), hm 90 (by decide), hm 91 (by decide), hm 92 (by decide), hm 93 (by decide), hm 138 (by decide)]
        exact g2.pr.2 r r0 r1
      · rw [d3 _ _ (by omega)] at r1
        have hn : hN (pDie2 p1 31 0 E) r = hN E r := d3 _ _ (by omega)
        have hh : eH (pDie2 p1 31 0 E) r = eH E r := congrFun (congrArg (fun x => x.1) d1) r
        have hTe : hT (pDie2 p1 31 0 E) r = hT E r := by unfold hT; rw [hn, hh]
        have k := (g2.pw w w0 w1).1 r r0 r1
        have hm : ∀ a j, a ≠ 123 → m2 a j = m1 a j := fun a j ha => by rw [q2, if_neg (by omega)]
        unfold RXw1
        rw [hTe, hm 124 _ (by decide), hm 125 _ (by decide), hm 126 _ (by decide), hm 127 _ (by decide), d3 _ 9 (by omega), d3 _ 13 (by omega), d3 _ 14 (by omega), d3 _ 15 (by omega), d2 (7000 + r) 12, q2 123 (30 * w + r)]
        by_cases cw : w = p1
        · rw [if_pos (by omega)]
          refine ⟨fun hh => absurd hh (by decide), fun hh => ?_⟩
          exfalso
          split at hh
          · omega
          · rename_i hne
            exact hne ⟨by omega, by omega, rfl, by omega⟩
        · rw [if_neg (by omega)]
          by_cases c12 : E.1 (7000 + r) 12 = p1
          · rw [if_pos (show 7000 + 0 ≤ 7000 + r ∧ 7000 + r < 7000 + E.1 7 2 ∧ (12 : Int) = 12 ∧ E.1 (7000 + r) 12 = p1 from ⟨by omega, by omega, rfl, c12⟩)]
            refine ⟨fun hh => ?_, fun hh => absurd hh (by omega)⟩
            obtain ⟨z1, z2, z3⟩ := k.1 hh
            exact ⟨z1, z2, fun _ => z3 (by omega)⟩
          · rw [if_neg (show ¬ (7000 + 0 ≤ 7000 + r ∧ 7000 + r < 7000 + E.1 7 2 ∧ (12 : Int) = 12 ∧ E.1 (7000 + r) 12 = p1) from fun hh => c12 hh.2.2.2)]
            exact k
      · rw [d3 _ _ (by omega)] at r0
        rw [q2]
        split
        · rfl
        · exact (g2.pw w w0 w1).2 r r0 r1
    · rw [q2, if_neg (by omega), g3.2 _ (by decide)]
      exact ms_e
  · rw [if_neg c1, if_pos (show (0 : Int) = 0 from rfl), if_neg c1]
    unfold fj_X12_die_13
    rw [bd_t fails_e, if_pos (show (0 : Int) < 1 by decide), if_neg (show ¬ (1 : Int) = 0 by decide)]
    exact OKr.no h hc rfl
/-- tags come in -/
theorem brL : ∀ (n f : Nat) (i : Int) (m : MM) (e : ES), RXE m e → CN e → (∀ v ∈ eL e 14, 0 ≤ v ∧ v < 1000 * e.1 7 2) → (0 ≤ e.1 4 12 ∧ e.1 4 12 ≤ e.1 4 11 ∧ e.1 4 11 < 1000000000) → ((eL e 14).length : Int) = (if e.1 4 11 < 51200 then e.1 4 11 else 51200) → e.1 4 12 + (N - i) ≤ 51200 → 0 ≤ i → i ≤ N → N < i + n → N ≤ 1000 → 0 < n → n ≤ f → ∃ v m', fl_X12_bringIn_26 N f i m = some (v, m') ∧ (pBrL N n i e).1 = .inl v ∧ RXE m' (pBrL N n i e).2 ∧ SCR m m' := by
  intro n
  induction n with
  | zero => intro f i m e h hc hv h1 hlen hb i0 i1 i2 hN hn; omega
  | succ n ih =>
    intro f i m e h hc hv h1 hlen hb i0 i1 i2 hN hn h2
    obtain ⟨f, rfl⟩ : ∃ g, f = g + 1 := ⟨f - 1, by omega⟩
    have n7 := hc.1
    have e79 : m 68 79 = e.1 4 12 := h.ps.2.2.2.2.2.2.2.2.2.1
    have e80 : m 68 80 = e.1 4 11 := h.ps.2.2.2.2.2.2.2.2.2.2
    unfold fl_X12_bringIn_26 pBrL
    by_cases c1 : i < N
    · rw [if_pos c1, if_pos c1, lx_p, e79, lx_p, e80]
      by_cases c2 : e.1 4 12 < e.1 4 11
      · have hl : (e.1 4 12).toNat < (eL e 14).length := by
          by_cases cc : e.1 4 11 < 51200
          · rw [if_pos cc] at hlen; omega
          · rw [if_neg cc] at hlen; omega
        obtain ⟨V, hV⟩ : ∃ V, V = (eL e 14)[(e.1 4 12).toNat] := ⟨_, rfl⟩
        have hg : (eL e 14)[(e.1 4 12).toNat]? = some V := by rw [List.getElem?_eq_getElem hl, hV]
        have hD : (eL e 14).getD (e.1 4 12).toNat 0 = V := by rw [List.getD_eq_getElem?_getD, hg]; rfl
        have bV := hv V (List.mem_of_getElem? hg)
        have k137 := h.pg _ _ hg
        rw [show (((e.1 4 12).toNat : Nat) : Int) = e.1 4 12 by omega] at k137
        have q0 : 0 ≤ V / 1000 := by omega
        have q1 : V / 1000 < e.1 7 2 := by omega
        rw [if_pos c2, if_pos c2, gd_t (by omega), lx_p, k137, show Int.tdiv V 1000 = V / 1000 from Int.tdiv_eq_ediv_of_nonneg bV.1, show Int.tmod V 1000 = V % 1000 from Int.tmod_eq_emod_of_nonneg bV.1, w32_id (z := V / 1000) (by omega) (by omega), gd_t (by omega), up_t, lx_p, ms_a (by decide), e79, w32_id (z := e.1 4 12 + 1) (by omega) (by omega), up_t, lx_p, w32_id (z := i + 1) (by omega) (by omega)]
        have h3 := h.rs (A := 138) (j := 11) (v := V % 1000) (r := V / 1000) hc q0 q1 (by omega)
        have hc1 : CN (eS e (7000 + V / 1000) 11 (V % 1000)) := cn_eS hc (by omega)
        have eP : pBr1 e = eS (eS e (7000 + V / 1000) 11 (V % 1000)) 4 12 (e.1 4 12 + 1) := by
          unfold pBr1
          rw [hD, if_pos q1]
        have h4 : RXE (mset (mset m 138 (V / 1000) (V % 1000)) 68 79 (e.1 4 12 + 1)) (pBr1 e) := by
          rw [eP]
          refine h3.sc (j := 79) hc1 (fun a j _ _ => ms_a (by omega)) (fun u _ hu => ms_j hu) (by decide) (by decide) ?_
          obtain ⟨s1, s2, s3, s4, s5, s6, s7, s8, s9, s10, s11⟩ := h3.ps
          unfold RXs
          rw [ms_j (i := 0) (by decide), ms_j (i := 12) (by decide), ms_j (i := 29) (by decide), ms_j (i := 30) (by decide), ms_j (i := 34) (by decide), ms_j (i := 50) (by decide), ms_j (i := 51) (by decide), ms_j (i := 68) (by decide), ms_j (i := 69) (by decide), ms_j (i := 80) (by decide), ms_e, eS_j (i := 14) (by decide), eS_j (i := 13) (by decide), eS_j (i := 15) (by decide), eS_j (i := 11) (by decide), eS_e, eS_a (b := 68) (a := 4) (i := 29) (by decide), eS_a (b := 68) (a := 4) (i := 30) (by decide), eS_a (b := 7) (a := 4) (by decide), eS_a (b := 8) (a := 4) (by decide), eS_a (b := 9) (a := 4) (by decide), eS_a (b := 10) (a := 4) (by decide)]
          exact ⟨s1, s2, s3, s4, s5, s6, s7, s8, s9, rfl, s11⟩
        have hc2 : CN (pBr1 e) := by rw [eP]; exact cn_eS hc1 (by omega)
        have x1 : ∀ a u : Int, a ≠ 7000 + V / 1000 → (a ≠ 4 ∨ u ≠ 12) → (pBr1 e).1 a u = e.1 a u := fun a u g1 g2 => by
          rw [eP]
          by_cases ca : a = 4
          · rw [ca, eS_j (by omega), eS_a (by omega)]
          · rw [eS_a ca, eS_a g1]
        have x2 : (pBr1 e).1 4 12 = e.1 4 12 + 1 := by rw [eP]; exact eS_e
        have x3 : eL (pBr1 e) 14 = eL e 14 := by rw [eP]; rfl
        obtain ⟨v, m', u1, u2, u3, u4⟩ := ih f (i + 1) _ (pBr1 e) h4 hc2 (by rw [x3, x1 _ _ (by omega) (by omega)]; exact hv) (by rw [x2, x1 _ _ (by omega) (by omega)]; omega) (by rw [x3, x1 _ _ (by omega) (by omega)]; exact hlen) (by rw [x2]; omega) (by omega) (by omega) (by omega) hN (by omega) (by omega)
        exact ⟨v, m', u1, u2, u3, ((SCR.ms (by decide) (by decide) (by decide) (by omega)).tr (SCR.ms (by decide) (by decide) (by decide) (by omega))).tr u4⟩
      · rw [if_neg c2, if_neg c2, w32_id (by omega) (by omega)]
        exact ⟨_, m, rfl, rfl, h, SCR.rf⟩
    · rw [if_neg c1, if_neg c1, lx_p, e80, lx_p, e79, w32_id (by omega) (by omega)]
      exact ⟨_, m, rfl, rfl, h, SCR.rf⟩
theorem x_bringIn (h : RXE m e) (hc : CN e) (hv : ∀ v ∈ eL e 14, 0 ≤ v ∧ v < 1000 * e.1 7 2) (h1 : 0 ≤ e.1 4 12 ∧ e.1 4 12 ≤ e.1 4 11 ∧ e.1 4 11 < 1000000000) (hlen : ((eL e 14).length : Int) = if e.1 4 11 < 51200 then e.1 4 11 else 51200) (hb : 1 ≤ p1 → p1 ≤ 100 → e.1 4 12 + p1 ≤ 51200) : OKr (fm_X12_bringIn p1 m) cd1 (pcBringIn p1 e) := by
  have h0 := h.th (q := 0) hc
  unfold fm_X12_bringIn pcBringIn
  rw [bp_t isIn_e]
  by_cases c1 : 1 ≤ p1 ∧ p1 ≤ 100
  · rw [if_pos c1, if_neg (show ¬ (1 : Int) = 0 by decide), if_neg (show ¬ (p1 < 1 ∨ 100 < p1) by omega)]
    unfold fj_X12_bringIn_16
    obtain ⟨v, m', u1, u2, u3, u4⟩ := brL (N := p1) (p1.toNat + 1) BIG 0 (mset m 68 129 0) e h0 hc hv h1 hlen (by have := hb c1.1 c1.2; omega) (by decide) (by omega) (by omega) (by omega) (by omega) (Nat.le_of_lt (BIG_g (by omega)))
    rw [bd_t fails_e, if_neg (show ¬ (0 : Int) < 0 by decide), if_pos (show (0 : Int) = 0 from rfl), u1]
    refine ⟨_, _, rfl, u3, fun z hz => ?_, fun q hq => ?_⟩
    · rw [u2] at hz
      exact ⟨Sum.inl.inj hz, by rw [u4.2 _ (by decide)]; exact ms_e⟩
    · rw [u2] at hq
      exact absurd hq (by simp)
  · rw [if_neg c1, if_pos (show (0 : Int) = 0 from rfl), if_pos (show p1 < 1 ∨ 100 < p1 by omega)]
    unfold fj_X12_bringIn_16
    rw [bd_t fails_e, if_pos (show (0 : Int) < 1 by decide), if_neg (show ¬ (1 : Int) = 0 by decide)]
    exact OKr.no h hc rfl
theorem rTh (h : 0 ≤ x) : fm_X12_ofThousand x m = some (x % 1000) := by
  unfold fm_X12_ofThousand
  rw [show Int.tmod x 1000 = x % 1000 from Int.tmod_eq_emod_of_nonneg h, lx_p, if_neg (by omega)]
/-- a schedule begins a run, where there is room -/
theorem rBeg (h : RXE m e) (hc : CN e) (hl : RLw e) (hf : e.1 7 2 < 30 → RFw (pStart (e.1 (10000 + p) 0) (e.1 (10000 + p) 1) v (-1) 0 e)) (p0 : 0 ≤ p) (p1 : p < e.1 10 2) (ht : 0 ≤ e.1 (10000 + p) 0 ∧ e.1 (10000 + p) 0 < 4) (v0 : 0 ≤ v) (v1 : v < 1000) : ∃ m', fm_X12_beginsFor p v m = some (if e.1 7 2 < 30 then e.1 7 2 else -1, m') ∧ RXE m' (if e.1 7 2 < 30 then pStart (e.1 (10000 + p) 0) (e.1 (10000 + p) 1) v (-1) 0 e else e) ∧ SCR m m' := by
  have n7 := hc.1
  have n10 := hc.2.2.2.1
  have e12 : m 68 12 = e.1 7 2 := h.ps.2.1
  have k128 : m 128 p = e.1 (10000 + p) 0 := h.pc.1 p p0 p1 0 (by decide) (by decide)
  have k129 : m 129 p = e.1 (10000 + p) 1 := h.pc.1 p p0 p1 1 (by decide) (by decide)
  have hv := hc.2.2.2.2 (48 + 4 * e.1 (10000 + p) 0) (isT_4 ht.1 ht.2)
  have k69 := (h.pt _ ht.1 ht.2).1
  unfold fm_X12_beginsFor
  rw [gd_t (by omega), lx_p, k128, lx_p, e12]
  by_cases c : e.1 7 2 < 30
  · rw [if_neg (show ¬ e.1 7 2 = 30 by omega), if_pos c, if_pos c, lx_p, k129, gd_t ht, lx_p, k69, show 49 + 4 * e.1 (10000 + p) 0 = 48 + 4 * e.1 (10000 + p) 0 + 1 by omega, w32_id (by omega) (by omega)]
    obtain ⟨m', g1, g2, g3⟩ := h.start (pf := -1) hc hl c (hf c) v0 v1 (fun hh => absurd rfl hh) rfl
    rw [bd_t g1]
    exact ⟨m', rfl, g2, g3⟩
  · rw [if_pos (show e.1 7 2 = 30 by omega), if_neg c, if_neg c]
    exact ⟨m, rfl, h, SCR.rf⟩
theorem mr_bf : ∀ (n : Nat) (c t : Int) (e : ES), CN e → MR e (pBfL p N n c t e).2 ∧ CN (pBfL p N n c t e).2 := by
  intro n
  induction n with
  | zero => intro c t e hc; exact ⟨MR.rf, hc⟩
  | succ n ih =>
    intro c t e hc
    unfold pBfL
    by_cases c1 : N < t
    · rw [if_pos c1]; exact ⟨MR.rf, hc⟩
    · rw [if_neg c1]
      by_cases c2 : e.1 7 2 < 30
      · rw [if_pos c2]
        obtain ⟨g1, g2⟩ := ih (c + 1) (t + 1) _ (hc.start (t := e.1 (10000 + p) 0) (tn := e.1 (10000 + p) 1) (inp := t * e.1 (10000 + p) 2 % 1000) (par := -1) (pe := 0) c2)
        exact ⟨(mr_start hc c2).tr g1, g2⟩
      · rw [if_neg c2]; exact ⟨MR.rf, hc⟩
/-- no more runs: nothing begins -/
theorem bf77n (h : RXE m e) (hc : CN e) (p0 : 0 ≤ p) (p1 : p < e.1 10 2) (h7 : ¬ e.1 7 2 < 30) (hp : 1 ≤ e.1 (10000 + p) 2 ∧ e.1 (10000 + p) 2 ≤ 50) (ht : 0 ≤ e.1 (10000 + p) 0 ∧ e.1 (10000 + p) 0 < 4) (hl : RLw e) : ∀ (n f : Nat) (t : Int), 0 ≤ t → (N + 1 - t).toNat = n → n < f → N * e.1 (10000 + p) 2 < 3000000 → N < 3000000 → (0 ≤ c ∧ c ≤ 100) → fl_X12_backfill_77 p N f c t m = some (c, m) := by
  have n7 := hc.1
  have n10 := hc.2.2.2.1
  have k130 : m 130 p = e.1 (10000 + p) 2 := h.pc.1 p p0 p1 2 (by decide) (by decide)
  intro n
  induction n with
  | zero =>
    intro f t t0 h1 h2 hb hb2 hcb
    obtain ⟨f, rfl⟩ : ∃ g, f = g + 1 := ⟨f - 1, by omega⟩
    unfold fl_X12_backfill_77
    rw [if_pos (by omega)]
  | succ n ih =>
    intro f t t0 h1 h2 hb hb2 hcb
    obtain ⟨f, rfl⟩ : ∃ g, f = g + 1 := ⟨f - 1, by omega⟩
    have b1 : 0 ≤ t * e.1 (10000 + p) 2 := Int.mul_nonneg t0 (by omega)
    have b2 : t * e.1 (10000 + p) 2 ≤ N * e.1 (10000 + p) 2 := Int.mul_le_mul_of_nonneg_right (by omega) (by omega)
    have e12 : m 68 12 = e.1 7 2 := h.ps.2.1
    have k128 : m 128 p = e.1 (10000 + p) 0 := h.pc.1 p p0 p1 0 (by decide) (by decide)
    have hbg : fm_X12_beginsFor p (t * e.1 (10000 + p) 2 % 1000) m = some (-1, m) := by
      unfold fm_X12_beginsFor
      rw [gd_t (by omega), lx_p, k128, lx_p, e12, if_pos (show e.1 7 2 = 30 by omega)]
    unfold fl_X12_backfill_77
    rw [if_neg (by omega), gd_t (by omega), lx_p, k130, w32_id (z := t * e.1 (10000 + p) 2) (by omega) (by omega), bp_t (rTh b1), bd_t hbg, if_pos rfl, lx_p, lx_p, w32_id (z := c + 0) (by omega) (by omega), w32_id (z := t + 1) (by omega) (by omega), show c + 0 = c by omega]
    exact ih f (t + 1) (by omega) (by omega) (by omega) hb hb2 hcb
theorem bf77 (p0 : 0 ≤ p) (hN : 0 ≤ N ∧ N < 3000000) {T Q : Int} (hQ : 1 ≤ Q ∧ Q ≤ 50) (hNQ : N * Q < 3000000) : ∀ (n f : Nat) (c t : Int) (m : MM) (e : ES), RXE m e → CN e → RLw e → RFw (pBfL p N n c t e).2 → p < e.1 10 2 → e.1 (10000 + p) 2 = Q → (0 ≤ e.1 (10000 + p) 0 ∧ e.1 (10000 + p) 0 < 4) → 0 ≤ t → N + 1 - t < n → 0 < n → n ≤ f → N + 1 - t < f → (0 ≤ c ∧ c + n ≤ 50) → f < 1000000000 + 1 → ∃ m', fl_X12_backfill_77 p N f c t m = some ((pBfL p N n c t e).1, m') ∧ RXE m' (pBfL p N n c t e).2 ∧ SCR m m' := by
  intro n
  induction n with
  | zero => intro f c t m e h hc hl hf p1 hq ht t0 t1 hn; omega
  | succ n ih =>
    intro f c t m e h hc hl hf p1 hq ht t0 t1 hn h2 h3 hcb hf9
    obtain ⟨f, rfl⟩ : ∃ g, f = g + 1 := ⟨f - 1, by omega⟩
    have n7 := hc.1
    have n10 := hc.2.2.2.1
    have k130 : m 130 p = e.1 (10000 + p) 2 := h.pc.1 p p0 p1 2 (by decide) (by decide)
    have hu : pBfL p N (n + 1) c t e = if N < t then (c, e) else if e.1 7 2 < 30 then pBfL p N n (c + 1) (t + 1) (pStart (e.1 (10000 + p) 0) (e.1 (10000 + p) 1) (t * e.1 (10000 + p) 2 % 1000) (-1) 0 e) else (c, e) := rfl
    rw [hu] at hf ⊢
    by_cases c1 : N < t
    · unfold fl_X12_backfill_77
      rw [if_pos c1, if_pos c1]
      exact ⟨m, rfl, h, SCR.rf⟩
    · rw [if_neg c1] at hf ⊢
      by_cases c2 : e.1 7 2 < 30
      · rw [if_pos c2] at hf ⊢
        have b1 : 0 ≤ t * Q := Int.mul_nonneg t0 (by omega)
        have b2 : t * Q ≤ N * Q := Int.mul_le_mul_of_nonneg_right (by omega) (by omega)
        have cS := hc.start (t := e.1 (10000 + p) 0) (tn := e.1 (10000 + p) 1) (inp := t * e.1 (10000 + p) 2 % 1000) (par := -1) (pe := 0) c2
        have mS := mr_start (t := e.1 (10000 + p) 0) (tn := e.1 (10000 + p) 1) (inp := t * e.1 (10000 + p) 2 % 1000) (par := -1) (pe := 0) hc c2
        obtain ⟨m1, g1, g2, g3⟩ := rBeg (v := t * e.1 (10000 + p) 2 % 1000) h hc hl (fun _ => hf.bk (mr_bf n (c + 1) (t + 1) _ cS).1) p0 p1 ht (by omega) (by omega)
        rw [if_pos c2] at g1 g2
        have s1 : ∀ u : Int, (pStart (e.1 (10000 + p) 0) (e.1 (10000 + p) 1) (t * e.1 (10000 + p) 2 % 1000) (-1) 0 e).1 (10000 + p) u = e.1 (10000 + p) u := fun u => start_a n7.1 (by omega) (by omega) (by omega) (by omega) (by omega) (by omega) (by omega)
        have s2 : (pStart (e.1 (10000 + p) 0) (e.1 (10000 + p) 1) (t * e.1 (10000 + p) 2 % 1000) (-1) 0 e).1 10 2 = e.1 10 2 := start_a n7.1 (by omega) (by omega) (by omega) (by omega) (by omega) (by omega) (by omega)
        obtain ⟨m', u1, u2, u3⟩ := ih f (c + 1) (t + 1) m1 _ g2 cS (mS.2.2 hl) hf (by rw [s2]; exact p1) (by rw [s1]; exact hq) (by rw [s1]; exact ht) (by omega) (by omega) (by omega) (by omega) (by omega) (by omega) (by omega)
        unfold fl_X12_backfill_77
        rw [hq] at g1 u1 u2
        rw [if_neg c1, gd_t (by omega), lx_p, k130, hq, w32_id (z := t * Q) (by omega) (by omega), bp_t (rTh b1), bd_t g1, if_neg (show ¬ e.1 7 2 = -1 by omega), lx_p, lx_p, w32_id (z := c + 1) (by omega) (by omega), w32_id (z := t + 1) (by omega) (by omega)]
        exact ⟨m', u1, u2, g3.tr u3⟩
      · rw [if_neg c2] at hf ⊢
        exact ⟨m, bf77n h hc p0 p1 c2 (by omega) ht hl (N + 1 - t).toNat (f + 1) t t0 rfl (by omega) (by rw [hq]; exact hNQ) hN.2 (by omega), h, SCR.rf⟩
theorem x_backfill (h : RXE m e) (hc : CN e) (hl : RLw e) (hf : RFw (pcBackfill p1 p2 e).2) (hS : ∀ p : Int, 0 ≤ p → p < e.1 10 2 → ScW e p) : OKr (fm_X12_backfill p1 p2 m) cd3 (pcBackfill p1 p2 e) := by
  have h0 := h.th (q := 0) hc
  have n10 := hc.2.2.2.1
  have no : ∀ (q : Int) (n : Nat), 0 < q → cd3 n = q → OKr (fj_X12_backfill_27 p1 p2 q m) cd3 (rT n e) := fun q n hq hn => by
    unfold fj_X12_backfill_27
    rw [bd_t fails_e, if_pos hq, if_neg (show ¬ (1 : Int) = 0 by decide)]
    exact OKr.no h hc hn
  unfold fm_X12_backfill
  unfold pcBackfill at hf ⊢
  rw [bp_t (rIsS h hc)]
  by_cases c1 : 0 ≤ p1 ∧ p1 < e.1 10 2
  · rw [if_pos c1] at hf
    rw [if_pos c1, if_neg (show ¬ (1 : Int) = 0 by decide), if_pos c1, bp_t isIn_e]
    by_cases c2 : 1 ≤ p2 ∧ p2 ≤ 5
    · rw [if_neg (show ¬ (p2 < 1 ∨ 5 < p2) by omega)] at hf
      rw [if_pos c2, if_neg (show ¬ (1 : Int) = 0 by decide), if_neg (show ¬ (p2 < 1 ∨ 5 < p2) by omega)]
      obtain ⟨⟨s1, s2, s3⟩, s4, s5⟩ := hS p1 c1.1 c1.2
      have k132 : mset m 68 129 0 132 p1 = e.1 (10000 + p1) 4 := h0.pc.1 p1 c1.1 c1.2 4 (by decide) (by decide)
      have k130 : mset m 68 129 0 130 p1 = e.1 (10000 + p1) 2 := h0.pc.1 p1 c1.1 c1.2 2 (by decide) (by decide)
      have pts : 0 ≤ pPts p1 e ∧ pPts p1 e < 3000000 ∧ pPts p1 e * e.1 (10000 + p1) 2 < 3000000 := by
        unfold pPts
        by_cases cl : 0 < e.1 (10000 + p1) 4
        · rw [if_pos cl]
          have q1 : e.1 (10000 + p1) 4 / e.1 (10000 + p1) 2 * e.1 (10000 + p1) 2 ≤ e.1 (10000 + p1) 4 := Int.ediv_mul_le _ (by omega)
          have q2 : 0 ≤ e.1 (10000 + p1) 4 / e.1 (10000 + p1) 2 := Int.ediv_nonneg (by omega) (by omega)
          have q3 : e.1 (10000 + p1) 4 / e.1 (10000 + p1) 2 ≤ e.1 (10000 + p1) 4 := Int.ediv_le_self _ (by omega)
          omega
        · rw [if_neg cl]
          omega
      have h62 : ∀ s0 : Int, s0 = pPts p1 e → OKr (fj_X12_backfill_62 p1 p2 s0 (mset m 68 129 0)) cd3 (.inl (pBfL p1 (pPts p1 e) 6 0 (pPts p1 e - (if pPts p1 e < p2 then pPts p1 e else p2) + 1) e).1, (pBfL p1 (pPts p1 e) 6 0 (pPts p1 e - (if pPts p1 e < p2 then pPts p1 e else p2) + 1) e).2) := fun s0 hs => by
        have hm : fm_X12_most 1 (s0 - p2 + 1) (mset m 68 129 0) = some (pPts p1 e - (if pPts p1 e < p2 then pPts p1 e else p2) + 1) := by
          unfold fm_X12_most
          by_cases cc : pPts p1 e < p2
          · rw [if_pos cc, if_pos (by omega)]
            congr 1
            omega
          · rw [if_neg cc]
            by_cases c4 : s0 - p2 + 1 < 1
            · omega
            · rw [if_neg c4, hs]
        obtain ⟨m', u1, u2, u3⟩ := bf77 (p := p1) (N := pPts p1 e) (T := 0) c1.1 ⟨pts.1, pts.2.1⟩ s2 pts.2.2 6 BIG 0 (pPts p1 e - (if pPts p1 e < p2 then pPts p1 e else p2) + 1) (mset m 68 129 0) e h0 hc hl hf c1.2 rfl s1 (by split <;> omega) (by split <;> omega) (by decide) (Nat.le_of_lt (BIG_g (by decide))) (by have : (6 : Nat) < BIG := BIG_g (by decide); split <;> omega) (by decide) (by have : BIG = 1000000000 := rfl; omega)
        unfold fj_X12_backfill_62
        rw [w32_id (z := s0 - p2) (by omega) (by omega), w32_id (z := s0 - p2 + 1) (by omega) (by omega), bp_t hm, hs, u1]
        exact OKr.fin u2 (by rw [u3.2 _ (by decide)]; exact ms_e)
      unfold fj_X12_backfill_27
      rw [bd_t fails_e, if_neg (show ¬ (0 : Int) < 0 by decide), if_pos (show (0 : Int) = 0 from rfl), gd_t (by omega), lx_p, k132]
      by_cases c3 : e.1 (10000 + p1) 4 < 1
      · rw [if_pos c3]
        exact h62 0 (by unfold pPts; rw [if_neg (by omega)])
      · rw [if_neg c3, lx_p, k130, gd_t (by omega), show Int.tdiv (e.1 (10000 + p1) 4) (e.1 (10000 + p1) 2) = e.1 (10000 + p1) 4 / e.1 (10000 + p1) 2 from Int.tdiv_eq_ediv_of_nonneg (by omega)]
        have hp : e.1 (10000 + p1) 4 / e.1 (10000 + p1) 2 = pPts p1 e := by unfold pPts; rw [if_pos (by omega)]
        rw [hp, w32_id (by omega) (by omega)]
        exact h62 _ rfl
    · rw [if_neg c2, if_pos (show (0 : Int) = 0 from rfl), if_pos (show p2 < 1 ∨ 5 < p2 by omega)]
      exact no 2 1 (by decide) rfl
  · rw [if_neg c1, if_pos (show (0 : Int) = 0 from rfl), if_neg c1]
    exact no 1 0 (by decide) rfl
end RXM1
