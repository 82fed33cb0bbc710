/-! THE REFERENCE'S CALLS: line, deploy, setKind, setPolicy. -/
section RXC7
variable {m m' M : MM} {e e' e2 : ES} {a b c i j k o r v w p t s x y n p1 p2 p3 p4 p5 p6 q A F T z : Int} {l : List Int}
theorem RXE.ty (h : RXE m e) (hc : CN e) (fR : ∀ a j : Int, ¬ ((69 ≤ a ∧ a ≤ 73) ∨ a = 79) → 68 ≤ a → a ≤ 141 → (a = 68 → j ≤ 84) → m' a j = m a j) (fE : ∀ a u : Int, ¬ (48 ≤ a ∧ a ≤ 61) → e'.1 a u = e.1 a u) (fl : ∀ c : Int, ¬ (48000 ≤ c ∧ c < 70000) → eL e' c = eL e c) (fh : ∀ i, eH e' i = eH e i) (hq : RXt m' e') : RXE m' e' := by
  have n7 := hc.1
  exact h.chg hc (W := fun a => (69 ≤ a ∧ a ≤ 73) ∨ a = 79) (U := fun a => a = 1000000) (V := fun a => (48 ≤ a ∧ a ≤ 61) ∨ (48000 ≤ a ∧ a < 70000)) (fun a j g1 g2 g3 => fR _ _ g3 (by omega) g2 (by omega)) (fun u g1 _ => fR _ _ (by omega) (by decide) (by decide) (fun _ => g1)) ⟨fun a u g => fE a u (fun hh => g (Or.inl hh)), fun c g => fl c (fun hh => g (Or.inr hh)), fun i _ => fh i⟩ (by rw [fE _ _ (by omega)]; omega) (DdM.of fun q q0 q1 => fE _ _ (by omega)) (by rw [fE _ _ (by omega)]; omega) (Or.inl ⟨fun a g => by omega, fun a g => by omega, fun a g => by omega⟩) (Or.inr hq) (Or.inl ⟨fun a g => by omega, fun a g => by omega, fun a g => by omega⟩) (Or.inl ⟨fun a g => by omega, fun a g => by omega, fun a g => by omega⟩) (Or.inl ⟨fun a g => by omega, fun a g => by omega, fun a g => by omega⟩) (Or.inl ⟨fun a g => by omega, fun a g => by omega, fun a g => by omega⟩) (Or.inl ⟨fun a g => by omega, fun a g => by omega, fun a g => by omega⟩) (Or.inl ⟨fun a g => by omega, fun a g => by omega, fun a g => by omega⟩) (Or.inl ⟨fun a g => by omega, fun a g => by omega, fun a g => by omega⟩) (Or.inl ⟨fun a g => by omega, fun a g => by omega, fun a g => by omega⟩) (Or.inl ⟨fun a g => by omega, fun a g => by omega, fun a g => by omega⟩) (Or.inl ⟨fun a g => by omega, fun a g => by omega, fun a g => by omega⟩) (Or.inl ⟨fun a g => by omega, fun a g => by omega, fun a g => by omega⟩)
/-- a row of code elsewhere -/
theorem RXd.far (h : RXd m l s) (h70 : m' 70 s = m 70 s) (hm : ∀ a j : Int, 71 ≤ a → a ≤ 73 → 24 * s ≤ j → j < 24 * s + 24 → m' a j = m a j) : RXd m' l s := by
  obtain ⟨h1, h2, h3⟩ := h
  refine ⟨by rw [h70]; exact h1, h2, fun i v hv => ?_⟩
  have hi : i < l.length := by
    by_cases c : i < l.length
    · exact c
    · rw [List.getElem?_eq_none (by omega)] at hv
      exact absurd hv (by simp)
  rw [hm 71 _ (by decide) (by decide) (by omega) (by omega), hm 72 _ (by decide) (by decide) (by omega) (by omega), hm 73 _ (by decide) (by decide) (by omega) (by omega)]
  exact h3 i v hv
theorem rA : ∀ p2 : Int, 0 ≤ p2 → p2 ≤ 23 → fm_X12_mostA p2 m = some (tA p2) ∧ fm_X12_mostB p2 m = some (tB p2) := fun p2 h0 h1 => by
  have hp : p2 = 0 ∨ p2 = 1 ∨ p2 = 2 ∨ p2 = 3 ∨ p2 = 4 ∨ p2 = 5 ∨ p2 = 6 ∨ p2 = 7 ∨ p2 = 8 ∨ p2 = 9 ∨ p2 = 10 ∨ p2 = 11 ∨ p2 = 12 ∨ p2 = 13 ∨ p2 = 14 ∨ p2 = 15 ∨ p2 = 16 ∨ p2 = 17 ∨ p2 = 18 ∨ p2 = 19 ∨ p2 = 20 ∨ p2 = 21 ∨ p2 = 22 ∨ p2 = 23 := by omega
  rcases hp with rfl | rfl | rfl | rfl | rfl | rfl | rfl | rfl | rfl | rfl | rfl | rfl | rfl | rfl | rfl | rfl | rfl | rfl | rfl | rfl | rfl | rfl | rfl | rfl <;> exact ⟨rfl, rfl⟩
theorem rCode (h0 : 0 ≤ p1 ∧ p1 < 4) (h1 : 0 ≤ p2 ∧ p2 ≤ 4) : fm_X12_code p1 p2 m = some (24 * (5 * p1 + p2)) := by
  unfold fm_X12_code
  rw [w32_id (z := 5 * p1) (by omega) (by omega), w32_id (z := 5 * p1 + p2) (by omega) (by omega), w32_id (by omega) (by omega)]
theorem x_line (h : RXE m e) (hc : CN e) : OKr (fm_X12_line p1 p2 p3 p4 m) cd3 (pcLine p1 p2 p3 p4 e) := by
  have h0 := h.th (q := 0) hc
  have no : ∀ (q : Int) (n : Nat), 0 < q → cd3 n = q → OKr (fj_X12_line_96 p1 p2 p3 p4 q m) cd3 (rT n e) := fun q n hq hn => by
    unfold fj_X12_line_96
    rw [bd_t fails_e, if_pos hq, if_neg (show ¬ (1 : Int) = 0 by decide)]
    exact OKr.no h hc hn
  -- the types, and what stands behind
  have main : ∀ s0 : Int, (s0 = 0 ∨ s0 = 1) → OKr (fj_X12_line_55 p1 p2 p3 p4 (if 0 ≤ p1 ∧ p1 < 4 then 1 else 0) s0 m) cd3 (if 0 ≤ p1 ∧ p1 < 4 then (if s0 = 0 then rT 1 e else if ((eL e (dRow (48 + 4 * p1) e)).length : Int) < 24 then (.inl ((eL e (dRow (48 + 4 * p1) e)).length + 1), eLs e (dRow (48 + 4 * p1) e) (eL e (dRow (48 + 4 * p1) e) ++ [1000000 * p2 + 1000 * p3 + p4])) else rT 2 e) else rT 0 e) ∨ (s0 = 1 ∧ ¬ (0 ≤ p3 ∧ p3 ≤ 100 ∧ 0 ≤ p4 ∧ p4 ≤ 999)) := fun s0 hs => by
    by_cases cb : s0 = 1 ∧ ¬ (0 ≤ p3 ∧ p3 ≤ 100 ∧ 0 ≤ p4 ∧ p4 ≤ 999)
    · exact Or.inr cb
    left
    unfold fj_X12_line_55
    by_cases c1 : 0 ≤ p1 ∧ p1 < 4
    · rw [if_pos c1, if_pos c1, if_neg (show ¬ (1 : Int) = 0 by decide)]
      by_cases c2 : s0 = 0
      · rw [if_pos c2, if_pos c2]
        exact no 2 1 (by decide) rfl
      · obtain ⟨t1, t2, t3, t4⟩ := h0.pt p1 c1.1 c1.2
        have t3' := (h.pt p1 c1.1 c1.2).2.2.1.1
        have eD : dRow (48 + 4 * p1) e = 1000 * (48 + 4 * p1) + e.1 (49 + 4 * p1) 2 := by
          unfold dRow
          rw [show 48 + 4 * p1 + 1 = 49 + 4 * p1 by omega]
        have hv := hc.2.2.2.2 (48 + 4 * p1) (isT_4 c1.1 c1.2)
        rw [show 48 + 4 * p1 + 1 = 49 + 4 * p1 by omega] at hv
        rw [if_neg c2, if_neg c2, w32_id (z := 5 * p1) (by omega) (by omega), w32_id (z := 5 * p1 + 4) (by omega) (by omega), gd_t (by omega), lx_p, t3', eD]
        obtain ⟨L, hL⟩ : ∃ L, L = eL e (1000 * (48 + 4 * p1) + e.1 (49 + 4 * p1) 2) := ⟨_, rfl⟩
        rw [← hL] at t3 ⊢
        by_cases c3 : (L.length : Int) = 24
        · rw [if_pos c3, if_neg (by omega)]
          exact no 3 2 (by decide) rfl
        · have l24 := t3.2.1
          have hb : 0 ≤ p3 ∧ p3 ≤ 100 ∧ 0 ≤ p4 ∧ p4 ≤ 999 := by
            by_cases cc : 0 ≤ p3 ∧ p3 ≤ 100 ∧ 0 ≤ p4 ∧ p4 ≤ 999
            · exact cc
            · exact absurd ⟨by omega, cc⟩ cb
          rw [if_neg c3, if_pos (by omega)]
          unfold fj_X12_line_96
          rw [bd_t fails_e, if_neg (show ¬ (0 : Int) < 0 by decide), if_pos (show (0 : Int) = 0 from rfl), lx_p, bp_t (rCode c1 (by decide)), w32_id (z := 5 * p1) (by omega) (by omega), w32_id (z := 5 * p1 + 4) (by omega) (by omega), gd_t (by omega), lx_p, t3.1, lx_p, w32_id (z := 24 * (5 * p1 + 4) + (L.length : Int)) (by omega) (by omega), gd_t (by omega), up_t, up_t, up_t, lx_p, ms_a (by decide), ms_a (by decide), ms_a (by decide), t3.1, w32_id (z := (L.length : Int) + 1) (by omega) (by omega), up_t, lx_p, ms_e]
          refine ⟨_, _, rfl, h0.ty hc (fun a j g1 g2 g3 _ => ?_) (fun a u g => rfl) (fun c g => eLs_a (by omega)) (fun i => rfl) (fun k k0 k1 => ?_), fun z hz => ⟨Sum.inl.inj hz, by rw [ms_a (by decide), ms_a (by decide), ms_a (by decide), ms_a (by decide)]; exact ms_e⟩, fun q hq => absurd hq (by simp)⟩
          · unfold mset
            rw [if_neg (by omega), if_neg (by omega), if_neg (by omega), if_neg (by omega)]
          · obtain ⟨u1, u2, u3, u4⟩ := h0.pt k k0 k1
            have hvk := hc.2.2.2.2 (48 + 4 * k) (isT_4 k0 k1)
            rw [show 48 + 4 * k + 1 = 49 + 4 * k by omega] at hvk
            have far : ∀ {l : List Int} {s : Int}, s ≠ 5 * p1 + 4 → RXd (mset m 68 129 0) l s → RXd (mset (mset (mset (mset (mset m 68 129 0) 71 (24 * (5 * p1 + 4) + (L.length : Int)) p2) 72 (24 * (5 * p1 + 4) + (L.length : Int)) p3) 73 (24 * (5 * p1 + 4) + (L.length : Int)) p4) 70 (5 * p1 + 4) ((L.length : Int) + 1)) l s := fun hs hh => hh.far (by rw [ms_j hs, ms_a (by decide), ms_a (by decide), ms_a (by decide)]) (fun a j g1 g2 g3 g4 => by
              rw [ms_a (by omega)]
              unfold mset
              rw [if_neg (by omega), if_neg (by omega), if_neg (by omega)])
            refine ⟨by rw [ms_a (by decide), ms_a (by decide), ms_a (by decide), ms_a (by decide)]; exact u1, by rw [ms_a (by decide), ms_a (by decide), ms_a (by decide), ms_a (by decide)]; exact u2, ?_, fun v v0 v1 => ?_⟩
            · show RXd _ (eL (eLs e _ _) (1000 * (48 + 4 * k) + e.1 (49 + 4 * k) 2)) _
              by_cases ck : k = p1
              · subst ck
                rw [eLs_e]
                refine ⟨by rw [ms_e, List.length_append]; rfl, by rw [List.length_append]; show L.length + 1 ≤ 24; omega, fun i v hv => ?_⟩
                by_cases ci : i < L.length
                · rw [List.getElem?_append_left ci] at hv
                  obtain ⟨d1, d2, d3⟩ := t3.2.2 i v hv
                  rw [ms_a (b := 71) (by decide), ms_a (b := 71) (by decide), ms_a (b := 71) (by decide), ms_j (a := 71) (by omega), ms_a (b := 72) (by decide), ms_a (b := 72) (by decide), ms_j (a := 72) (by omega), ms_a (b := 72) (by decide), ms_a (b := 73) (by decide), ms_j (a := 73) (by omega), ms_a (b := 73) (by decide), ms_a (b := 73) (by decide)]
                  exact ⟨d1, d2, d3⟩
                · rw [List.getElem?_append_right (by omega)] at hv
                  have ei : i = L.length := by
                    by_cases c5 : i - L.length = 0
                    · omega
                    · rw [List.getElem?_eq_none (by simp; omega)] at hv
                      exact absurd hv (by simp)
                  subst ei
                  rw [Nat.sub_self] at hv
                  have hv' : 1000000 * p2 + 1000 * p3 + p4 = v := Option.some.inj hv
                  rw [ms_a (b := 71) (by decide), ms_a (b := 71) (by decide), ms_a (b := 71) (by decide), ms_e, ms_a (b := 72) (by decide), ms_a (b := 72) (by decide), ms_e, ms_a (b := 73) (by decide), ms_e]
                  omega
              · rw [eLs_a (by omega)]
                exact far (by omega) u3
            · show RXd _ (eL (eLs e _ _) (1000 * (48 + 4 * k) + v)) _
              have v1' : v < e.1 (49 + 4 * k) 2 := v1
              rw [eLs_a (by
                intro hh
                have : k = p1 := by omega
                subst this
                omega)]
              exact far (by omega) (u4 v v0 v1')
    · rw [if_neg c1, if_neg c1, if_pos (show (0 : Int) = 0 from rfl)]
      exact no 1 0 (by decide) rfl
  have eT : ∀ p, fm_X12_isType p m = some (if 0 ≤ p ∧ p < 4 then 1 else 0) := fun p => rIsT
  unfold fm_X12_line
  rw [bp_t rIsT, bp_t isIn_e]
  have bad : ∀ (G : Prop) [Decidable G], (0 ≤ p1 ∧ p1 < 4 → G) → OKr (fj_X12_line_55 p1 p2 p3 p4 (if 0 ≤ p1 ∧ p1 < 4 then 1 else 0) 0 m) cd3 (if 0 ≤ p1 ∧ p1 < 4 then rT 1 e else rT 0 e) := fun G _ _ => by
    rcases main 0 (Or.inl rfl) with g | g
    · rw [if_pos (show (0 : Int) = 0 from rfl)] at g
      exact g
    · exact absurd g.1 (by decide)
  unfold pcLine
  by_cases d1 : 0 ≤ p2 ∧ p2 ≤ 23
  · rw [if_pos d1, if_neg (show ¬ (1 : Int) = 0 by decide)]
    have tb := tA_b p2 d1.1 (by omega)
    have h27 : ∀ z : Int, z = (if p2 = 3 then 1 else 0) → OKr (fj_X12_line_27 p1 p2 p3 p4 (if 0 ≤ p1 ∧ p1 < 4 then 1 else 0) z p3 m) cd3 (if 0 ≤ p1 ∧ p1 < 4 then (if p2 < 0 ∨ 23 < p2 then rT 1 e else if p3 < (if p2 = 3 then 1 else 0) ∨ tA p2 < p3 ∨ p4 < 0 ∨ tB p2 < p4 then rT 1 e else if ((eL e (dRow (48 + 4 * p1) e)).length : Int) < 24 then (.inl ((eL e (dRow (48 + 4 * p1) e)).length + 1), eLs e (dRow (48 + 4 * p1) e) (eL e (dRow (48 + 4 * p1) e) ++ [1000000 * p2 + 1000 * p3 + p4])) else rT 2 e) else rT 0 e) := fun z hz => by
      have z01 : 0 ≤ z := by rw [hz]; split <;> decide
      unfold fj_X12_line_27
      rw [bp_t (rA p2 d1.1 d1.2).1, bp_t isIn_e, if_neg (show ¬ (p2 < 0 ∨ 23 < p2) by omega), ← hz]
      by_cases d2 : z ≤ p3 ∧ p3 ≤ tA p2
      · rw [if_pos d2, if_neg (show ¬ (1 : Int) = 0 by decide), bp_t (rA p2 d1.1 d1.2).2, bp_t isIn_e]
        by_cases d3 : 0 ≤ p4 ∧ p4 ≤ tB p2
        · rw [if_pos d3, if_neg (show ¬ (1 : Int) = 0 by decide), if_neg (show ¬ (p3 < z ∨ tA p2 < p3 ∨ p4 < 0 ∨ tB p2 < p4) by omega)]
          rcases main 1 (Or.inr rfl) with g | g
          · rw [if_neg (show ¬ (1 : Int) = 0 by decide)] at g
            exact g
          · exact absurd ⟨by omega, by omega, by omega, by omega⟩ g.2
        · rw [if_neg d3, if_pos (show (0 : Int) = 0 from rfl), if_pos (show p3 < z ∨ tA p2 < p3 ∨ p4 < 0 ∨ tB p2 < p4 by omega)]
          exact bad True (fun _ => trivial)
      · rw [if_neg d2, if_pos (show (0 : Int) = 0 from rfl), if_pos (show p3 < z ∨ tA p2 < p3 ∨ p4 < 0 ∨ tB p2 < p4 by omega)]
        exact bad True (fun _ => trivial)
    by_cases c3 : p2 = 3
    · rw [if_pos c3]
      exact h27 1 (if_pos c3).symm
    · rw [if_neg c3]
      exact h27 0 (if_neg c3).symm
  · rw [if_neg d1, if_pos (show (0 : Int) = 0 from rfl), if_pos (show p2 < 0 ∨ 23 < p2 by omega)]
    exact bad True (fun _ => trivial)
theorem x_setKind (h : RXE m e) (hc : CN e) : OKr (fm_X12_setKind p1 p2 p3 p4 p5 p6 m) cd3 (pcSetKind p1 p2 p3 p4 p5 p6 e) := by
  have h0 := h.th (q := 0) hc
  have n7 := hc.1
  have main : ∀ s0 : Int, (s0 = 0 ∨ s0 = 1) → OKr (fj_X12_setKind_65 p1 p2 p3 p4 p5 p6 (if 0 ≤ p1 ∧ p1 ≤ 3 then 1 else 0) s0 m) cd3 (if 0 ≤ p1 ∧ p1 < 4 then (if s0 = 0 then rT 1 e else (.inl 0, eS (eS (eS (eS (eS e (64 + p1) 0 p2) (64 + p1) 1 p3) (64 + p1) 2 p4) (64 + p1) 3 p5) (64 + p1) 4 p6)) else rT 0 e) := fun s0 hs => by
    have no : ∀ (q : Int) (n : Nat), 0 < q → cd3 n = q → OKr (fj_X12_setKind_87 p1 p2 p3 p4 p5 p6 q m) cd3 (rT n e) := fun q n hq hn => by
      unfold fj_X12_setKind_87
      rw [bd_t fails_e, if_pos hq, if_neg (show ¬ (1 : Int) = 0 by decide)]
      exact OKr.no h hc hn
    unfold fj_X12_setKind_65
    by_cases c1 : 0 ≤ p1 ∧ p1 < 4
    · rw [if_pos (show 0 ≤ p1 ∧ p1 ≤ 3 by omega), if_pos c1, if_neg (show ¬ (1 : Int) = 0 by decide)]
      by_cases c2 : s0 = 0
      · rw [if_pos c2, if_pos c2]
        exact no 2 1 (by decide) rfl
      · rw [if_neg c2, if_neg c2]
        unfold fj_X12_setKind_87
        rw [bd_t fails_e, if_neg (show ¬ (0 : Int) < 0 by decide), if_pos (show (0 : Int) = 0 from rfl), gd_t c1, up_t, up_t, up_t, up_t, up_t]
        have fE : ∀ a u : Int, a ≠ 64 + p1 → (eS (eS (eS (eS (eS e (64 + p1) 0 p2) (64 + p1) 1 p3) (64 + p1) 2 p4) (64 + p1) 3 p5) (64 + p1) 4 p6).1 a u = e.1 a u := fun a u g => by rw [eS_a g, eS_a g, eS_a g, eS_a g, eS_a g]
        refine ⟨_, _, rfl, h0.chg hc (W := fun a => 74 ≤ a ∧ a ≤ 78) (U := fun a => a = 1000000) (V := fun a => a = 64 + p1) (fun a j g1 g2 g3 => ?_) (fun u g1 _ => ?_) ⟨fun a u g => fE a u g, fun c _ => rfl, fun i _ => rfl⟩ (by rw [fE _ _ (by omega)]; omega) (DdM.of fun q q0 q1 => fE _ _ (by omega)) (by rw [fE _ _ (by omega)]; omega) (Or.inl ⟨fun a g => by omega, fun a g => by omega, fun a g => by omega⟩) (Or.inl ⟨fun a g => by omega, fun a g => by omega, fun a g => by omega⟩) (Or.inr fun k k0 k1 j j0 j1 => ?_) (Or.inl ⟨fun a g => by omega, fun a g => by omega, fun a g => by omega⟩) (Or.inl ⟨fun a g => by omega, fun a g => by omega, fun a g => by omega⟩) (Or.inl ⟨fun a g => by omega, fun a g => by omega, fun a g => by omega⟩) (Or.inl ⟨fun a g => by omega, fun a g => by omega, fun a g => by omega⟩) (Or.inl ⟨fun a g => by omega, fun a g => by omega, fun a g => by omega⟩) (Or.inl ⟨fun a g => by omega, fun a g => by omega, fun a g => by omega⟩) (Or.inl ⟨fun a g => by omega, fun a g => by omega, fun a g => by omega⟩) (Or.inl ⟨fun a g => by omega, fun a g => by omega, fun a g => by omega⟩) (Or.inl ⟨fun a g => by omega, fun a g => by omega, fun a g => by omega⟩) (Or.inl ⟨fun a g => by omega, fun a g => by omega, fun a g => by omega⟩), fun z hz => ⟨Sum.inl.inj hz, by rw [ms_a (by decide), ms_a (by decide), ms_a (by decide), ms_a (by decide), ms_a (by decide)]; exact ms_e⟩, fun q hq => absurd hq (by simp)⟩
        · rw [ms_a (by omega), ms_a (by omega), ms_a (by omega), ms_a (by omega), ms_a (by omega)]
        · rw [ms_a (by omega), ms_a (by omega), ms_a (by omega), ms_a (by omega), ms_a (by omega)]
        · by_cases ck : k = p1
          · subst ck
            have hj : j = 0 ∨ j = 1 ∨ j = 2 ∨ j = 3 ∨ j = 4 := by omega
            rcases hj with rfl | rfl | rfl | rfl | rfl
            · rw [ms_a (by decide), ms_a (by decide), ms_a (by decide), ms_a (by decide), eS_j (by decide), eS_j (by decide), eS_j (by decide), eS_j (by decide), eS_e]; exact ms_e
            · rw [ms_a (by decide), ms_a (by decide), ms_a (by decide), eS_j (by decide), eS_j (by decide), eS_j (by decide), eS_e]; exact ms_e
            · rw [ms_a (by decide), ms_a (by decide), eS_j (by decide), eS_j (by decide), eS_e]; exact ms_e
            · rw [ms_a (by decide), eS_j (by decide), eS_e]; exact ms_e
            · rw [eS_e]; exact ms_e
          · have hm : ∀ (M : MM) (a v : Int), mset M a p1 v (74 + j) k = M (74 + j) k := fun M a v => if_neg fun hh => ck hh.2
            rw [hm, hm, hm, hm, hm, fE _ _ (by omega)]
            exact h0.pk k k0 k1 j j0 j1
    · rw [if_neg (show ¬ (0 ≤ p1 ∧ p1 ≤ 3) by omega), if_neg c1, if_pos (show (0 : Int) = 0 from rfl)]
      exact no 1 0 (by decide) rfl
  have m0 := main 0 (Or.inl rfl)
  have m1 := main 1 (Or.inr rfl)
  rw [if_pos (show (0 : Int) = 0 from rfl)] at m0
  rw [if_neg (show ¬ (1 : Int) = 0 by decide)] at m1
  unfold fm_X12_setKind pcSetKind
  rw [bp_t isIn_e, bp_t isIn_e]
  by_cases d1 : 1 ≤ p2 ∧ p2 ≤ 4
  · rw [if_pos d1, if_neg (show ¬ (1 : Int) = 0 by decide), bp_t isIn_e]
    by_cases d2 : 0 ≤ p3 ∧ p3 ≤ 20
    · rw [if_pos d2, if_neg (show ¬ (1 : Int) = 0 by decide), bp_t isIn_e]
      by_cases d3 : 0 ≤ p4 ∧ p4 ≤ 50
      · rw [if_pos d3, if_neg (show ¬ (1 : Int) = 0 by decide), bp_t isIn_e]
        by_cases d4 : 0 ≤ p5 ∧ p5 ≤ 50
        · rw [if_pos d4, if_neg (show ¬ (1 : Int) = 0 by decide), bp_t isIn_e]
          by_cases d5 : 0 ≤ p6 ∧ p6 ≤ 50
          · rw [if_pos d5, if_neg (show ¬ (1 : Int) = 0 by decide), if_neg (show ¬ (p2 < 1 ∨ 4 < p2 ∨ p3 < 0 ∨ 20 < p3 ∨ p4 < 0 ∨ 50 < p4 ∨ p5 < 0 ∨ 50 < p5 ∨ p6 < 0 ∨ 50 < p6) by omega)]
            exact m1
          · rw [if_neg d5, if_pos (show (0 : Int) = 0 from rfl), if_pos (show p2 < 1 ∨ 4 < p2 ∨ p3 < 0 ∨ 20 < p3 ∨ p4 < 0 ∨ 50 < p4 ∨ p5 < 0 ∨ 50 < p5 ∨ p6 < 0 ∨ 50 < p6 by omega)]
            exact m0
        · rw [if_neg d4, if_pos (show (0 : Int) = 0 from rfl), if_pos (show p2 < 1 ∨ 4 < p2 ∨ p3 < 0 ∨ 20 < p3 ∨ p4 < 0 ∨ 50 < p4 ∨ p5 < 0 ∨ 50 < p5 ∨ p6 < 0 ∨ 50 < p6 by omega)]
          exact m0
      · rw [if_neg d3, if_pos (show (0 : Int) = 0 from rfl), if_pos (show p2 < 1 ∨ 4 < p2 ∨ p3 < 0 ∨ 20 < p3 ∨ p4 < 0 ∨ 50 < p4 ∨ p5 < 0 ∨ 50 < p5 ∨ p6 < 0 ∨ 50 < p6 by omega)]
        exact m0
    · rw [if_neg d2, if_pos (show (0 : Int) = 0 from rfl), if_pos (show p2 < 1 ∨ 4 < p2 ∨ p3 < 0 ∨ 20 < p3 ∨ p4 < 0 ∨ 50 < p4 ∨ p5 < 0 ∨ 50 < p5 ∨ p6 < 0 ∨ 50 < p6 by omega)]
      exact m0
  · rw [if_neg d1, if_pos (show (0 : Int) = 0 from rfl), if_pos (show p2 < 1 ∨ 4 < p2 ∨ p3 < 0 ∨ 20 < p3 ∨ p4 < 0 ∨ 50 < p4 ∨ p5 < 0 ∨ 50 < p5 ∨ p6 < 0 ∨ 50 < p6 by omega)]
    exact m0
theorem x_setPolicy (h : RXE m e) (hc : CN e) : OKr (fm_X12_setPolicy p1 p2 m) cd3 (pcSetPolicy p1 p2 e) := by
  have h0 := h.th (q := 0) hc
  have no : ∀ (q : Int) (n : Nat), 0 < q → cd3 n = q → OKr (fj_X12_setPolicy_26 p1 p2 q m) cd3 (rT n e) := fun q n hq hn => by
    unfold fj_X12_setPolicy_26
    rw [bd_t fails_e, if_pos hq, if_neg (show ¬ (1 : Int) = 0 by decide)]
    exact OKr.no h hc hn
  unfold fm_X12_setPolicy pcSetPolicy
  rw [bp_t rIsT]
  by_cases c1 : 0 ≤ p1 ∧ p1 < 4
  · rw [if_pos c1, if_neg (show ¬ (1 : Int) = 0 by decide), if_pos c1, bp_t isIn_e]
    by_cases c2 : 0 ≤ p2 ∧ p2 ≤ 2
    · rw [if_pos c2, if_neg (show ¬ (1 : Int) = 0 by decide), if_neg (show ¬ (p2 < 0 ∨ 2 < p2) by omega)]
      have t2 := (h0.pt p1 c1.1 c1.2).2.1
      unfold fj_X12_setPolicy_26
      rw [bd_t fails_e, if_neg (show ¬ (0 : Int) < 0 by decide), if_pos (show (0 : Int) = 0 from rfl), gd_t c1, lx_p, t2, up_t]
      refine ⟨_, _, rfl, h0.ty hc (fun a j g1 g2 g3 _ => ms_a (by omega)) (fun a u g => eS_a (by omega)) (fun c g => rfl) (fun i => rfl) (fun k k0 k1 => ?_), fun z hz => ⟨Sum.inl.inj hz, by rw [ms_a (by decide)]; exact ms_e⟩, fun q hq => absurd hq (by simp)⟩
      obtain ⟨u1, u2, u3, u4⟩ := h0.pt k k0 k1
      rw [eS_a (b := 49 + 4 * k) (by omega)]
      refine ⟨by rw [ms_a (by decide)]; exact u1, ?_, u3.far (ms_a (by decide)) (fun a j _ _ _ _ => ms_a (by omega)), fun v v0 v1 => (u4 v v0 v1).far (ms_a (by decide)) (fun a j _ _ _ _ => ms_a (by omega))⟩
      by_cases ck : k = p1
      · rw [ck, ms_e, eS_e]
      · rw [ms_j ck, eS_a (by omega)]
        exact u2
    · rw [if_neg c2, if_pos (show (0 : Int) = 0 from rfl), if_pos (show p2 < 0 ∨ 2 < p2 by omega)]
      exact no 2 1 (by decide) rfl
  · rw [if_neg c1, if_pos (show (0 : Int) = 0 from rfl), if_neg c1]
    exact no 1 0 (by decide) rfl
/-- the draft is copied -/
theorem rCpy (h0 : 0 ≤ p1 ∧ p1 < 4) (hF : F = 24 * (5 * p1 + 4)) (hT : T = 24 * (5 * p1 + v)) (hv : 0 ≤ v ∧ v < 4) {L : Int} (hL : 0 ≤ L ∧ L ≤ 24) {K : MM → Option (Int × MM)} : ∀ (n f : Nat) (i : Int) (m : MM), m 70 (5 * p1 + 4) = L → 0 ≤ i → (L - i).toNat = n → n < f → ∃ m', fl_X12_deploy_71 p1 F T K f i m = K m' ∧ (∀ a j : Int, (a ≠ 71 ∧ a ≠ 72 ∧ a ≠ 73) ∨ j < T + i ∨ T + L ≤ j → m' a j = m a j) ∧ ∀ a j : Int, 71 ≤ a → a ≤ 73 → i ≤ j → j < L → m' a (T + j) = m a (F + j) := by
  intro n
  induction n with
  | zero =>
    intro f i m h70 i0 h1 h2
    obtain ⟨f, rfl⟩ : ∃ g, f = g + 1 := ⟨f - 1, by omega⟩
    unfold fl_X12_deploy_71
    rw [w32_id (z := 5 * p1) (by omega) (by omega), w32_id (z := 5 * p1 + 4) (by omega) (by omega), gd_t (by omega), lx_p, h70, if_neg (by omega)]
    exact ⟨m, rfl, fun _ _ _ => rfl, fun a j _ _ g1 g2 => by omega⟩
  | succ n ih =>
    intro f i m h70 i0 h1 h2
    obtain ⟨f, rfl⟩ : ∃ g, f = g + 1 := ⟨f - 1, by omega⟩
    unfold fl_X12_deploy_71
    rw [w32_id (z := 5 * p1) (by omega) (by omega), w32_id (z := 5 * p1 + 4) (by omega) (by omega), gd_t (by omega), lx_p, h70, if_pos (by omega), w32_id (z := F + i) (by omega) (by omega), w32_id (z := T + i) (by omega) (by omega), gd_t (by omega), lx_p, gd_t (by omega), up_t, lx_p, up_t, lx_p, up_t, lx_p, w32_id (by omega) (by omega)]
    obtain ⟨m', g1, g2, g3⟩ := ih f (i + 1) (mset (mset (mset m 71 (T + i) (m 71 (F + i))) 72 (T + i) (mset m 71 (T + i) (m 71 (F + i)) 72 (F + i))) 73 (T + i) (mset (mset m 71 (T + i) (m 71 (F + i))) 72 (T + i) (mset m 71 (T + i) (m 71 (F + i)) 72 (F + i)) 73 (F + i))) (by rw [ms_a (by decide), ms_a (by decide), ms_a (by decide)]; exact h70) (by omega) (by omega) (by omega)
    refine ⟨m', g1, fun a j hj => ?_, fun a j a1 a2 j1 j2 => ?_⟩
    · rw [g2 a j (by omega)]
      unfold mset
      rw [if_neg (by omega), if_neg (by omega), if_neg (by omega)]
    · by_cases c : j = i
      · rw [c, g2 a (T + i) (by omega)]
        have ha : a = 71 ∨ a = 72 ∨ a = 73 := by omega
        rcases ha with rfl | rfl | rfl
        · rw [ms_a (by decide), ms_a (by decide), ms_e]
        · rw [ms_a (by decide), ms_e, ms_a (by decide)]
        · rw [ms_e, ms_a (by decide), ms_a (by decide)]
      · rw [g3 a j a1 a2 (by omega) j2]
        unfold mset
        rw [if_neg (by omega), if_neg (by omega), if_neg (by omega)]
theorem x_deploy (h : RXE m e) (hc : CN e) : OKr (fm_X12_deploy p1 m) cdS (pcDeploy p1 e) := by
  have h0 := h.th (q := 0) hc
  have no : ∀ (q : Int) (n : Nat), 0 < q → cdS n = q → OKr (fj_X12_deploy_42 p1 q m) cdS (rT n e) := fun q n hq hn => by
    unfold fj_X12_deploy_42
    rw [bd_t fails_e, if_pos hq, if_neg (show ¬ (1 : Int) = 0 by decide)]
    exact OKr.no h hc hn
  unfold fm_X12_deploy pcDeploy
  rw [bp_t rIsT]
  by_cases c1 : 0 ≤ p1 ∧ p1 < 4
  · obtain ⟨t1, t2, t3, t4⟩ := h0.pt p1 c1.1 c1.2
    have t1' := (h.pt p1 c1.1 c1.2).1
    have t3' := (h.pt p1 c1.1 c1.2).2.2.1.1
    have eD : dRow (48 + 4 * p1) e = 1000 * (48 + 4 * p1) + e.1 (49 + 4 * p1) 2 := by
      unfold dRow
      rw [show 48 + 4 * p1 + 1 = 49 + 4 * p1 by omega]
    have hv := hc.2.2.2.2 (48 + 4 * p1) (isT_4 c1.1 c1.2)
    rw [show 48 + 4 * p1 + 1 = 49 + 4 * p1 by omega] at hv
    rw [if_pos c1, if_neg (show ¬ (1 : Int) = 0 by decide), if_pos c1, w32_id (z := 5 * p1) (by omega) (by omega), w32_id (z := 5 * p1 + 4) (by omega) (by omega), gd_t (by omega), lx_p, t3', eD, show 48 + 4 * p1 + 1 = 49 + 4 * p1 by omega]
    obtain ⟨L, hL⟩ : ∃ L, L = eL e (1000 * (48 + 4 * p1) + e.1 (49 + 4 * p1) 2) := ⟨_, rfl⟩
    rw [← hL] at t3 ⊢
    by_cases c2 : L = []
    · rw [if_pos (show (L.length : Int) = 0 by rw [c2]; rfl), if_pos c2]
      exact no 2 2 (by decide) rfl
    · have l1 : 0 < L.length := List.length_pos_iff.mpr c2
      have l24 := t3.2.1
      rw [if_neg (by omega), if_neg c2, gd_t c1, lx_p, t1']
      by_cases c3 : e.1 (49 + 4 * p1) 2 = 4
      · rw [if_pos c3, if_neg (by omega)]
        exact no 2 2 (by decide) rfl
      · rw [if_neg c3, if_pos (by omega)]
        obtain ⟨V, hV⟩ : ∃ V, V = e.1 (49 + 4 * p1) 2 := ⟨_, rfl⟩
        rw [← hV] at t1 hv c3 hL ⊢
        unfold fj_X12_deploy_42
        rw [bd_t fails_e, if_neg (show ¬ (0 : Int) < 0 by decide), if_pos (show (0 : Int) = 0 from rfl), bp_t (rCode c1 (by decide)), gd_t c1, lx_p, t1, bp_t (rCode c1 (by omega))]
        obtain ⟨m2, g1, g2, g3⟩ := rCpy c1 rfl rfl (show 0 ≤ V ∧ V < 4 by omega) (show 0 ≤ (L.length : Int) ∧ (L.length : Int) ≤ 24 by omega) (L.length) BIG 0 (mset m 68 129 0) t3.1 (by decide) (by omega) (BIG_g (by omega))
        rw [g1]
        have e69 : m2 69 p1 = V := by rw [g2 _ _ (by omega)]; exact t1
        have e70 : m2 70 (5 * p1 + 4) = (L.length : Int) := by rw [g2 _ _ (by omega)]; exact t3.1
        rw [lx_p, e69, w32_id (z := 5 * p1) (by omega) (by omega), w32_id (z := 5 * p1 + 4) (by omega) (by omega), gd_t (by omega), lx_p, e70, w32_id (z := 5 * p1 + V) (by omega) (by omega), gd_t (by omega), up_t, up_t, lx_p, ms_a (by decide), ms_a (by decide), e69, w32_id (z := V + 1) (by omega) (by omega), up_t, lx_p, ms_e, w32_id (by omega) (by omega), show V + 1 - 1 = V by omega]
        have isT1 := isT_4 c1.1 c1.2
        have eP : ∀ a u : Int, (a ≠ 49 + 4 * p1 ∨ u ≠ 2) → (pDep (48 + 4 * p1) e).1 a u = e.1 a u := fun a u hu => by
          unfold pDep
          by_cases ca : a = 49 + 4 * p1
          · rw [ca, show 48 + 4 * p1 + 1 = 49 + 4 * p1 by omega]
            exact eS_j (by omega)
          · exact eS_a (by omega)
        have eP2 : (pDep (48 + 4 * p1) e).1 (49 + 4 * p1) 2 = V + 1 := by
          unfold pDep
          rw [show 48 + 4 * p1 + 1 = 49 + 4 * p1 by omega, eS_e, hV]
        have eP3 : ∀ c : Int, eL (pDep (48 + 4 * p1) e) c = if c = 1000 * (48 + 4 * p1) + (V + 1) then [] else eL e c := fun c => by
          unfold pDep
          rw [show 48 + 4 * p1 + 1 = 49 + 4 * p1 by omega, ← hV]
          rfl
        refine ⟨_, _, rfl, h0.ty hc (fun a j q1 q2 q3 _ => ?_) (fun a u g => eP a u (by omega)) (fun c g => by rw [eP3, if_neg (by omega)]) (fun i => rfl) (fun k k0 k1 => ?_), fun z hz => ⟨Sum.inl.inj hz, ?_⟩, fun q hq => absurd hq (by simp)⟩
        · rw [ms_a (by omega), ms_a (by omega), ms_a (by omega), g2 _ _ (by omega)]
        · obtain ⟨u1, u2, u3, u4⟩ := h0.pt k k0 k1
          have hvk := hc.2.2.2.2 (48 + 4 * k) (isT_4 k0 k1)
          rw [show 48 + 4 * k + 1 = 49 + 4 * k by omega] at hvk
          have far : ∀ {l : List Int} {s : Int}, s ≠ 5 * p1 + 4 → s ≠ 5 * p1 + V → RXd (mset m 68 129 0) l s → RXd (mset (mset (mset m2 70 (5 * p1 + V) (L.length : Int)) 70 (5 * p1 + 4) 0) 69 p1 (V + 1)) l s := fun s1 s2 hh => hh.far (by rw [ms_a (by decide), ms_j s1, ms_j s2, g2 _ _ (by omega)]) (fun a j _ _ _ _ => by rw [ms_a (by omega), ms_a (by omega), ms_a (by omega), g2 _ _ (by omega)])
          by_cases ck : k = p1
          · subst ck
            rw [eP2, eP _ _ (Or.inl (by omega)), eP3, if_pos rfl]
            refine ⟨ms_e, by rw [ms_a (by decide), ms_a (by decide), ms_a (by decide), g2 _ _ (by omega)]; exact u2, ⟨by rw [ms_a (by decide)]; exact ms_e, by decide, fun i v hi => absurd hi (by simp)⟩, fun v v0 v1 => ?_⟩
            rw [eP3, if_neg (by omega)]
            by_cases cv : v = V
            · rw [cv, hV, ← hV, ← hL]
              refine ⟨by rw [ms_a (by decide), ms_j (by omega), ms_e], l24, fun i v hi => ?_⟩
              have hil : i < L.length := by
                by_cases c : i < L.length
                · exact c
                · rw [List.getElem?_eq_none (by omega)] at hi
                  exact absurd hi (by simp)
              obtain ⟨d1, d2, d3⟩ := t3.2.2 i v hi
              rw [ms_a (by decide), ms_a (by decide), ms_a (by decide), ms_a (by decide), ms_a (by decide), ms_a (by decide), ms_a (by decide), ms_a (by decide), ms_a (by decide), g3 71 i (by decide) (by decide) (by omega) (by omega), g3 72 i (by decide) (by decide) (by omega) (by omega), g3 73 i (by decide) (by decide) (by omega) (by omega)]
              exact ⟨d1, d2, d3⟩
            · exact far (by omega) (by omega) (u4 v v0 (by omega))
          · rw [eP _ _ (Or.inl (by omega)), eP _ _ (Or.inl (by omega)), eP3, if_neg (by omega)]
            refine ⟨by rw [ms_j ck, ms_a (by decide), ms_a (by decide), g2 _ _ (by omega)]; exact u1, by rw [ms_a (by decide), ms_a (by decide), ms_a (by decide), g2 _ _ (by omega)]; exact u2, far (by omega) (by omega) u3, fun v v0 v1 => ?_⟩
            rw [eP3, if_neg (by omega)]
            exact far (by omega) (by omega) (u4 v v0 v1)
        · rw [ms_a (by decide), ms_a (by decide), ms_a (by decide), g2 _ _ (by omega)]
          exact ms_e
  · rw [if_neg c1, if_pos (show (0 : Int) = 0 from rfl), if_neg c1]
    exact no 1 0 (by decide) rfl
end RXC7
