/-! THE TELLING, plain: a potential, VI: what is noted, an arrival. -/
section PTF
variable {x : CX} {s s' s1 s2 : TS} {B : Int} {a b c d e i j v k h l w p r t o q u kd ω κ γ : Int} {f : Int → Int → Int → Int} {g : Int → Int → Int → Int → Int} {E : Int → Ev} {L : List (Int × Int × Int)} {F T Z : Prop} {Ok : TS → Prop} {δ : Int → Int}
/-- what comes back, and CANCEL, may add -/
def PD (x : CX) (f : Int → Int → Int → Int) (g : Int → Int → Int → Int → Int) (F T : Prop) (δ : Int → Int) (γ : Int) : Prop :=
  0 ≤ γ ∧ (∀ w n l l' : Int, (w = 1 ∨ w = 2) → 0 ≤ l → l < x.1 5 → 0 ≤ l' → l' ≤ 24 → f 0 0 l' ≤ f w n l + δ n) ∧
  ∀ r w n l l' : Int, 0 ≤ l → l ≤ 24 → 0 ≤ l' → l' ≤ 24 → ((w = 1 ∨ w = 2) → 0 ≤ n → n < r → (F → x.1 0 ≤ r) → (T → r < x.1 0) → g r 11 n 0 + f 0 0 l' ≤ f w n l + γ) ∧ (¬ (w = 1 ∨ w = 2) → f 0 0 l' ≤ f w 0 l + γ)
theorem ob_can (O : OKH x Ok) (h : Ok (sCan x k s)) : Ok s := by
  unfold sCan at h
  split at h
  · split at h
    · exact o_cmd O h
    · exact o_cmd O (o_fail O h)
  · exact o_fail O h
theorem can_10g (k0 : 0 ≤ k) (hq : j ≠ 12 ∧ j ≠ 30 ∧ j ≠ 31 ∧ j ≠ 9) : sg (sCan x k s) 0 j = sg s 0 j := can_g (by omega) (Or.inr hq)
theorem pz_can (C : PC x f g ω κ F T Z) (D : PD x f g F T δ γ) (hH : QH x B F T s) (hs : x.1 3 ≤ x.1 0) (h4 : x.1 4 ≠ 1) (k0 : 0 ≤ k) (k1 : k < sg s 0 5) (h30 : sg (sCan x k s) 0 30 = 0) : PZ f g ω κ x (sCan x k s) ≤ PZ f g ω κ x s + γ ∧ QH x B F T (sCan x k s) := by
  have hb := hH.ln k0 k1
  refine ⟨?_, w_can hs k0 k1 hH.1, hH.2.1.can hs hH.1 k0 k1, hH.2.2.1.of (fun Ok O hf => ob_can O hf) (can_10g k0 (by omega)), h30⟩
  have hpv := pv_i (f := f) k1
  unfold sCan at h30 ⊢
  by_cases cw : sg s (2 + k) 7 = 1 ∨ sg s (2 + k) 7 = 2
  · rw [if_pos cw] at h30 ⊢
    have hr := cmd_r (c := 11) (a := sg s (2 + k) 8) (b := 0) hH.1 hs (Int.le_trans hH.1.1.1 hH.1.1.2)
    by_cases cr : (sCmd x 11 (sg s (2 + k) 8) 0 s).1 < 0
    · rw [if_pos cr] at h30
      omega
    · rw [if_neg cr] at h30 ⊢
      have hu : sg (sCmd x 11 (sg s (2 + k) 8) 0 s).2 0 30 = 0 := u_fail h30
      obtain ⟨z0, z1, z2, z3, z4, z5⟩ := PZ_cmd (f := f) (g := g) (ω := ω) (κ := κ) hH hs h4 (by decide) (by decide) hu
      have e5 : sg (sCmd x 11 (sg s (2 + k) 8) 0 s).2 0 5 = sg s 0 5 := cmd_g (by omega)
      obtain ⟨l', y1, y2⟩ := pz_fail C z0 hs h4 k0 (by omega) h30
      rw [z1, pv_same (s := s) e5 (cmd_g (Or.inl (by omega))) (cmd_g (Or.inl (by omega))) (cmd_g (Or.inl (by omega))), hpv] at y2
      have hk := z5 k k0 k1 cw
      have := (D.2.2 _ (sg s (2 + k) 7) _ (sg s (2 + k) 4) l' hb.1 hb.2 y1.1 y1.2).1 cw hk.1 hk.2 z2 z3
      omega
  · rw [if_neg cw] at h30 ⊢
    obtain ⟨l', y1, y2⟩ := pz_fail C hH hs h4 k0 k1 h30
    have := (D.2.2 0 (sg s (2 + k) 7) 0 (sg s (2 + k) 4) l' hb.1 hb.2 y1.1 y1.2).2 cw
    rw [hpv, C.e0 cw] at y2
    omega
theorem pz_tell (C : PC x f g ω κ F T Z) (D : PD x f g F T δ γ) (hs : x.1 3 ≤ x.1 0) (h4 : x.1 4 ≠ 1) : ∀ (n : Nat) (k : Int) (s : TS), 0 ≤ k → QH x B F T s → sg (sTell x n k s) 0 30 = 0 → PZ f g ω κ x (sTell x n k s) ≤ PZ f g ω κ x s + γ * n := by
  intro n
  induction n with
  | zero =>
    intro k s _ _ _
    show PZ f g ω κ x s ≤ PZ f g ω κ x s + γ * ((0 : Nat) : Int)
    rw [show ((0 : Nat) : Int) = 0 by rfl, Int.mul_zero]
    omega
  | succ n ih =>
    intro k s k0 hH h30
    have hn : γ * ((n + 1 : Nat) : Int) = γ * n + γ := by rw [show ((n + 1 : Nat) : Int) = (n : Int) + 1 by omega, Int.mul_add, Int.mul_one]
    have hg0 : 0 ≤ γ * (n : Int) := Int.mul_nonneg D.1 (Int.natCast_nonneg n)
    have hg := D.1
    rw [hn]
    rw [tell_u] at h30 ⊢
    by_cases k1 : k < sg s 0 5
    · rw [if_pos k1] at h30 ⊢
      by_cases cg : goes s = true
      · rw [if_pos cg] at h30 ⊢
        by_cases c5 : 0 < sg s (2 + k) 5
        · rw [if_pos c5] at h30 ⊢
          have hH2 : QH x B F T (st s (2 + k) 6 1) := ⟨hH.1.s6 k0 (Or.inl rfl), hH.2.1.sx (by omega), hH.2.2.1.same (by rw [st_g, if_neg (by omega)]) (by rw [st_g, if_neg (by omega)]) rfl, by rw [u_st (by omega)]; exact hH.2.2.2⟩
          have := ih (k + 1) _ (by omega) hH2 h30
          rw [PZ_sx (s := s) (by omega)] at this
          omega
        · rw [if_neg c5] at h30 ⊢
          have hu : sg (sCan x k s) 0 30 = 0 := o_tell ok30 _ _ _ h30
          obtain ⟨y1, y2⟩ := pz_can C D hH hs h4 k0 k1 hu
          have := ih (k + 1) _ (by omega) y2 h30
          omega
      · rw [if_neg cg]; omega
    · rw [if_neg k1]; omega
/-- what noting may add -/
def nK (f : Int → Int → Int → Int) (κ : Int) (δ : Int → Int) (γ : Int) (s : TS) (kd a : Int) : Int := if kd = 0 then f 0 0 0 - κ else if kd = 4 then 0 else if kd = 7 then γ * 13 else if wtr s a < 0 then 0 else δ a
theorem pz_note (C : PC x f g ω κ F T Z) (D : PD x f g F T δ γ) (hH : QH x B F T s) (hs : x.1 3 ≤ x.1 0) (h4 : x.1 4 ≠ 1) (hl2 : x.1 5 ≤ 24) (hn : NoteOk s kd a b) (h30 : sg (sNote x kd a b s) 0 30 = 0) : PZ f g ω κ x (sNote x kd a b s) ≤ PZ f g ω κ x s + nK f κ δ γ s kd a := by
  have h5 := hH.n5
  obtain ⟨nb, n0, n4⟩ := hn
  have hwb := wtr_b (s := s) (e := a)
  -- a branch that waits goes on
  have gg : ∀ (s1 : TS) (l' : Int), PZ f g ω κ x s1 = PZ f g ω κ x s → (∀ p q : Int, p ≠ 1 → sg s1 p q = sg s p q) → 0 ≤ wtr s a → 0 ≤ l' → l' ≤ 24 → PZ f g ω κ x (sGo (wtr s a) l' s1) ≤ PZ f g ω κ x s + δ a := by
    intro s1 l' y1 y2 y3 y4 y5
    obtain ⟨w0, w1, w2, w3⟩ := hwb.resolve_left (by omega)
    have hbr := hH.1.br w0 w1
    rw [PZ_go w0 (by rw [y2 _ _ (by omega)]; exact w1) (by rw [y2 _ _ (by omega)]; omega), y1, C.e0 (w := 0) (j := sg s1 (2 + wtr s a) 8) (by omega), pv_same (s := s) (y2 _ _ (by omega)) (y2 _ _ (by omega)) (y2 _ _ (by omega)) (y2 _ _ (by omega)), pv_i w1]
    have := D.2.1 (sg s (2 + wtr s a) 7) (sg s (2 + wtr s a) 8) (sg s (2 + wtr s a) 4) l' w2 hbr.2.1.1 (hbr.2.2.1 (by omega)) y4 y5
    rw [w3] at this ⊢
    omega
  have fl : sg (sFailed x (wtr s a) s) 0 30 = 0 → PZ f g ω κ x (sFailed x (wtr s a) s) ≤ PZ f g ω κ x s + (if wtr s a < 0 then 0 else δ a) := by
    intro hz
    unfold sFailed at hz ⊢
    by_cases c : wtr s a < 0
    · rw [if_pos c, if_pos c]; omega
    · obtain ⟨w0, w1, w2, w3⟩ := hwb.resolve_left (by omega)
      have hbr := hH.1.br w0 w1
      rw [if_neg c] at hz
      rw [if_neg c, if_neg c]
      by_cases c2 : sg s (2 + wtr s a) 7 = 2
      · rw [if_pos c2]
        exact gg s _ rfl (fun _ _ _ => rfl) w0 hbr.2.1.1 hbr.2.1.2
      · rw [if_neg c2] at hz ⊢
        obtain ⟨l', y1, y2⟩ := pz_fail C hH hs h4 w0 w1 hz
        have := D.2.1 (sg s (2 + wtr s a) 7) (sg s (2 + wtr s a) 8) (sg s (2 + wtr s a) 4) l' w2 hbr.2.1.1 (hbr.2.2.1 (by omega)) y1.1 y1.2
        rw [pv_i w1] at y2
        rw [w3] at this y2
        omega
  unfold sNote at h30 ⊢
  unfold nK
  by_cases c0 : kd = 0
  · rw [if_pos c0] at h30 ⊢
    rw [if_pos c0]
    obtain ⟨a0, a1, t12⟩ := n0 c0
    have e5 : sg (st (st s 1 0 a) 0 40 (sg s 0 40 + 1)) 0 5 = sg s 0 5 := by rw [st_g, if_neg (by omega), st_g, if_neg (by omega)]
    have hp : PZ f g ω κ x (st (st s 1 0 a) 0 40 (sg s 0 40 + 1)) = PZ f g ω κ x s - κ := by
      have := PZ_40 (f := f) (g := g) (ω := ω) (κ := κ) (x := x) (s := st s 1 0 a)
      have e40 : sg (st s 1 0 a) 0 40 = sg s 0 40 := by rw [st_g, if_neg (by omega)]
      have e1 : PZ f g ω κ x (st s 1 0 a) = PZ f g ω κ x s := PZ_sx (by omega)
      rw [e40, e1] at this
      exact this
    rw [PZ_begin (by omega) (by omega), hp]
    omega
  · rw [if_neg c0] at h30 ⊢
    rw [if_neg c0]
    by_cases c2 : kd = 2
    · rw [if_pos c2] at h30 ⊢
      rw [if_neg (by omega), if_neg (by omega)]
      exact fl h30
    · rw [if_neg c2] at h30 ⊢
      by_cases c6 : kd = 6
      · rw [if_pos c6] at h30 ⊢
        rw [if_neg (by omega), if_neg (by omega)]
        exact fl h30
      · rw [if_neg c6] at h30 ⊢
        by_cases c4 : kd = 4
        · rw [if_pos c4] at h30 ⊢
          rw [if_pos c4]
          obtain ⟨a0, a1⟩ := n4 c4
          have e1 : PZ f g ω κ x (stq s a (sq s a ++ [b])) = PZ f g ω κ x s - ω * 1 := PZ_q a0 a1 (by
            rw [List.length_append]
            simp only [List.length_cons, List.length_nil]
            omega)
          have e2 : PZ f g ω κ x (st (stq s a (sq s a ++ [b])) 0 41 (sg s 0 41 + 1)) = PZ f g ω κ x (stq s a (sq s a ++ [b])) + ω := by
            have q1 : pI g x (st (stq s a (sq s a ++ [b])) 0 41 (sg s 0 41 + 1)) = pI g x (stq s a (sq s a ++ [b])) := pI_same (by rw [st_g, if_neg (by omega)]) rfl
            have q2 : pF f (st (stq s a (sq s a ++ [b])) 0 41 (sg s 0 41 + 1)) 12 0 = pF f (stq s a (sq s a ++ [b])) 12 0 := pF_same (by rw [st_g, if_neg (by omega)]) fun i q i0 _ => by rw [st_g, if_neg (by omega)]
            have q3 : sg (st (stq s a (sq s a ++ [b])) 0 41 (sg s 0 41 + 1)) 0 41 = sg (stq s a (sq s a ++ [b])) 0 41 + 1 := by rw [st_g, if_pos ⟨rfl, rfl⟩]; rfl
            have q4 : sg (st (stq s a (sq s a ++ [b])) 0 41 (sg s 0 41 + 1)) 0 40 = sg (stq s a (sq s a ++ [b])) 0 40 := by rw [st_g, if_neg (by omega)]
            have q5 : Qn (st (stq s a (sq s a ++ [b])) 0 41 (sg s 0 41 + 1)) = Qn (stq s a (sq s a ++ [b])) := rfl
            unfold PZ
            rw [q1, q2, q3, q4, q5, show sg (stq s a (sq s a ++ [b])) 0 41 + 1 - Qn (stq s a (sq s a ++ [b])) = (sg (stq s a (sq s a ++ [b])) 0 41 - Qn (stq s a (sq s a ++ [b]))) + 1 by omega, Int.mul_add, Int.mul_one]
            omega
          rw [e2, e1]
          omega
        · rw [if_neg c4] at h30 ⊢
          rw [if_neg c4]
          by_cases c7 : kd = 7
          · rw [if_pos c7] at h30 ⊢
            rw [if_pos c7]
            have hH2 : QH x B F T (st s 0 8 1) := ⟨hH.1.s0 (by decide) (by decide) (by decide) (by decide) (by decide) (Or.inl (by decide)), hH.2.1.sx (by omega), hH.2.2.1.same (by rw [st_g, if_neg (by omega)]) (by rw [st_g, if_neg (by omega)]) rfl, by rw [u_st (by omega)]; exact hH.2.2.2⟩
            have := pz_tell C D hs h4 13 0 _ (by decide) hH2 h30
            rw [PZ_sx (s := s) (by omega)] at this
            exact this
          · rw [if_neg c7] at h30 ⊢
            rw [if_neg c7]
            unfold sEnded
            by_cases c : wtr s a < 0
            · rw [if_pos c, if_pos c]; omega
            · obtain ⟨w0, w1, w2, w3⟩ := hwb.resolve_left (by omega)
              have hbr := hH.1.br w0 w1
              have hl := hbr.2.2.1 (by omega)
              have hl0 := hbr.2.1.1
              rw [if_neg c, if_neg c]
              split
              · exact gg s _ rfl (fun _ _ _ => rfl) w0 hbr.2.1.1 hbr.2.1.2
              · split
                · exact gg s _ rfl (fun _ _ _ => rfl) w0 (by omega) (by omega)
                · exact gg _ _ (PZ_sx (by omega)) (fun p q hp => by rw [st_g, if_neg (by omega)]) w0 (by omega) (by omega)
/-- TASKs are passed -/
theorem pz_pass : ∀ (n : Nat) (i : Int) (s : TS), sg (sPass x n i s) 0 30 = 0 → ∃ v, sPass x n i s = st s 0 13 v := by
  intro n
  induction n with
  | zero =>
    intro i s _
    refine ⟨sg s 0 13, ?_⟩
    show s = (mset s.1 0 13 (s.1 0 13), s.2)
    rw [mset_f fun b i hh => by rw [hh.1, hh.2]]
  | succ n ih =>
    intro i s h
    unfold sPass at h ⊢
    split at h
    · rename_i c1
      rw [if_pos c1]
      split at h
      · rename_i c2
        rw [if_pos c2]
        split at h
        · rename_i c3
          rw [if_pos c3]
          split at h
          · rename_i c4
            rw [if_pos c4]
            exact ⟨_, rfl⟩
          · rename_i c4
            rw [if_neg c4]
            by_cases c5 : nc x (sg s 0 12) < i
            · rw [if_pos c5] at h
              exact absurd (o_pass ok30 _ _ _ h) u_stuck
            · rw [if_neg c5] at h ⊢
              exact ih _ _ h
        · rename_i c3
          rw [if_neg c3]
          exact ih _ _ h
      · rename_i c2
        rw [if_neg c2]
        exact ⟨_, rfl⟩
    · rename_i c1
      rw [if_neg c1]
      exact ⟨_, rfl⟩
/-- behind an arrival: the state behind the turns, with counts -/
theorem take_st (h30 : sg (sTake x i s) 0 30 = 0) : sg (sTaken x i s) 0 30 = 0 ∧ ∃ v, sTake x i s = st (st (sTaken x i s) 0 10 (sg (sTaken x i s) 0 10 + 1)) 0 13 v := by
  rw [take_d] at h30 ⊢
  obtain ⟨v, hv⟩ := pz_pass _ _ _ h30
  rw [hv, u_st (by omega), u_st (by omega)] at h30
  exact ⟨h30, v, hv⟩
theorem pz_noted (C : PC x f g ω κ F T Z) (D : PD x f g F T δ γ) (hC : CXX x) (hP : BP x s B) (hJ : JJ x F T s) (hg : goes s = true) (i0 : sg s 0 11 ≤ i) (i1 : i < x.1 0) (hi7 : ek (x.2.1 i) ≤ 7) (h30n : sg (sNoted x i s) 0 30 = 0) : PZ f g ω κ x (sNoted x i s) ≤ PZ f g ω κ x s + nK f κ δ γ s (ek (x.2.1 i)) (ex (x.2.1 i)) ∧ QH x (B + 1) F T (sNoted x i s) := by
  obtain ⟨hcx, hx5, h4, hXI, hN0⟩ := id hC
  obtain ⟨hcw, har, hs⟩ := hcx
  obtain ⟨n1, n2, n3, n4, n5, n6, n7, n8⟩ := noted_all hC hP i0 i1 hi7
  refine ⟨?_, n1, n5, hJ.of (fun Ok O hf => o_noted O hC hP i0 i1 hi7 hf) n7, h30n⟩
  have hb := hP.2.2.2.2
  have hb1 := hb.1
  have ha := har i (by omega) i1 hi7
  have es : ∀ p q : Int, (p ≠ 0 ∨ (q ≠ 28 ∧ q ≠ 11 ∧ q ≠ 29)) → sg (st (st (st s 0 28 i) 0 11 (i + 1)) 0 29 0) p q = sg s p q := fun p q hh => by rw [st_g, if_neg (by omega), st_g, if_neg (by omega), st_g, if_neg (by omega)]
  have hW0 : SW x (st (st (st s 0 28 i) 0 11 (i + 1)) 0 29 0) B := ((hP.1.s0 (j := 28) (v := i) (by decide) (by decide) (by decide) (by decide) (by decide) (Or.inl (by decide))).s0 (j := 11) (v := i + 1) (by decide) (by decide) (by decide) (by decide) (by decide) (Or.inl (by decide))).s29 (by decide) (by decide)
  have hH0 : QH x B F T (st (st (st s 0 28 i) 0 11 (i + 1)) 0 29 0) := ⟨hW0, hP.2.2.1.same (fun p q hh => es p q (by omega)) rfl, hJ.same (es _ _ (by omega)) (es _ _ (by omega)) rfl, by rw [es _ _ (by omega)]; exact (goes_s hg).1⟩
  have hp0 : PZ f g ω κ x (st (st (st s 0 28 i) 0 11 (i + 1)) 0 29 0) = PZ f g ω κ x s := by
    rw [PZ_sx (by omega), PZ_sx (by omega), PZ_sx (by omega)]
  have hNk : NoteOk (st (st (st s 0 28 i) 0 11 (i + 1)) 0 29 0) (ek (x.2.1 i)) (ex (x.2.1 i)) (ey (x.2.1 i)) := by
    refine ⟨⟨Int.natCast_nonneg _, ha.1⟩, fun h => ⟨Int.natCast_nonneg _, (ha.2.2.1 h).1, ?_⟩, fun h => ⟨Int.natCast_nonneg _, ha.2.1 h⟩⟩
    have := (ha.2.2.1 h).2
    have := hb.2.2.1 (by omega)
    rw [es _ _ (by omega)]
    omega
  have hz := pz_note C D hH0 hs h4 hx5 hNk h30n
  have hw : wtr (st (st (st s 0 28 i) 0 11 (i + 1)) 0 29 0) (ex (x.2.1 i)) = wtr s (ex (x.2.1 i)) := by
    have key : ∀ (n : Nat) (k : Int), 0 ≤ k → sWtr (st (st (st s 0 28 i) 0 11 (i + 1)) 0 29 0) (ex (x.2.1 i)) n k = sWtr s (ex (x.2.1 i)) n k := by
      intro n
      induction n with
      | zero => intro k _; rfl
      | succ n ih =>
        intro k k0
        unfold sWtr
        rw [es _ _ (by omega), es _ _ (by omega), es _ _ (by omega), ih (k + 1) (by omega)]
    exact key 12 0 (by decide)
  have hk : nK f κ δ γ (st (st (st s 0 28 i) 0 11 (i + 1)) 0 29 0) (ek (x.2.1 i)) (ex (x.2.1 i)) = nK f κ δ γ s (ek (x.2.1 i)) (ex (x.2.1 i)) := by
    unfold nK
    rw [hw]
  rw [hp0, hk] at hz
  exact hz
theorem pz_take (C : PC x f g ω κ F T Z) (hZ : Z) (D : PD x f g F T δ γ) (hC : CXX x) (hP : BP x s B) (hJ : JJ x F T s) (hg : goes s = true) (i0 : sg s 0 11 ≤ i) (i1 : i < x.1 0) (hi7 : ek (x.2.1 i) ≤ 7) (h30 : sg (sTake x i s) 0 30 = 0) : PZ f g ω κ x (sTake x i s) ≤ PZ f g ω κ x s + nK f κ δ γ s (ek (x.2.1 i)) (ex (x.2.1 i)) ∧ PZ f g ω κ x (sTake x i s) ≤ PZ f g ω κ x (sNoted x i s) ∧ QH x (B + 1) F T (sNoted x i s) ∧ QH x (B + 1001) F T (sTaken x i s) := by
  obtain ⟨hcx, hx5, h4, hXI, hN0⟩ := id hC
  obtain ⟨hcw, har, hs⟩ := hcx
  obtain ⟨t1, v, t2⟩ := take_st h30
  obtain ⟨n1, n2, n3, n4, n5, n6, n7, n8⟩ := noted_all hC hP i0 i1 hi7
  have h30n : sg (sNoted x i s) 0 30 = 0 := o_taken ok30 hC hP i0 i1 hi7 (by exact t1)
  obtain ⟨z1, hHn⟩ := pz_noted C D hC hP hJ hg i0 i1 hi7 h30n
  obtain ⟨y1, y2⟩ := pz_on C hZ hcw hs h4 hN0.1 hx5 1000 _ _ hHn n3 (by exact t1)
  have hp : PZ f g ω κ x (sTake x i s) = PZ f g ω κ x (sTaken x i s) := by
    rw [t2, PZ_sx (by omega), PZ_sx (by omega)]
  have e1 : PZ f g ω κ x (sTake x i s) ≤ PZ f g ω κ x (sNoted x i s) := by
    rw [hp]; exact y1
  exact ⟨Int.le_trans e1 z1, e1, hHn, y2.1.mono (by omega), y2.2⟩
end PTF
