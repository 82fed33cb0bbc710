/-! THE TELLING in the reference: branches go on, II. -/
section RF23
variable {m0 m m' : MM} {x : CX} {s s' s1 s2 : TS} {B H : Int} {a b c e i j v k h n l w p r t o rh E ty ver rc : Int} {G : Int → Nat} {Q : TS → Prop}
theorem pot_nn (hW : SW x s B) : 0 ≤ pot s := by
  have := (pw_b (s := s) 12 0).1
  have := hW.2.2.2.2.2.2.1
  unfold pot
  omega
theorem goes_r' (h : RG m0 m x s rh E H) : fm_X12_goes m = some (if goes s = true then 1 else 0) := goes_r h.1
theorem RG.rr (h : RG m0 m x s rh E H) (hg : sg s 0 30 = 0) : RR m0 m x s rh E H := by
  rcases h.1 with ⟨-, g⟩ | g
  · exact g
  · have := g.2.1; omega
theorem awake_go (hg : goes s = true) (k0 : 0 ≤ k) : goes (sAwake x k s) = true := by
  obtain ⟨h1, h2⟩ := goes_s hg
  have e : ∀ q : Int, sg (sAwake x k s) 0 q = sg s 0 q := fun q => by
    unfold sAwake
    split
    · rw [go_g, if_neg (by omega), if_neg (by omega)]
      exact (st_g (s := s) (a := 1) (j := bOf x (sg s (2 + k) 4)) (v := (sq s (sg s (2 + k) 8)).headD 0) (b := 0) (i := q)).trans (if_neg (by omega))
    · rw [go_g, if_neg (by omega), if_neg (by omega)]
  unfold goes
  rw [e, e, h1, h2]
  rfl
theorem turn_aw (h7 : sg s (2 + k) 7 ≠ 0) : sTurn x k s = sAwake x k s := if_pos h7
theorem able0 (h7 : sg s (2 + k) 7 = 0) : sAble s k = true := if_pos h7
/-- a walk that stops at once -/
theorem walk_stop {f : Nat} {its : Int} (hR : RG m0 m x s rh E H) (hg : ¬ goes s = true) : fl_X12_walks_6 its (f + 1) k m = some (0, m) := by
  unfold fl_X12_walks_6
  rw [bp_t (goes_r' hR), if_neg hg, if_pos rfl]
  split <;> rfl
theorem walks_r (hF : FX m0 x rc rh E H Q) : ∀ (φ : Nat) (f : Nat) (k : Int) (s : TS) (m : MM) (B : Int), pot s ≤ φ → φ + 2 ≤ f → 0 ≤ k → k < sg s 0 5 → LOW s k → GS m0 m x G r ty ver rh rc s E H B Q → goes s = true → B + φ + 2 < 268435456 → ∃ m' s' i B', fl_X12_walks_6 (sg s (2 + k) 0) f k m = some (0, m') ∧ GS m0 m' x G r ty ver rh rc s' E H B' Q ∧ Ch x i s s' ∧ B' ≤ B + i ∧ (goes s' = true → pot s' + i ≤ pot s) ∧ (sg s (2 + k) 7 = 0 → 1 ≤ i) ∧ i ≤ φ + 1 := by
  intro φ
  induction φ using Nat.strongRecOn with
  | ind φ ih =>
    intro f k s m B hp hf k0 k1 hL hS hg hB
    have hS0 := hS
    have hF0 := hF
    obtain ⟨s1, s2, s3, s4, s5, s6, s7, s8, s9, s10⟩ := hS
    obtain ⟨f1, f2, f3, f4, f5, f6, f7⟩ := hF
    obtain ⟨f, rfl⟩ : ∃ g, f = g + 1 := ⟨f - 1, by omega⟩
    obtain ⟨h30, hov⟩ := goes_s hg
    have h5 := s3.2.2.2.2.2.2.2.1
    have hx := s2.2.2.2.2.2
    have hs := s2.2.2.2.1
    have hN := s2.1.2.2.2.2.2.2.2.2.1.1
    have hR := s1.rr h30
    have hpn := pot_nn s3
    obtain ⟨b1, b2, b3, b4⟩ := (hR.br k0 k1).2.2.2.2.2.2.2 (s4.2 k k0 k1)
    have hdef : fl_X12_walks_6 (sg s (2 + k) 0) (f + 1) k m = if m 145 k = 0 then (lx (m 144 k) fun x_44 => lx (m 68 88) fun x_57 => gd (0 ≤ x_57 ∧ x_57 < 30) <| lx (m 80 x_57) fun x_63 => lx (m 68 89) fun x_70 => gd (0 ≤ w32 ((w32 (5 * x_63)) + x_70) ∧ w32 ((w32 (5 * x_63)) + x_70) < 20) <| lx (m 70 (w32 ((w32 (5 * x_63)) + x_70))) fun x_78 => if x_44 < x_78 then lx (m 68 113) fun x_84 => if x_84 = 60 then bd (fm_X12_spins m) fun x_165 m_166 => fj_X12_walks_96 (fl_X12_walks_6 (sg s (2 + k) 0) f) (sg s (2 + k) 0) m_166 else up m 68 113 (w32 (x_84 + 1)) fun m_96 => bd (fm_X12_does k m_96) fun x_104 m_105 => fj_X12_walks_96 (fl_X12_walks_6 (sg s (2 + k) 0) f) (sg s (2 + k) 0) m_105 else bd (fm_X12_endsBranch k m) fun x_177 m_178 => fj_X12_walks_96 (fl_X12_walks_6 (sg s (2 + k) 0) f) (sg s (2 + k) 0) m_178) else some (0, m) := by
      conv => lhs; unfold fl_X12_walks_6
      rw [if_neg (by omega), bp_t (goes_r' s1), if_pos hg, if_neg (by decide), gd_t ⟨k0, by omega⟩, lx_p]
    rw [hdef, b1]
    by_cases c7 : sg s (2 + k) 7 = 0
    · have hfst : first s = k := first_low hL k0 k1 h5.2 (able0 c7)
      have hch : Ch x 1 s (sTurn x k s) := by
        have := Ch.one (x := x) hg (by omega : 0 ≤ first s)
        rw [hfst] at this
        exact this
      rw [if_pos (wmp0.mpr c7)]
      obtain ⟨m1, w1, w2⟩ := walk1_r (K := fun _ M => fj_X12_walks_96 (fl_X12_walks_6 (sg s (2 + k) 0) f) (sg s (2 + k) 0) M) hR s2 f1 f2 f3 s4 s3 (by omega) hg s1.2 s7 k0 k1 c7 (fun g1 g2 => by
        have hq := f7.1 s s10 hg (by omega)
        rw [hfst] at hq
        have e10 : sg (sTurn x k s) 0 10 = sg s 0 10 := kp_turn h5.1 k0 (by unfold KQ; omega)
        exact f7.2.1 _ hq (by omega) (by omega)) (fun g1 g2 g3 => by
        have := f7.2.2 s s10 hg (by omega)
        rw [hfst] at this
        exact this c7 g1 g2 g3) f5 (by
        have := s9 1
        have e := hch 0
        rw [Nat.add_zero] at e
        rw [e] at this
        exact this) f6
      rw [w1]
      have hS1 : GS m0 m1 x G r ty ver rh rc (sTurn x k s) E H (B + 1) Q := GS.step hF0 hS0 hg k0 k1 hfst (able0 c7) w2
      have hlt := turn_lt hx hs hN f3 s4 s3 k0 k1 c7 h30
      have hpt := pot_turn hx hs hN f3 s3 k0 k1
      generalize sTurn x k s = sa at *
      unfold fj_X12_walks_96
      by_cases hga : goes sa = true
      · have hpa := hpt hga
        have hla := hlt hga
        have hRa := w2.rr (goes_s hga).1
        have hWa := hS1.2.2.1
        have hPa := hS1.2.2.2.1
        have ha5 := hWa.2.2.2.2.2.2.2.1
        have hpa0 := pot_nn hWa
        rw [bp_t (slot_r hRa hPa.1.1)]
        by_cases cf : 0 ≤ find sa (sg s (2 + k) 0)
        · obtain ⟨g1, g2⟩ := hla cf
          obtain ⟨z1, z2, z3⟩ := (find_b (s := sa) (v := sg s (2 + k) 0)).resolve_left (by omega)
          rw [g1] at z2 z3
          have hLa := g2.low hL
          obtain ⟨d1, d2, d3, d4⟩ := (hRa.br k0 z2).2.2.2.2.2.2.2 (hPa.2 k k0 z2)
          rw [g1, if_neg (by omega), bp_t (goes_r' w2), if_pos hga, if_neg (by decide), gd_t ⟨k0, by omega⟩, lx_p, d1]
          have next : ∀ (M : MM) (S : TS) (i : Nat) (B2 : Int), GS m0 M x G r ty ver rh rc S E H B2 Q → Ch x i s S → goes S = true → pot S + i ≤ pot s → 1 ≤ i → k < sg S 0 5 → LOW S k → sg S (2 + k) 0 = sg s (2 + k) 0 → B2 ≤ B + i → ∃ m' s' i B', fl_X12_walks_6 (sg s (2 + k) 0) f k M = some (0, m') ∧ GS m0 m' x G r ty ver rh rc s' E H B' Q ∧ Ch x i s s' ∧ B' ≤ B + i ∧ (goes s' = true → pot s' + i ≤ pot s) ∧ (sg s (2 + k) 7 = 0 → 1 ≤ i) ∧ i ≤ φ + 1 := by
            intro M S i B2 q1 q2 q3 q4 q5 q6 q7 q8 q9
            have q0 := pot_nn q1.2.2.1
            obtain ⟨m', s', i', B', y1, y2, y3, y4, y5, y6, y7⟩ := ih (φ - i) (by omega) f k S M B2 (by omega) (by omega) k0 q6 q7 q1 q3 (by omega)
            rw [q8] at y1
            exact ⟨m', s', i + i', B', y1, y2, q2.tr y3, by omega, fun g => by have := y5 g; omega, fun _ => by omega, by omega⟩
          by_cases d7 : sg sa (2 + k) 7 = 0
          · rw [if_pos (wmp0.mpr d7)]
            exact next m1 sa 1 (B + 1) hS1 hch hga (by omega) (by omega) z2 hLa z3 (by omega)
          · rw [if_neg (fun g => d7 (wmp0.mp g))]
            have ha6 : sg sa 0 6 ≤ 196608 := by
              have := hRa.2.2.2.2.2.2.2.2.2.2.2
              have := hWa.2.2.2.2.2.2.1
              omega
            obtain ⟨m2, y1, y2⟩ := cang_r hRa hWa hx hPa.2 hS1.2.2.2.2.1 k0 z2 ha6 hS1.2.2.2.2.2.2.2.1
            rw [bd_t y1]
            by_cases ca : sAble sa k = true
            · have hfa : first sa = k := first_low hLa k0 z2 ha5.2 ca
              rw [if_pos ⟨ca, d7⟩] at y2
              have hch2 : Ch x 1 sa (sTurn x k sa) := by
                have := Ch.one (x := x) hga (by omega : 0 ≤ first sa)
                rw [hfa] at this
                exact this
              have e29 : sg (sAwake x k sa) 0 29 = sg sa 0 29 := kr_awake (by unfold KR; omega)
              have hga2 : goes (sAwake x k sa) = true := awake_go hga k0
              have hS2 : GS m0 m2 x G r ty ver rh rc (sTurn x k sa) E H (B + 1 + 1) Q := by
                refine GS.step hF0 hS1 hga k0 z2 hfa ca ?_
                rw [turn_aw d7, e29]
                refine ⟨Or.inl ⟨(goes_s hga2).1, y2⟩, ?_⟩
                refine w2.2.to (kp_awake (by unfold KQ; omega)) ?_
                unfold sAwake
                split
                · rw [go_g, if_neg (by omega), if_neg (by omega)]
                  exact (st_g (s := sa) (a := 1) (j := bOf x (sg sa (2 + k) 4)) (v := (sq sa (sg sa (2 + k) 8)).headD 0) (b := 0) (i := 12)).trans (if_neg (by omega))
                · rw [go_g, if_neg (by omega), if_neg (by omega)]
              have hp2 := pot_turn hx hs hN f3 hWa k0 z2
              rw [turn_aw d7] at hS2 hch2 hp2
              have hp2 := hp2 hga2
              have sl : ∀ q : Int, (q = 0 ∨ q = 5) → sg (sAwake x k sa) (if q = 5 then 0 else 2 + k) q = sg sa (if q = 5 then 0 else 2 + k) q := fun q hq => by
                have e1 : ∀ A : Int, A ≠ 1 → (A ≠ 2 + k ∨ (q ≠ 4 ∧ q ≠ 7)) → sg (sAwake x k sa) A q = sg sa A q := fun A hA hA2 => by
                  unfold sAwake
                  split
                  · rw [go_g, if_neg (by omega), if_neg (by omega)]
                    exact (st_g (s := sa) (a := 1) (j := bOf x (sg sa (2 + k) 4)) (v := (sq sa (sg sa (2 + k) 8)).headD 0) (b := A) (i := q)).trans (if_neg (by omega))
                  · rw [go_g, if_neg (by omega), if_neg (by omega)]
                split
                · exact e1 0 (by decide) (Or.inl (by omega))
                · exact e1 _ (by omega) (Or.inr (by omega))
              have e5 : sg (sAwake x k sa) 0 5 = sg sa 0 5 := sl 5 (Or.inr rfl)
              have e0 : sg (sAwake x k sa) (2 + k) 0 = sg sa (2 + k) 0 := sl 0 (Or.inl rfl)
              exact next m2 (sAwake x k sa) (1 + 1) (B + 1 + 1) hS2 (hch.tr hch2) hga2 (by omega) (by omega) (by omega) (hLa.awake hPa.1.1 k0 z2 ca d7) (by omega) (by omega)
            · rw [if_neg (fun g => ca g.1)] at y2
              refine next m2 sa 1 (B + 1) ⟨⟨Or.inl ⟨(goes_s hga).1, y2⟩, w2.2⟩, hS1.2⟩ hch hga (by omega) (by omega) z2 hLa z3 (by omega)
        · have hfm : find sa (sg s (2 + k) 0) = -1 := by
            rcases find_b (s := sa) (v := sg s (2 + k) 0) with g | ⟨g, -⟩
            · exact g
            · omega
          rw [hfm, if_pos rfl]
          refine ⟨m1, sa, 1, B + 1, ?_, hS1, hch, by omega, fun _ => by omega, fun _ => by omega, by omega⟩
          obtain ⟨f, rfl⟩ : ∃ g, f = g + 1 := ⟨f - 1, by omega⟩
          unfold fl_X12_walks_6
          rw [if_pos rfl]
      · have h91 := w2.1.n91
        obtain ⟨z, z1, z2⟩ := slot_any (v := sg s (2 + k) 0) h91.1 h91.2
        obtain ⟨f, rfl⟩ : ∃ g, f = g + 1 := ⟨f - 1, by omega⟩
        rw [bp_t z1, bp_t (goes_r' w2), if_neg hga, if_pos rfl, walk_stop w2 hga]
        refine ⟨m1, sa, 1, B + 1, ?_, hS1, hch, by omega, fun g => absurd g hga, fun _ => by omega, by omega⟩
        split <;> rfl
    · rw [if_neg (fun g => c7 (wmp0.mp g))]
      exact ⟨m, s, 0, B, rfl, hS0, Ch.zero, by omega, fun _ => by omega, fun g => absurd g c7, by omega⟩
theorem goOn_stop {f : Nat} (hR : RG m0 m x s rh E H) (hg : ¬ goes s = true) : fl_X12_goOn_7 (f + 1) k m = some (0, m) := by
  unfold fl_X12_goOn_7
  rw [lx_p, bp_t (goes_r' hR), if_neg hg, if_pos rfl]
  split <;> rfl
theorem goOnL_r (hF : FX m0 x rc rh E H Q) : ∀ (φ : Nat) (j : Nat) (f : Nat) (k : Int) (s : TS) (m : MM) (B : Int), pot s ≤ φ → k + j = 13 → 14 * φ + j + 2 ≤ f → 0 ≤ k → LOW s k → GS m0 m x G r ty ver rh rc s E H B Q → B + φ + 4 < 268435456 → φ < 100000 → ∃ m' s' i B', fl_X12_goOn_7 f k m = some (0, m') ∧ GS m0 m' x G r ty ver rh rc s' E H B' Q ∧ Ch x i s s' ∧ (first s' < 0 ∨ ¬ goes s' = true) ∧ B' ≤ B + i ∧ i ≤ φ + 2 := by
  intro φ
  induction φ using Nat.strongRecOn with
  | ind φ ih =>
    intro j
    induction j with
    | zero =>
      intro f k s m B hp hj hf k0 hL hS hB hφ
      obtain ⟨f, rfl⟩ : ∃ g, f = g + 1 := ⟨f - 1, by omega⟩
      have h91 := hS.1.1.n91
      have h5 := hS.2.2.1.2.2.2.2.2.2.2.1
      refine ⟨m, s, 0, B, ?_, hS, Ch.zero, Or.inl ?_, by omega, by omega⟩
      · unfold fl_X12_goOn_7
        rw [lx_p, if_neg (by omega)]
      · rw [first_none hL (by omega)]
        decide
    | succ j ihj =>
      intro f k s m B hp hj hf k0 hL hS hB hφ
      obtain ⟨f, rfl⟩ : ∃ g, f = g + 1 := ⟨f - 1, by omega⟩
      by_cases hg : goes s = true
      · have hS0 := hS
        obtain ⟨s1, s2, s3, s4, s5, s6, s7, s8, s9, s10⟩ := hS
        have hF0 := hF
        obtain ⟨f1, f2, f3, f4, f5, f6, f7⟩ := hF
        obtain ⟨h30, hov⟩ := goes_s hg
        have h5 := s3.2.2.2.2.2.2.2.1
        have hx := s2.2.2.2.2.2
        have hs := s2.2.2.2.1
        have hN := s2.1.2.2.2.2.2.2.2.2.1.1
        have hR := s1.rr h30
        have h29 := s3.2.2.2.2.2.2.1
        unfold fl_X12_goOn_7
        rw [lx_p, hR.n91.2.2]
        by_cases c1 : k < sg s 0 5
        · have ha6 : sg s 0 6 ≤ 196608 := by
            have := hR.2.2.2.2.2.2.2.2.2.2.2
            omega
          obtain ⟨m1, y1, y2⟩ := cang_r hR s3 hx s4.2 s5 k0 c1 ha6 s8
          rw [if_pos c1, bp_t (goes_r' s1), if_pos hg, if_neg (by decide), bd_t y1]
          by_cases ca : sAble s k = true
          · rw [if_pos ca, if_neg (by decide)]
            have hfs : first s = k := first_low hL k0 c1 h5.2 ca
            -- from the branch that walks on
            have next : ∀ (M : MM) (S : TS) (i : Nat) (B2 : Int), GS m0 M x G r ty ver rh rc S E H B2 Q → Ch x i s S → goes S = true → pot S + i ≤ pot s → k < sg S 0 5 → LOW S k → sg S (2 + k) 7 = 0 → B2 ≤ B + i → ∃ m' s' i B', (gd (0 ≤ k ∧ k < 12) <| lx (M 143 k) fun x_52 => bd (fm_X12_walks x_52 M) fun x_55 m_56 => fl_X12_goOn_7 f 0 m_56) = some (0, m') ∧ GS m0 m' x G r ty ver rh rc s' E H B' Q ∧ Ch x i s s' ∧ (first s' < 0 ∨ ¬ goes s' = true) ∧ B' ≤ B + i ∧ i ≤ φ + 2 := by
              intro M S i B2 q1 q2 q3 q4 q5 q6 q7 q8
              have q0 := pot_nn q1.2.2.1
              have qR := q1.1.rr (goes_s q3).1
              have qI := q1.2.2.2.1.1.1
              have q55 := q1.2.2.1.2.2.2.2.2.2.2.1
              obtain ⟨m', s', i', B', z1, z2, z3, z4, z5, z6, z7⟩ := walks_r hF0 (φ - i) BIG k S M B2 (by omega) (Nat.le_of_lt (BIG_g (by omega))) k0 q5 q6 q1 q3 (by omega)
              have z6 := z6 q7
              have hw : fm_X12_walks (sg S (2 + k) 0) M = some (0, m') := by
                unfold fm_X12_walks
                rw [bp_t (slot_r qR qI), find_at qI k0 q5 q55.2]
                exact z1
              rw [gd_t ⟨k0, by omega⟩, lx_p, (qR.br k0 q5).1, bd_t hw]
              by_cases hg' : goes s' = true
              · have z5 := z5 hg'
                have z0 := pot_nn z2.2.2.1
                obtain ⟨m2, t2, i2, B3, v1, v2, v3, v4, v5, v6⟩ := ih (φ - (i + i')) (by omega) 13 f 0 s' m' B' (by omega) rfl (by omega) (by decide) (fun j j0 j1 => by omega) z2 (by omega) (by omega)
                exact ⟨m2, t2, i + i' + i2, B3, v1, v2, (q2.tr z3).tr v3, v4, by omega, by omega⟩
              · obtain ⟨f, rfl⟩ : ∃ g, f = g + 1 := ⟨f - 1, by omega⟩
                refine ⟨m', s', i + i', B', goOn_stop z2.1 hg', z2, q2.tr z3, Or.inr hg', by omega, ?_⟩
                omega
            by_cases c7 : sg s (2 + k) 7 = 0
            · rw [if_neg (fun g => g.2 c7)] at y2
              exact next m1 s 0 B ⟨⟨Or.inl ⟨h30, y2⟩, s1.2⟩, hS0.2⟩ Ch.zero hg (by omega) c1 hL c7 (by omega)
            · rw [if_pos ⟨ca, c7⟩] at y2
              have hch2 : Ch x 1 s (sTurn x k s) := by
                have := Ch.one (x := x) hg (by omega : 0 ≤ first s)
                rw [hfs] at this
                exact this
              have e29 : sg (sAwake x k s) 0 29 = sg s 0 29 := kr_awake (by unfold KR; omega)
              have hga2 : goes (sAwake x k s) = true := awake_go hg k0
              have e1 : ∀ A q : Int, A ≠ 1 → (A ≠ 2 + k ∨ (q ≠ 4 ∧ q ≠ 7)) → sg (sAwake x k s) A q = sg s A q := fun A q hA hA2 => by
                unfold sAwake
                split
                · rw [go_g, if_neg (by omega), if_neg (by omega)]
                  exact (st_g (s := s) (a := 1) (j := bOf x (sg s (2 + k) 4)) (v := (sq s (sg s (2 + k) 8)).headD 0) (b := A) (i := q)).trans (if_neg (by omega))
                · rw [go_g, if_neg (by omega), if_neg (by omega)]
              have hS2 : GS m0 m1 x G r ty ver rh rc (sTurn x k s) E H (B + 1) Q := by
                refine GS.step hF0 hS0 hg k0 c1 hfs ca ?_
                rw [turn_aw c7, e29]
                exact ⟨Or.inl ⟨(goes_s hga2).1, y2⟩, s1.2.to (e1 0 10 (by decide) (Or.inl (by omega))) (e1 0 12 (by decide) (Or.inl (by omega)))⟩
              have hp2 := pot_turn hx hs hN f3 s3 k0 c1
              rw [turn_aw c7] at hS2 hch2 hp2
              have hp2 := hp2 hga2
              have e7 : sg (sAwake x k s) (2 + k) 7 = 0 := by
                unfold sAwake
                split
                · rw [go_g, if_neg (by omega), if_pos ⟨rfl, rfl⟩]
                · rw [go_g, if_neg (by omega), if_pos ⟨rfl, rfl⟩]
              exact next m1 (sAwake x k s) 1 (B + 1) hS2 hch2 hga2 (by omega) (by rw [e1 0 5 (by decide) (Or.inl (by omega))]; exact c1) (hL.awake s4.1.1 k0 c1 ca c7) e7 (by omega)
          · rw [if_neg ca, if_pos rfl, lx_p, w32_id (by omega) (by omega)]
            rw [if_neg (fun g => ca g.1)] at y2
            have hL2 : LOW s (k + 1) := fun i i0 i1 => by
              by_cases hi : i = k
              · rw [hi]
                cases hh : sAble s k with
                | true => exact absurd hh ca
                | false => rfl
              · exact hL i i0 (by omega)
            exact ihj f (k + 1) s m1 B hp (by omega) (by omega) (by omega) hL2 ⟨⟨Or.inl ⟨h30, y2⟩, s1.2⟩, hS0.2⟩ hB hφ
        · rw [if_neg c1]
          refine ⟨m, s, 0, B, rfl, hS0, Ch.zero, Or.inl ?_, by omega, by omega⟩
          rw [first_none hL (by omega)]
          decide
      · exact ⟨m, s, 0, B, goOn_stop hS.1 hg, hS, Ch.zero, Or.inr hg, by omega, by omega⟩
theorem on_stop (h : first s < 0 ∨ ¬ goes s = true) : ∀ n : Nat, sOn x n s = s := by
  intro n
  cases n with
  | zero => rfl
  | succ n =>
    show (if first s < 0 then s else if goes s then sOn x n (sTurn x (first s) s) else s) = s
    rcases h with g | g
    · rw [if_pos g]
    · rw [if_neg g]
      split <;> rfl
/-- all that can go on, goes on -/
theorem goOn_r (hF : FX m0 x rc rh E H Q) (hS : GS m0 m x G r ty ver rh rc s E H B Q) (h0 : sg s 0 29 = 0) (hB : B + 1000 < 268435456) : ∃ m' B', fm_X12_goOn m = some (0, m') ∧ GS m0 m' x G r ty ver rh rc (sOn x 1000 s) E H B' Q ∧ B' ≤ B + 1000 := by
  have hp := pot_nn hS.2.2.1
  have hpb : pot s ≤ 204 := by
    have := (pw_b (s := s) 12 0).2
    have := hS.2.2.1.2.2.2.2.2.2.1
    unfold pot
    omega
  have hup : mset m 68 113 0 = m ∨ ¬ goes s = true := by
    by_cases hg : goes s = true
    · left
      have hR := hS.1.rr (goes_s hg).1
      have e : m 68 113 = 0 := by rw [hR.2.1.2.2.2.2.2.1]; exact h0
      have := mset_same (m := m) (a := 68) (j := 113)
      rw [e] at this
      exact this
    · exact Or.inr hg
  unfold fm_X12_goOn
  rw [up_t]
  rcases hup with e | hg
  · rw [e]
    obtain ⟨m', s', i, B', z1, z2, z3, z4, z5, z6⟩ := goOnL_r hF 204 13 BIG 0 s m B hpb rfl (Nat.le_of_lt (BIG_g (by omega))) (by decide) (fun j j0 j1 => by omega) hS (by omega) (by omega)
    have e2 : sOn x 1000 s = s' := by
      have := z3 (1000 - i)
      rw [show i + (1000 - i) = 1000 by omega] at this
      rw [this]
      exact on_stop z4 _
    rw [e2]
    exact ⟨m', B', z1, z2, by omega⟩
  · have e2 : sOn x 1000 s = s := on_stop (Or.inr hg) _
    rw [e2]
    have hRG : RG m0 (mset m 68 113 0) x s rh E (H + sg s 0 29) := by
      refine ⟨?_, hS.1.2⟩
      rcases hS.1.1 with ⟨g1, g2⟩ | ⟨g1, g2, g3, g4, g5, g6⟩
      · have e : m 68 113 = 0 := by rw [g2.2.1.2.2.2.2.2.1]; exact h0
        have := mset_same (m := m) (a := 68) (j := 113)
        rw [e] at this
        rw [this]
        exact Or.inl ⟨g1, g2⟩
      · exact Or.inr ⟨g1.ms (mtb68 (by omega)), g2, by rw [ms_j (by decide)]; exact g3, by rw [ms_j (by decide)]; exact g4, by rw [ms_j (by decide)]; exact g5, by rw [ms_j (by decide)]; exact g6⟩
    have hB0 : 0 < BIG := BIG_g (by omega)
    obtain ⟨f, hf⟩ : ∃ g, BIG = g + 1 := ⟨BIG - 1, by omega⟩
    refine ⟨mset m 68 113 0, B, ?_, ⟨hRG, hS.2⟩, by omega⟩
    rw [hf]
    exact goOn_stop hRG hg
end RF23
