/-! THE TELLING: branches go on; arrivals are taken. -/
section ONN
variable {m0 m m' M : MM} {x : CX} {s : TS} {B : Int} {a b c e i j v k h n l w p g t q : Int}
/-- what the arrivals of a history are like -/
def ArrW (x : CX) : Prop := ∀ i : Int, 0 ≤ i → i < x.1 0 → ek (x.2.1 i) ≤ 7 → ey (x.2.1 i) ≤ 999 ∧ (ek (x.2.1 i) = 4 → ex (x.2.1 i) < 4) ∧ (ek (x.2.1 i) = 0 → ex (x.2.1 i) ≤ 999 ∧ i = 0) ∧ ew (x.2.1 i) % 1024 ≤ 999
def TkW (x : CX) (s : TS) : Prop := 0 ≤ sg s 0 28 ∧ sg s 0 28 < x.1 0 ∧ ew (x.2.1 (sg s 0 28)) % 1024 ≤ 999
theorem obj_n (hC : CR m0 m s B) (h0 : 0 ≤ k) (h1 : k < sg s 0 5) : obj m k ≠ 0 := by
  obtain ⟨o1, o2⟩ := obj_pos hC h0 h1
  rw [o1]
  exact o2
theorem SW.s29 (hW : SW x s B) (h0 : 0 ≤ v) (h1 : v ≤ 60) : SW x (st s 0 29 v) B := by
  have e2 : ∀ a i, a ≠ 0 → sg (st s 0 29 v) a i = sg s a i := fun a i ha => if_neg fun hh => ha hh.1
  exact hW.to rfl rfl (Or.inl rfl) (Or.inl rfl) (Nat.le_refl _) (Or.inl rfl) (Or.inr ⟨h0, h1⟩) (fun a _ _ => Or.inl (e2 _ _ (by decide))) hW.2.2.2.1 hW.2.2.2.2.1 fun k g1 g2 => Or.inl ⟨fun i => e2 _ _ (by omega), rfl⟩
/-- the line at which a branch is, whichever it is -/
theorem line_e (H : LnH m0 m x s B k) (hT : TkW x s) {C A D : Int} (hL : LineOk C A D) (hN : x.1 0 + nl (sLine x k C A D s) ≤ 524288) : LnR m0 x B (if 7 < C then (if 13 < C then (if 18 < C then fm_X4_doOtherLine (m 19 k) C A D m else fm_X4_doEndingLine (m 19 k) C A D m) else fm_X4_doBranchLine (m 19 k) C A m) else fm_X4_doPlainLine (m 19 k) C A D m) (sLine x k C A D s) := by
  have h0 := hL.1
  have h1 := hL.2.1
  by_cases c7 : 7 < C
  · rw [if_pos c7]
    by_cases c13 : 13 < C
    · rw [if_pos c13]
      by_cases c18 : 18 < C
      · rw [if_pos c18]
        have hc : C = 19 ∨ C = 20 ∨ C = 21 ∨ C = 22 ∨ C = 23 := by omega
        rcases hc with rfl | rfl | rfl | rfl | rfl
        · exact ln_19 H hL
        · exact ln_20 H hL hT
        · exact ln_21 H hL
        · exact ln_22 H hL
        · exact ln_23 H hL
      · rw [if_neg c18]
        have hc : C = 14 ∨ C = 15 ∨ C = 16 ∨ C = 17 ∨ C = 18 := by omega
        rcases hc with rfl | rfl | rfl | rfl | rfl
        · exact ln_14 H hL
        · exact ln_15 H hL
        · exact ln_16 H hL
        · exact ln_17 H hL
        · exact ln_18 H hL
    · rw [if_neg c13]
      have hc : C = 8 ∨ C = 9 ∨ C = 10 ∨ C = 11 ∨ C = 12 ∨ C = 13 := by omega
      rcases hc with rfl | rfl | rfl | rfl | rfl | rfl
      · exact ln_8 H hL
      · exact ln_9 H hL
      · exact ln_10 H hL
      · exact ln_11 H hL hN
      · exact ln_12 H hL
      · exact ln_13 H hL
  · rw [if_neg c7]
    have hc : C = 0 ∨ C = 1 ∨ C = 2 ∨ C = 3 ∨ C = 4 ∨ C = 5 ∨ C = 6 ∨ C = 7 := by omega
    rcases hc with rfl | rfl | rfl | rfl | rfl | rfl | rfl | rfl
    · exact ln_0 H hL
    · exact ln_1 H hL
    · exact ln_2 H hL
    · exact ln_3 H hL
    · exact ln_4 H hL
    · exact ln_5 H hL
    · exact ln_6 H hL
    · exact ln_7 H hL
/-- what a turn is in the class -/
noncomputable def turnF (m : MM) (b : Int) : Option (Int × MM) := gd (okc m b 2) <|
  if m b 7 = 0 then gd (okc m (m 16 3) 6) <| (if m b 4 < m (m 16 3) 2 then (if m 16 9 < 60 then up m 16 9 (w32 (m 16 9 + 1)) fun m_77 => gd (okc m_77 (m_77 16 3) 6) <| bp (fm_X5_at (m_77 16 3) (m_77 b 4) m_77) fun x_97 =>
    (if 7 < w32 (Int.tdiv x_97 1000000) then (if 13 < w32 (Int.tdiv x_97 1000000) then (if 18 < w32 (Int.tdiv x_97 1000000) then fm_X4_doOtherLine b (w32 (Int.tdiv x_97 1000000)) (Int.tmod (w32 (Int.tdiv x_97 1000)) 1000) (Int.tmod x_97 1000) m_77 else fm_X4_doEndingLine b (w32 (Int.tdiv x_97 1000000)) (Int.tmod (w32 (Int.tdiv x_97 1000)) 1000) (Int.tmod x_97 1000) m_77) else fm_X4_doBranchLine b (w32 (Int.tdiv x_97 1000000)) (Int.tmod (w32 (Int.tdiv x_97 1000)) 1000) m_77) else fm_X4_doPlainLine b (w32 (Int.tdiv x_97 1000000)) (Int.tmod (w32 (Int.tdiv x_97 1000)) 1000) (Int.tmod x_97 1000) m_77)
    else fm_X4_getStuck (-1) m) else fm_X4_endBranch b m) else fm_X4_awake b m
theorem turn_e (hC : CR m0 m s B) (X : XC m0 x) (hcw : CodeW x) (hW : SW x s B) (hB : B + 30 < 268435456) (hs : x.1 3 ≤ x.1 0) (hT : TkW x s) (hg : sg s 0 30 = 0) (hk : 0 ≤ k) (hk2 : k < sg s 0 5) (ha : sAble s k = true) (hN : x.1 0 + nl (sTurn x k s) ≤ 524288) : LnR m0 x B (turnF m (m 19 k)) (sTurn x k s) := by
  have ho := hC.ob hk (by have := hC.th.2.2; omega)
  obtain ⟨k1, k2, k3, k4, k5, k6, k7⟩ := hW.br hk hk2
  obtain ⟨c1, c2, c3, c4, c5⟩ := X.code hC.2.1
  unfold turnF
  unfold sTurn at hN ⊢
  rw [gd_t ho.2.2, hC.br hk hk2 (by decide) (by decide)]
  by_cases c7 : sg s (2 + k) 7 = 0
  · rw [if_neg (show ¬ sg s (2 + k) 7 ≠ 0 from fun hh => hh c7)] at hN
    rw [if_pos c7, if_neg (show ¬ sg s (2 + k) 7 ≠ 0 from fun hh => hh c7), c1, gd_t c2, c3, hC.br hk hk2 (by decide) (by decide)]
    by_cases cl : sg s (2 + k) 4 < x.1 5
    · rw [if_neg (show ¬ x.1 5 ≤ sg s (2 + k) 4 by omega)] at hN
      rw [if_pos cl, if_neg (show ¬ x.1 5 ≤ sg s (2 + k) 4 by omega)]
      have e9 : m 16 9 = sg s 0 29 := hC.c16 (j := 9) (by decide) (by decide)
      have h29 := hW.2.2.2.2.2.2.1
      rw [e9]
      by_cases c60 : sg s 0 29 < 60
      · rw [if_neg (show ¬ 60 ≤ sg s 0 29 by omega)] at hN
        rw [if_pos c60, if_neg (show ¬ 60 ≤ sg s 0 29 by omega), w32_id (by omega) (by omega), up_t]
        have w1 : CR m0 (mset m 16 9 (sg s 0 29 + 1)) (st (st s 0 29 (sg s 0 29 + 1)) 0 40 (sg s 0 40 + 1)) B := (show CR m0 (mset m 16 9 (sg s 0 29 + 1)) (st s 0 29 (sg s 0 29 + 1)) B from hC.p16 (j := 9) (by decide) (by decide)).s4 (by decide) (fun _ => by
          have e : (st s 0 29 (sg s 0 29 + 1)).1 0 40 = sg s 0 40 := rfl
          rw [e]
          omega)
        have v1 := (hW.s29 (v := sg s 0 29 + 1) (by omega) (by omega)).s0 (j := 40) (v := sg s 0 40 + 1) (by decide) (by decide) (by decide) (by decide) (by decide) (Or.inl (by decide))
        obtain ⟨d1, d2, d3, d4, d5⟩ := X.code w1.2.1
        have hl := hcw _ k2.1 cl
        obtain ⟨z1, z2, z3, z4, z5, z6, -⟩ := hl
        have H : LnH m0 (mset m 16 9 (sg s 0 29 + 1)) x (st (st s 0 29 (sg s 0 29 + 1)) 0 40 (sg s 0 40 + 1)) B k := ⟨w1, X, v1, ⟨hB, by
          have h40 := hC.c40
          rw [ms_a (by decide), st_g, if_pos ⟨rfl, rfl⟩]
          omega⟩, hs, hk, by rw [st_g, if_neg (by omega), st_g, if_neg (by omega)]; exact hk2, by rw [st_g, if_neg (by omega), st_g, if_neg (by omega)]; exact cl, by rw [st_g, if_neg (by omega), st_g, if_neg (by omega)]; exact hg⟩
        have e4 : mset m 16 9 (sg s 0 29 + 1) (m 19 k) 4 = sg s (2 + k) 4 := by rw [ms_a (by omega)]; exact hC.br hk hk2 (by decide) (by decide)
        have e19 : mset m 16 9 (sg s 0 29 + 1) 19 k = m 19 k := ms_a (by decide)
        have hT1 : TkW x (st (st s 0 29 (sg s 0 29 + 1)) 0 40 (sg s 0 40 + 1)) := hT
        have hln := line_e H hT1 (hcw _ k2.1 cl) hN
        rw [e19] at hln
        generalize hl3 : x.2.2 (sg s (2 + k) 4) = ln at z1 z2 z3 z4 z5 z6 hln
        obtain ⟨C, A, D⟩ := ln
        simp only at z1 z2 z3 z4 z5 z6 hln ⊢
        have hat := (d5 (sg s (2 + k) 4) k2.1 cl).1
        rw [hl3] at hat
        simp only at hat
        have t1 : w32 (Int.tdiv (1000000 * C + 1000 * A + D) 1000000) = C := by
          rw [tdiv_e (by omega), show (1000000 * C + 1000 * A + D) / 1000000 = C by omega, w32_id (by omega) (by omega)]
        have t2 : Int.tmod (w32 (Int.tdiv (1000000 * C + 1000 * A + D) 1000)) 1000 = A := by
          rw [tdiv_e (by omega), w32_id (by omega) (by omega), tmod_e (by omega)]
          omega
        have t3 : Int.tmod (1000000 * C + 1000 * A + D) 1000 = D := by
          rw [tmod_e (by omega)]
          omega
        rw [d1, gd_t d2, e4, bp_t hat, t1, t2, t3]
        exact hln
      · rw [if_neg c60, if_pos (show 60 ≤ sg s 0 29 by omega)]
        obtain ⟨m', f1, f2⟩ := stuck_e (v := -1) hC
        exact LnR.of (B' := B) (by omega) f1 f2 hW.stk
    · rw [if_neg cl, if_pos (show x.1 5 ≤ sg s (2 + k) 4 by omega)]
      obtain ⟨m', f1, f2, f3⟩ := end_e hC X hW (by omega) hs hk hk2
      exact LnR.of (B' := B + 1) (by omega) f1 f2 f3
  · rw [if_neg c7, if_pos c7]
    obtain ⟨m', f1, f2, f3⟩ := awake_e hC X hW hk hk2 c7 ha
    exact LnR.of (B' := B) (by omega) f1 f2 f3
theorem turn_l {y : Int} {F : Nat} (hb : b ≠ 0) (hy : y < 1000) (hgo : fm_X4_goes m = some 1) {m1 : MM} (ht : turnF m b = some (0, m1)) : fl_X4_goOn_10 (F + 1) b y m = fj_X4_goOn_219 (fl_X4_goOn_10 F) y m1 := by
  unfold turnF at ht
  obtain ⟨h1, ht⟩ := gd_s ht
  rw [show fl_X4_goOn_10 (F + 1) b y m = _ from fl_X4_goOn_10.eq_2 b y m F]
  simp only [lx_p]
  rw [if_pos hy, if_neg hb, bp_t hgo, if_neg (by decide), gd_t h1]
  by_cases c7 : m b 7 = 0
  · rw [if_pos c7] at ht ⊢
    obtain ⟨h2, ht⟩ := gd_s ht
    rw [gd_t h2]
    by_cases cl : m b 4 < m (m 16 3) 2
    · rw [if_pos cl] at ht ⊢
      by_cases c60 : m 16 9 < 60
      · rw [if_pos c60] at ht ⊢
        rw [up_t] at ht ⊢
        obtain ⟨h3, ht⟩ := gd_s ht
        obtain ⟨z, h4, ht⟩ := bp_s ht
        rw [gd_t h3, bp_t h4]
        by_cases q1 : 7 < w32 (Int.tdiv z 1000000)
        · rw [if_pos q1] at ht ⊢
          by_cases q2 : 13 < w32 (Int.tdiv z 1000000)
          · rw [if_pos q2] at ht ⊢
            by_cases q3 : 18 < w32 (Int.tdiv z 1000000)
            · rw [if_pos q3] at ht ⊢
              rw [bd_t ht]
            · rw [if_neg q3] at ht ⊢
              rw [bd_t ht]
          · rw [if_neg q2] at ht ⊢
            rw [bd_t ht]
        · rw [if_neg q1] at ht ⊢
          rw [bd_t ht]
      · rw [if_neg c60] at ht ⊢
        rw [bd_t ht]
    · rw [if_neg cl] at ht ⊢
      rw [bd_t ht]
  · rw [if_neg c7] at ht ⊢
    rw [bd_t ht]
theorem on_e (X : XC m0 x) (hcw : CodeW x) (hs : x.1 3 ≤ x.1 0) : ∀ (n F : Nat) (y : Int) (s : TS) (m : MM) (B : Int), 0 ≤ y → y + n = 1000 → n < F → CR m0 m s B → SW x s B → B + 30 * n < 268435456 → TkW x s → x.1 0 + nl (sOn x n s) ≤ 524288 → ∃ m', fl_X4_goOn_10 F (obj m (first s)) y m = some (0, m') ∧ CR m0 m' (sOn x n s) (B + 30 * n) ∧ SW x (sOn x n s) (B + 30 * n) ∧ (∀ q, KQ q → sg (sOn x n s) 0 q = sg s 0 q) := by
  intro n
  induction n with
  | zero =>
    intro F y s m B h0 h1 h2 hC hW hB hT hN
    obtain ⟨F, rfl⟩ : ∃ g, F = g + 1 := ⟨F - 1, by omega⟩
    refine ⟨m, ?_, hC.mono (by omega), hW.mono (by omega), fun _ _ => rfl⟩
    rw [show fl_X4_goOn_10 (F + 1) (obj m (first s)) y m = _ from fl_X4_goOn_10.eq_2 _ y m F]
    rw [if_neg (by omega)]
  | succ n ih =>
    intro F y s m B h0 h1 h2 hC hW hB hT hN
    obtain ⟨F, rfl⟩ : ∃ g, F = g + 1 := ⟨F - 1, by omega⟩
    unfold sOn at hN ⊢
    rcases first_b (s := s) with g | ⟨g1, g2, g3⟩
    · have eo : obj m (first s) = 0 := if_pos (by omega)
      rw [if_pos (by omega)]
      refine ⟨m, ?_, hC.mono (by omega), hW.mono (by omega), fun _ _ => rfl⟩
      rw [show fl_X4_goOn_10 (F + 1) (obj m (first s)) y m = _ from fl_X4_goOn_10.eq_2 _ y m F]
      rw [if_pos (by omega), if_pos eo]
    · obtain ⟨o1, o2⟩ := obj_pos hC g1 g2
      rw [if_neg (by omega)] at hN
      rw [if_neg (by omega)]
      have hge := goes_e hC
      by_cases cg : goes s = true
      · rw [if_pos cg] at hN hge
        rw [if_pos cg]
        obtain ⟨m1, f1, f2, f3⟩ := turn_e hC X hcw hW (by omega) hs hT (goes_s cg).1 g1 g2 g3 (Int.le_trans (Int.add_le_add_left (nl_on n _) _) hN)
        have hk := fun q hq => kp_turn (x := x) (s := s) (k := first s) (q := q) hW.2.2.2.2.2.2.2.1.1 g1 hq
        have hT1 : TkW x (sTurn x (first s) s) := by
          unfold TkW
          rw [hk 28 (Or.inr (Or.inr (Or.inr rfl)))]
          exact hT
        obtain ⟨m2, q1, q2, q3, q4⟩ := ih F (y + 1) (sTurn x (first s) s) m1 (B + 30) (by omega) (by omega) (by omega) f2 f3 (by omega) hT1 hN
        refine ⟨m2, ?_, q2.mono (by omega), q3.mono (by omega), fun q hq => (q4 q hq).trans (hk q hq)⟩
        rw [o1, turn_l o2 (by omega) hge f1]
        unfold fj_X4_goOn_219
        rw [bp_t (first_e f2 f3), lx_p, w32_id (by omega) (by omega)]
        exact q1
      · rw [if_neg cg] at hge
        rw [if_neg cg]
        refine ⟨m, ?_, hC.mono (by omega), hW.mono (by omega), fun _ _ => rfl⟩
        rw [show fl_X4_goOn_10 (F + 1) (obj m (first s)) y m = _ from fl_X4_goOn_10.eq_2 _ y m F]
        rw [if_pos (by omega), if_neg (by rw [o1]; exact o2), bp_t hge, if_pos rfl]
end ONN
