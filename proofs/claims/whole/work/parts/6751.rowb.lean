/-! THE CLASS'S TELLING: rows grow with lines and arrivals, not with turns that might be. -/
section RWB
variable {m0 m m' : MM} {x : CX} {s s' s1 : TS} {B l : Int} {i j k : Int}
theorem turn_4 (h5 : 0 ≤ sg s 0 5) (k0 : 0 ≤ k) : sg (sTurn x k s) 0 40 - sg (sTurn x k s) 0 29 = sg s 0 40 - sg s 0 29 ∧ sg s 0 40 ≤ sg (sTurn x k s) 0 40 := by
  unfold sTurn
  split
  · rw [kr_awake (by unfold KR; omega), kr_awake (by unfold KR; omega)]
    exact ⟨rfl, Int.le_refl _⟩
  · split
    · rw [kr_end (by unfold KR; omega), kr_end (by unfold KR; omega)]
      exact ⟨rfl, Int.le_refl _⟩
    · split
      · rw [kr_stuck (by unfold KR; omega), kr_stuck (by unfold KR; omega)]
        exact ⟨rfl, Int.le_refl _⟩
      · have e5 : 0 ≤ sg (st (st s 0 29 (sg s 0 29 + 1)) 0 40 (sg s 0 40 + 1)) 0 5 := by rw [st_g, if_neg (by omega), st_g, if_neg (by omega)]; exact h5
        rw [kr_lineA e5 k0 (by unfold KR; omega), kr_lineA e5 k0 (by unfold KR; omega), st_g, if_pos ⟨rfl, rfl⟩, st_g, if_neg (by omega), st_g, if_pos ⟨rfl, rfl⟩]
        omega
/-- what is to be done yet of turns that are no lines -/
def vLeft (s : TS) : Int := if goes s = true then pw s 12 0 + 1 else 0
theorem vLeft_b : 0 ≤ vLeft s ∧ vLeft s ≤ 25 := by
  unfold vLeft
  have := pw_b (s := s) 12 0
  split <;> omega
theorem on_e2 (X : XC m0 x) (hcw : CodeW x) (hs : x.1 3 ≤ x.1 0) (hN0 : 0 ≤ x.1 0) (hl2 : x.1 5 ≤ 24) : ∀ (n F : Nat) (y : Int) (s : TS) (m : MM) (B : Int), 0 ≤ y → y + n = 1000 → n < F → CR m0 m s B → SW x s B → B + 30 * (3 * (sg (sOn x n s) 0 40 - sg s 0 40) + vLeft s) < 268435456 → TkW x s → x.1 0 + nl (sOn x n s) ≤ 524288 → ∃ m', fl_X4_goOn_10 F (obj m (first s)) y m = some (0, m') ∧ CR m0 m' (sOn x n s) (B + 30 * (3 * (sg (sOn x n s) 0 40 - sg s 0 40) + vLeft s)) ∧ SW x (sOn x n s) (B + 30 * (3 * (sg (sOn x n s) 0 40 - sg s 0 40) + vLeft s)) ∧ (∀ q, KQ q → sg (sOn x n s) 0 q = sg s 0 q) ∧ sg s 0 40 ≤ sg (sOn x n s) 0 40 := by
  intro n
  induction n with
  | zero =>
    intro F y s m B h0 h1 h2 hC hW hB hT hN
    obtain ⟨F, rfl⟩ : ∃ g, F = g + 1 := ⟨F - 1, by omega⟩
    have hv := vLeft_b (s := s)
    have e : sg (sOn x 0 s) 0 40 = sg s 0 40 := rfl
    rw [e]
    refine ⟨m, ?_, hC.mono (by omega), hW.mono (by omega), fun _ _ => rfl, Int.le_refl _⟩
    rw [show fl_X4_goOn_10 (F + 1) (obj m (first s)) y m = _ from fl_X4_goOn_10.eq_2 _ y m F]
    rw [if_neg (by omega)]
  | succ n ih =>
    intro F y s m B h0 h1 h2 hC hW hB hT hN
    obtain ⟨F, rfl⟩ : ∃ g, F = g + 1 := ⟨F - 1, by omega⟩
    have hv := vLeft_b (s := s)
    unfold sOn at hN hB ⊢
    rcases first_b (s := s) with g | ⟨g1, g2, g3⟩
    · have eo : obj m (first s) = 0 := if_pos (by omega)
      rw [if_pos (by omega)]
      refine ⟨m, ?_, hC.mono (by omega), hW.mono (by omega), fun _ _ => rfl, Int.le_refl _⟩
      rw [show fl_X4_goOn_10 (F + 1) (obj m (first s)) y m = _ from fl_X4_goOn_10.eq_2 _ y m F]
      rw [if_pos (by omega), if_pos eo]
    · obtain ⟨o1, o2⟩ := obj_pos hC g1 g2
      rw [if_neg (by omega)] at hN hB
      rw [if_neg (by omega)]
      have hge := goes_e hC
      by_cases cg : goes s = true
      · rw [if_pos cg] at hN hge hB
        rw [if_pos cg]
        have h5 := hW.2.2.2.2.2.2.2.1
        have ht4 := turn_4 (x := x) (s := s) (k := first s) h5.1 g1
        -- what is left behind the turn
        have hvl : vLeft (sTurn x (first s) s) + 1 ≤ 3 * (sg (sTurn x (first s) s) 0 40 - sg s 0 40) + vLeft s := by
          have es : vLeft s = pw s 12 0 + 1 := if_pos cg
          have hp0 := (pw_b (s := s) 12 0).1
          by_cases cg2 : goes (sTurn x (first s) s) = true
          · have e2 : vLeft (sTurn x (first s) s) = pw (sTurn x (first s) s) 12 0 + 1 := if_pos cg2
            have hp := pot_turn hcw hs hN0 hl2 hW g1 g2 cg2
            unfold pot at hp
            omega
          · have e2 : vLeft (sTurn x (first s) s) = 0 := if_neg cg2
            omega
        have hv1 := vLeft_b (s := sTurn x (first s) s)
        have hmon : ∀ (n : Nat) (s : TS) (B : Int), SW x s B → TkW x s → sg s 0 40 ≤ sg (sOn x n s) 0 40 := by
          intro n
          induction n with
          | zero => intro s B _ _; exact Int.le_refl _
          | succ n ihn =>
            intro s B hWs hTs
            unfold sOn
            split
            · exact Int.le_refl _
            · rename_i c1
              split
              · rename_i c2
                rcases first_b (s := s) with g | ⟨q1, q2, q3⟩
                · omega
                · have hk := kp_turn (x := x) (s := s) (k := first s) (q := 28) hWs.2.2.2.2.2.2.2.1.1 q1 (Or.inr (Or.inr (Or.inr rfl)))
                  exact Int.le_trans (turn_4 (x := x) (k := first s) hWs.2.2.2.2.2.2.2.1.1 q1).2 (ihn _ _ (w_turn hcw hs hN0 hl2 q1 q2 hTs q3 hWs) (by unfold TkW; rw [hk]; exact hTs))
              · exact Int.le_refl _
        have hk := fun q hq => kp_turn (x := x) (s := s) (k := first s) (q := q) hW.2.2.2.2.2.2.2.1.1 g1 hq
        have hT1 : TkW x (sTurn x (first s) s) := by
          unfold TkW
          rw [hk 28 (Or.inr (Or.inr (Or.inr rfl)))]
          exact hT
        have hm1 := hmon n (sTurn x (first s) s) _ (w_turn hcw hs hN0 hl2 g1 g2 hT g3 hW) hT1
        obtain ⟨m1, f1, f2, f3⟩ := turn_e hC X hcw hW (by omega) hs hT (goes_s cg).1 g1 g2 g3 (Int.le_trans (Int.add_le_add_left (nl_on n _) _) hN)
        obtain ⟨m2, q1, q2, q3, q4, q5⟩ := ih F (y + 1) (sTurn x (first s) s) m1 (B + 30) (by omega) (by omega) (by omega) f2 f3 (by omega) hT1 hN
        refine ⟨m2, ?_, q2.mono (by omega), q3.mono (by omega), fun q hq => (q4 q hq).trans (hk q hq), by omega⟩
        rw [o1, turn_l o2 (by omega) hge f1]
        unfold fj_X4_goOn_219
        rw [bp_t (first_e f2 f3), lx_p, w32_id (by omega) (by omega)]
        exact q1
      · rw [if_neg cg] at hge
        rw [if_neg cg]
        refine ⟨m, ?_, hC.mono (by omega), hW.mono (by omega), fun _ _ => rfl, Int.le_refl _⟩
        rw [show fl_X4_goOn_10 (F + 1) (obj m (first s)) y m = _ from fl_X4_goOn_10.eq_2 _ y m F]
        rw [if_pos (by omega), if_neg (by rw [o1]; exact o2), bp_t hge, if_pos rfl]
end RWB
