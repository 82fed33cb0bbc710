/-! THE TELLING, plain: one telling as another: lines, turns, an arrival's note. -/
section SI3
variable {x x' : CX} {s t s1 s2 : TS} {B : Int} {a b c e i j v k h n l w p q r o u kd : Int} {L : List (Int × Int × Int)} {J : TS → Int → List (Int × Int × Int) → Prop} {Kp : TS → Int → Prop} {Ok : TS → Prop}
theorem ax_st7 : st (ax p q L s) 0 7 v = ax p q L (st s 0 7 v) := ax_st (by omega)
theorem sm_patch (H : SIMH x x' J Ok Kp) (h : Sm J q t s) (hK : Kp s a) (hf : Ok (sPatch x a s).2) : (sPatch x' a t).1 = (sPatch x a s).1 ∧ Sm J q (sPatch x' a t).2 (sPatch x a s).2 := by
  obtain ⟨p, L, rfl, hJ⟩ := h
  have h7 : sg (ax p q L s) 0 7 = sg s 0 7 := ax_o (by omega)
  have h10 : sg (ax p q L s) 0 10 = sg s 0 10 := ax_o (by omega)
  have h12 : sg (ax p q L s) 0 12 = p := by rw [ax_g, if_pos ⟨rfl, rfl⟩]
  by_cases c0 : iAnd (iShr (sg s 0 7) a) 1 = 0
  · have hi := H.2.2.2.2.1 s p L a q hJ hK hf c0
    unfold sPatch at hf ⊢
    rw [h7, h10, h12]
    rw [if_pos c0] at hf
    rw [if_pos c0, if_pos c0]
    by_cases c1 : (nc x (sg s 0 12) < sSeen x s ∧ eis (x.2.1 (nc x (sg s 0 12))) 12 a 0 = true) ∨ (¬ nc x (sg s 0 12) < sSeen x s ∧ ¬ sg s 0 10 < x.1 1)
    · rw [if_pos c1] at hf
      rw [if_pos (hi.mp c1), if_pos c1]
      refine ⟨rfl, (sm_cmd H (s := st s 0 7 (iOr (sg s 0 7) (iShl 1 a))) ⟨p, L, ax_st7, ?_⟩ hf).2⟩
      exact H.2.2.2.1 s _ p L hJ (by rw [st_g, if_neg (by omega)]) (by rw [st_g, if_neg (by omega)]) rfl
    · rw [if_neg (fun g => c1 (hi.mpr g)), if_neg c1]
      exact ⟨rfl, p, L, rfl, hJ⟩
  · unfold sPatch
    rw [h7, if_neg c0, if_neg c0]
    exact ⟨rfl, p, L, rfl, hJ⟩
theorem sm_line (H : SIMH x x' J Ok Kp) (h : Sm J q t s) (k0 : 0 ≤ k) (h5 : 0 ≤ sg s 0 5) (hE : x'.2.1 (sg s 0 28) = x.2.1 (sg s 0 28)) (hK : c = 19 → Kp s a) (c0 : 0 ≤ c) (c1 : c ≤ 23) (hf : Ok (sLine x k c a b s)) : Sm J q (sLine x' k c a b t) (sLine x k c a b s) := by
  have O := H.2.2.2.2.2
  have e4 := sm_g (a := 2 + k) (j := 4) h (by omega)
  have ev : ∀ i : Int, sg t 1 i = sg s 1 i := fun i => sm_g h (by omega)
  have hg : ∀ l : Int, Sm J q (sGo k l t) (sGo k l s) := fun l => sm_go H h k0
  have g5 : ∀ l : Int, 0 ≤ sg (sGo k l s) 0 5 := fun l => by rw [go_g, if_neg (by omega), if_neg (by omega)]; exact h5
  have hc : c = 0 ∨ c = 1 ∨ c = 2 ∨ c = 3 ∨ c = 4 ∨ c = 5 ∨ c = 6 ∨ c = 7 ∨ c = 8 ∨ c = 9 ∨ c = 10 ∨ c = 11 ∨ c = 12 ∨ c = 13 ∨ c = 14 ∨ c = 15 ∨ c = 16 ∨ c = 17 ∨ c = 18 ∨ c = 19 ∨ c = 20 ∨ c = 21 ∨ c = 22 ∨ c = 23 := by omega
  rcases hc with rfl | rfl | rfl | rfl | rfl | rfl | rfl | rfl | rfl | rfl | rfl | rfl | rfl | rfl | rfl | rfl | rfl | rfl | rfl | rfl | rfl | rfl | rfl | rfl
  · rw [sl0, sl0, e4]
    exact sm_go H (sm_sx H h (by omega)) k0
  · rw [sl1, sl1, e4, ev, ev]
    exact sm_go H (sm_sx H h (by omega)) k0
  · rw [sl2] at hf
    rw [sl2, sl2, ev]
    exact sm_cw H h k0 hf
  · rw [sl3] at hf
    rw [sl3, sl3]
    exact sm_cw H h k0 hf
  · rw [sl4, sl4]
    exact sm_wait H h k0
  · rw [sl5] at hf
    rw [sl5, sl5, ev]
    exact sm_cw H h k0 hf
  · rw [sl6, sl6, ev, e4]
    split
    · exact hg _
    · exact hg _
  · rw [sl7, sl7]
    exact hg _
  · rw [sl8, sl8, e4]
    exact sm_below H (hg _) (g5 _) k0
  · rw [sl9, sl9]
    exact sm_wait H h k0
  · rw [sl10, sl10, e4]
    exact sm_race H (hg _) (g5 _) k0
  · rw [sl11] at hf
    rw [sl11, sl11, e4]
    exact sm_drop H (sm_win H (hg _) k0 (o_drop O hf)) hf
  · rw [sl12, sl12, e4, sm_h h]
    exact sm_sth H (hg _)
  · rw [sl13, sl13, e4, sm_h h]
    exact sm_sth H (hg _)
  · rw [sl14, sl14, e4, ev, sm_u h]
    exact sm_go H (sm_stu H h) k0
  · rw [sl15] at hf
    rw [sl15, sl15]
    exact sm_undo H h k0 hf
  · rw [sl16] at hf
    rw [sl16, sl16]
    exact sm_end H h k0 hf
  · rw [sl17] at hf
    rw [sl17, sl17]
    exact sm_fail H h k0 hf
  · have e : ∀ (y : CX) (u : TS), sLine y k 18 a b u = sEndR y 16 (sg u 1 a) u := fun y u => rfl
    rw [e] at hf
    rw [e, e, ev]
    exact sm_endR H h hf
  · have e : ∀ (y : CX) (u : TS), sLine y k 19 a b u = sGo k (if (sPatch y a u).1 then sg u (2 + k) 4 + 1 else b) (sPatch y a u).2 := fun y u => rfl
    rw [e, o_go O] at hf
    obtain ⟨e1, e2⟩ := sm_patch H h (hK rfl) hf
    rw [e, e, e1, e4]
    exact sm_go H e2 k0
  · rw [sl20, sl20, e4, sm_g (a := 0) (j := 28) h (by omega), hE]
    exact sm_go H (sm_sx H h (by omega)) k0
  · rw [sl21, sl21, e4, sm_g (a := 2 + k) (j := 5) h (by omega)]
    exact sm_go H (sm_sx H h (by omega)) k0
  · have e : ∀ (y : CX) (u : TS), sLine y k 22 a b u = if (sBare k u).1 then sFail y k (sGo k (sg u (2 + k) 4 + 1) (sBare k u).2) else sGo k (sg u (2 + k) 4 + 1) (sBare k u).2 := fun y u => rfl
    obtain ⟨e1, e2⟩ := sm_bare H h k0
    rw [e] at hf
    rw [e, e, e1, e4]
    by_cases q1 : (sBare k s).1 = true
    · rw [if_pos q1] at hf
      rw [if_pos q1, if_pos q1]
      exact sm_fail H (sm_go H e2 k0) k0 hf
    · rw [if_neg q1, if_neg q1]
      exact sm_go H e2 k0
  · rw [sl23, o_go O] at hf
    rw [sl23, sl23, e4, ev]
    exact sm_go H (sm_cmd H h hf).2 k0
theorem sm_awake (H : SIMH x x' J Ok Kp) (h : Sm J q t s) (k0 : 0 ≤ k) : Sm J q (sAwake x' k t) (sAwake x k s) := by
  have e4 := sm_g (a := 2 + k) (j := 4) h (by omega)
  have eb : ∀ l : Int, bOf x' l = bOf x l := fun l => by unfold bOf; rw [H.2.1]
  unfold sAwake
  rw [e4, sm_g (a := 2 + k) (j := 7) h (by omega), sm_g (a := 2 + k) (j := 8) h (by omega), sm_q h, eb]
  split
  · exact sm_go H (sm_stq H (sm_sx H h (by omega))) k0
  · exact sm_go H h k0
theorem sm_turn (H : SIMH x x' J Ok Kp) (hcw : CodeW x) (h : Sm J q t s) (k0 : 0 ≤ k) (h5 : 0 ≤ sg s 0 5) (hl0 : 0 ≤ sg s (2 + k) 4) (hE : x'.2.1 (sg s 0 28) = x.2.1 (sg s 0 28)) (hK : sg s (2 + k) 7 = 0 → sg s (2 + k) 4 < x.1 5 → sg s 0 29 < 60 → (x.2.2 (sg s (2 + k) 4)).1 = 19 → Kp (st (st s 0 29 (sg s 0 29 + 1)) 0 40 (sg s 0 40 + 1)) (x.2.2 (sg s (2 + k) 4)).2.1) (hf : Ok (sTurn x k s)) : Sm J q (sTurn x' k t) (sTurn x k s) := by
  unfold sTurn at hf ⊢
  rw [sm_g (a := 2 + k) (j := 4) h (by omega), sm_g (a := 2 + k) (j := 7) h (by omega), sm_g (a := 0) (j := 29) h (by omega), sm_g (a := 0) (j := 40) h (by omega), H.1, H.2.1]
  by_cases c1 : sg s (2 + k) 7 ≠ 0
  · rw [if_pos c1, if_pos c1]
    exact sm_awake H h k0
  · rw [if_neg c1] at hf
    rw [if_neg c1, if_neg c1]
    by_cases c2 : x.1 5 ≤ sg s (2 + k) 4
    · rw [if_pos c2] at hf
      rw [if_pos c2, if_pos c2]
      exact sm_end H h k0 hf
    · rw [if_neg c2] at hf
      rw [if_neg c2, if_neg c2]
      by_cases c3 : 60 ≤ sg s 0 29
      · rw [if_pos c3, if_pos c3]
        exact sm_stk H h
      · rw [if_neg c3] at hf
        rw [if_neg c3, if_neg c3]
        have hw := hcw (sg s (2 + k) 4) hl0 (by omega)
        refine sm_line H (sm_sx H (sm_sx H h (by omega)) (by omega)) k0 ?_ ?_ (hK (Decidable.byContradiction c1) (by omega) (by omega)) hw.1 hw.2.1 hf
        · rw [st_g, if_neg (by omega), st_g, if_neg (by omega)]; exact h5
        · rw [st_g, if_neg (by omega), st_g, if_neg (by omega)]; exact hE
theorem o_on (O : OKH x Ok) (hcw : CodeW x) (hs : x.1 3 ≤ x.1 0) (hN : 0 ≤ x.1 0) (hl2 : x.1 5 ≤ 24) : ∀ (n : Nat) (s : TS) (B : Int), SW x s B → TkW x s → Ok (sOn x n s) → Ok s := by
  intro n
  induction n with
  | zero => intro s B _ _ h; exact h
  | succ n ih =>
    intro s B hW hT h
    unfold sOn at h
    rcases first_b (s := s) with g | ⟨g1, g2, g3⟩
    · rw [if_pos (by omega)] at h; exact h
    · rw [if_neg (by omega)] at h
      split at h
      · have hb := hW.br g1 g2
        have hW1 := w_turn hcw hs hN hl2 g1 g2 hT g3 hW
        have hT1 : TkW x (sTurn x (first s) s) := by
          unfold TkW at hT ⊢
          rw [kp_turn hW.2.2.2.2.2.2.2.1.1 g1 (Or.inr (Or.inr (Or.inr rfl)))]
          exact hT
        exact o_turn O hcw hb.2.1.1 hW.2.2.2.2.2.2.2.1.1 (ih _ _ hW1 hT1 h)
      · exact h
theorem sm_on (H : SIMH x x' J Ok Kp) (hcw : CodeW x) (hs : x.1 3 ≤ x.1 0) (hN : 0 ≤ x.1 0) (hl2 : x.1 5 ≤ 24) (hE : ∀ i : Int, 0 ≤ i → i < x.1 0 → x'.2.1 i = x.2.1 i) {Q : TS → Prop} (hQ : ∀ s, Q s → goes s = true → 0 ≤ first s → Q (sTurn x (first s) s)) (hK : ∀ s, Q s → goes s = true → 0 ≤ first s → sg s (2 + first s) 7 = 0 → sg s (2 + first s) 4 < x.1 5 → sg s 0 29 < 60 → (x.2.2 (sg s (2 + first s) 4)).1 = 19 → Kp (st (st s 0 29 (sg s 0 29 + 1)) 0 40 (sg s 0 40 + 1)) (x.2.2 (sg s (2 + first s) 4)).2.1) : ∀ (n : Nat) (t s : TS) (B : Int), SW x s B → TkW x s → Q s → Sm J q t s → Ok (sOn x n s) → Sm J q (sOn x' n t) (sOn x n s) := by
  intro n
  induction n with
  | zero => intro t s B _ _ _ h _; exact h
  | succ n ih =>
    intro t s B hW hT hq h hf
    unfold sOn at hf ⊢
    rw [sm_first h, sm_goes h]
    rcases first_b (s := s) with g | ⟨g1, g2, g3⟩
    · rw [if_pos (by omega), if_pos (by omega)]; exact h
    · rw [if_neg (show ¬ first s < 0 by omega)] at hf
      rw [if_neg (show ¬ first s < 0 by omega), if_neg (show ¬ first s < 0 by omega)]
      by_cases c2 : goes s = true
      · rw [if_pos c2] at hf
        rw [if_pos c2, if_pos c2]
        have hb := hW.br g1 g2
        have h5 := hW.2.2.2.2.2.2.2.1.1
        have hW1 := w_turn hcw hs hN hl2 g1 g2 hT g3 hW
        have hT1 : TkW x (sTurn x (first s) s) := by
          unfold TkW at hT ⊢
          rw [kp_turn h5 g1 (Or.inr (Or.inr (Or.inr rfl)))]
          exact hT
        refine ih _ _ _ hW1 hT1 (hQ s hq c2 g1) (sm_turn H hcw h g1 h5 hb.2.1.1 (hE _ hT.1 hT.2.1) (hK s hq c2 g1) (o_on H.2.2.2.2.2 hcw hs hN hl2 n _ _ hW1 hT1 hf)) hf
      · rw [if_neg c2, if_neg c2]; exact h
theorem sm_failed (H : SIMH x x' J Ok Kp) (h : Sm J q t s) (hf : Ok (sFailed x k s)) : Sm J q (sFailed x' k t) (sFailed x k s) := by
  unfold sFailed at hf ⊢
  by_cases c1 : k < 0
  · rw [if_pos c1, if_pos c1]; exact h
  · rw [if_neg c1] at hf
    rw [if_neg c1, if_neg c1, sm_g (a := 2 + k) (j := 7) h (by omega), sm_g (a := 2 + k) (j := 4) h (by omega)]
    by_cases c2 : sg s (2 + k) 7 = 2
    · rw [if_pos c2, if_pos c2]; exact sm_go H h (by omega)
    · rw [if_neg c2] at hf
      rw [if_neg c2, if_neg c2]; exact sm_fail H h (by omega) hf
theorem sm_ended (H : SIMH x x' J Ok Kp) (h : Sm J q t s) : Sm J q (sEnded x' k c b t) (sEnded x k c b s) := by
  have eb : ∀ l : Int, bOf x' l = bOf x l := fun l => by unfold bOf; rw [H.2.1]
  unfold sEnded
  by_cases c1 : k < 0
  · rw [if_pos c1, if_pos c1]; exact h
  · rw [if_neg c1, if_neg c1, sm_g (a := 2 + k) (j := 7) h (by omega), sm_g (a := 2 + k) (j := 4) h (by omega), eb]
    split
    · exact sm_go H h (by omega)
    · split
      · exact sm_go H h (by omega)
      · exact sm_go H (sm_sx H h (by omega)) (by omega)
theorem sm_note (H : SIMH x x' J Ok Kp) (h5 : 0 ≤ sg s 0 5) (h : Sm J q t s) (hf : Ok (sNote x k a b s)) : Sm J q (sNote x' k a b t) (sNote x k a b s) := by
  unfold sNote at hf ⊢
  rw [sm_wtr h, sm_q h, sm_g (a := 0) (j := 40) h (by omega), sm_g (a := 0) (j := 41) h (by omega)]
  by_cases c0 : k = 0
  · rw [if_pos c0, if_pos c0]
    exact sm_begin H (sm_sx H (sm_sx H h (by omega)) (by omega)) (by rw [st_g, if_neg (by omega), st_g, if_neg (by omega)]; exact h5)
  · rw [if_neg c0] at hf
    rw [if_neg c0, if_neg c0]
    by_cases c2 : k = 2
    · rw [if_pos c2] at hf
      rw [if_pos c2, if_pos c2]
      exact sm_failed H h hf
    · rw [if_neg c2] at hf
      rw [if_neg c2, if_neg c2]
      by_cases c6 : k = 6
      · rw [if_pos c6] at hf
        rw [if_pos c6, if_pos c6]
        exact sm_failed H h hf
      · rw [if_neg c6] at hf
        rw [if_neg c6, if_neg c6]
        by_cases c4 : k = 4
        · rw [if_pos c4, if_pos c4]
          exact sm_sx H (sm_stq H h) (by omega)
        · rw [if_neg c4] at hf
          rw [if_neg c4, if_neg c4]
          by_cases c7 : k = 7
          · rw [if_pos c7] at hf
            rw [if_pos c7, if_pos c7]
            exact sm_tell H 13 0 _ _ (by decide) (sm_sx H h (by omega)) hf
          · rw [if_neg c7, if_neg c7]
            exact sm_ended H h
end SI3
