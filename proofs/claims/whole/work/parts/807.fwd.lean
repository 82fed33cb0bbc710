/-! THE TELLING, plain: what is kept by commands is kept by all; nothing is new as long as what is taken was counted. -/
section FWI
variable {x : CX} {s s' s1 s2 : TS} {B : Int} {a b c d e i j v k h l w p r t o q u kd : Int} {I J : TS → Prop}
/-- I and J look at the news, the number of arrivals taken and whether a run is over alone; commands keep I; what ends a run makes J of it; J is I where it goes on -/
def FI (x : CX) (I J : TS → Prop) : Prop := (∀ s s' : TS, sg s' 0 10 = sg s 0 10 → sn s' = sn s → sg s' 0 9 = sg s 0 9 → sg s' 0 12 = sg s 0 12 → (I s → I s') ∧ (J s → J s')) ∧ (∀ (s : TS) (k a b : Int), 8 ≤ k → k ≤ 13 → I s → I (sCmd x k a b s).2) ∧ (∀ s : TS, I s → J s) ∧ (∀ (s : TS) (k a : Int), 14 ≤ k → k ≤ 16 → I s → J (sEndR x k a s)) ∧ ∀ s : TS, goes s = true → J s → I s
theorem FI.ci (H : FI x I J) (h10 : sg s' 0 10 = sg s 0 10) (hn : sn s' = sn s) (h9 : sg s' 0 9 = sg s 0 9) (h12 : sg s' 0 12 = sg s 0 12) (hI : I s) : I s' := (H.1 s s' h10 hn h9 h12).1 hI
theorem FI.cj (H : FI x I J) (h10 : sg s' 0 10 = sg s 0 10) (hn : sn s' = sn s) (h9 : sg s' 0 9 = sg s 0 9) (h12 : sg s' 0 12 = sg s 0 12) (hI : J s) : J s' := (H.1 s s' h10 hn h9 h12).2 hI
theorem fi_st (H : FI x I J) (h : a ≠ 0 ∨ (j ≠ 10 ∧ j ≠ 9 ∧ j ≠ 12)) (hI : I s) : I (st s a j v) := H.ci (s := s) (by rw [st_g, if_neg (by omega)]) rfl (by rw [st_g, if_neg (by omega)]) (by rw [st_g, if_neg (by omega)]) hI
theorem fj_st9 (H : FI x I J) (h : a ≠ 0 ∨ (j ≠ 10 ∧ j ≠ 9 ∧ j ≠ 12)) (hI : J s) : J (st s a j v) := H.cj (s := s) (by rw [st_g, if_neg (by omega)]) rfl (by rw [st_g, if_neg (by omega)]) (by rw [st_g, if_neg (by omega)]) hI
theorem fi_go0 (H : FI x I J) (k0 : 0 ≤ k) (hI : I s) : I (sGo k l s) := H.ci (s := s) (by rw [go_g, if_neg (by omega), if_neg (by omega)]) rfl (by rw [go_g, if_neg (by omega), if_neg (by omega)]) (by rw [go_g, if_neg (by omega), if_neg (by omega)]) hI
theorem fi_wait (H : FI x I J) (k0 : 0 ≤ k) (hI : I s) : I (sWait k w v s) := H.ci (s := s) (by rw [wait_g, if_neg (by omega), if_neg (by omega)]) rfl (by rw [wait_g, if_neg (by omega), if_neg (by omega)]) (by rw [wait_g, if_neg (by omega), if_neg (by omega)]) hI
theorem fi_begin (H : FI x I J) (h5 : 0 ≤ sg s 0 5) (hI : I s) : I (sBegin p l s) := H.ci (s := s) (by rw [begin_g (by decide), if_neg (by omega), if_neg (by omega), if_neg (by omega)]) rfl (by rw [begin_g (by decide), if_neg (by omega), if_neg (by omega), if_neg (by omega)]) (by rw [begin_g (by decide), if_neg (by omega), if_neg (by omega), if_neg (by omega)]) hI
theorem fi_rem (H : FI x I J) (hI : I s) : I (sRem k s) := H.ci (s := s) (rem_o (Or.inl ⟨rfl, by decide, by decide⟩)) rfl (rem_o (Or.inl ⟨rfl, by decide, by decide⟩)) (rem_o (Or.inl ⟨rfl, by decide, by decide⟩)) hI
theorem fi_stk (H : FI x I J) (hI : I s) : I (sStuck s v) := fi_st H (by omega) (fi_st H (by omega) hI)
theorem fi_e9 (H : FI x I J) (h : E9 s s') (hI : I s) : I s' := H.ci (s := s) (h.1 _ _ (by omega)) (by unfold sn; rw [h.2]) (h.1 _ _ (by omega)) (h.1 _ _ (by omega)) hI
theorem fi_fail (H : FI x I J) (k0 : 0 ≤ k) (hI : I s) : J (sFail x k s) := by
  unfold sFail
  split
  · rename_i v t hv
    exact H.2.2.1 _ (H.ci (s := sGo k v (sGo k (sg s (2 + k) 4) s)) rfl rfl rfl rfl (fi_go0 H k0 (fi_go0 H k0 hI)))
  · exact H.2.2.2.1 _ 15 0 (by decide) (by decide) (fi_go0 H k0 hI)
theorem fi_end (H : FI x I J) (hI : I s) : J (sEnd x k s) := by
  unfold sEnd
  split
  · exact H.2.2.2.1 _ 14 (sg s 1 0) (by decide) (by decide) hI
  · exact H.2.2.1 _ (fi_rem H hI)
theorem fi_let (H : FI x I J) (hI : I s) : I (sLet x k s) := by
  unfold sLet
  split
  · exact H.2.1 _ _ _ _ (by decide) (by decide) hI
  · exact hI
theorem fi_can (H : FI x I J) (k0 : 0 ≤ k) (hI : I s) : J (sCan x k s) := by
  unfold sCan
  split
  · split
    · exact H.2.2.1 _ (H.2.1 _ _ _ _ (by decide) (by decide) hI)
    · exact fi_fail H k0 (H.2.1 _ _ _ _ (by decide) (by decide) hI)
  · exact fi_fail H k0 hI
theorem fi_tell (H : FI x I J) : ∀ (n : Nat) (k : Int) (s : TS), 0 ≤ k → J s → J (sTell x n k s) := by
  intro n
  induction n with
  | zero => intro k s _ hI; exact hI
  | succ n ih =>
    intro k s k0 hI
    rw [tell_u]
    split
    · split
      · rename_i hg
        have hI' := H.2.2.2.2 s hg hI
        split
        · exact ih _ _ (by omega) (fj_st9 H (by omega) hI)
        · exact ih _ _ (by omega) (fi_can H k0 hI')
      · exact hI
    · exact hI
theorem fi_below (H : FI x I J) (h5 : 0 ≤ sg s 0 5) (hI : I s) : I (sBelow k l s) := by
  unfold sBelow
  split
  · exact fi_begin H h5 hI
  · exact fi_stk H hI
theorem fi_race (H : FI x I J) (k0 : 0 ≤ k) (h5 : 0 ≤ sg s 0 5) (hI : I s) : I (sRace k l s) := by
  unfold sRace
  split
  · simp only
    refine fi_st H (by omega) (fi_st H (by omega) ?_)
    split
    · exact fi_begin H h5 hI
    · exact fi_st H (by omega) (fi_begin H h5 hI)
  · exact fi_stk H hI
theorem fi_win (H : FI x I J) (k0 : 0 ≤ k) (hI : I s) : I (sWin x k s) := by
  unfold sWin
  simp only
  split
  · exact hI
  · rename_i cf
    generalize find s (sg s (2 + k) 3) = o at cf
    have o0 : 0 ≤ o := by omega
    have h2 : I (st (st s (2 + k) 3 (-1)) (2 + o) 3 (-1)) := fi_st H (by omega) (fi_st H (by omega) hI)
    generalize st (st s (2 + k) 3 (-1)) (2 + o) 3 (-1) = s2 at h2
    split
    · split
      · show I (if (sCmd x 11 (sg s2 (2 + o) 8) 0 s2).1 < 0 then (sCmd x 11 (sg s2 (2 + o) 8) 0 s2).2 else sDoom k (sGo o (sg (sCmd x 11 (sg s2 (2 + o) 8) 0 s2).2 (2 + k) 4) (sCmd x 11 (sg s2 (2 + o) 8) 0 s2).2))
        have h3 := H.2.1 s2 11 (sg s2 (2 + o) 8) 0 (by decide) (by decide) h2
        split
        · exact h3
        · exact fi_e9 H (e9_doom k0) (fi_go0 H o0 h3)
      · exact fi_e9 H (e9_doom k0) (fi_go0 H o0 h2)
    · exact fi_e9 H (e9_doom o0) h2
theorem fi_drop1 (H : FI x I J) : ∀ (n : Nat) (k : Int) (s : TS), I s → I (sDrop1 x n k s) := by
  intro n
  induction n with
  | zero => intro k s hI; exact hI
  | succ n ih =>
    intro k s hI
    rw [drop1_u]
    split
    · split
      · refine ih _ _ ?_
        split
        · exact fi_let H hI
        · exact hI
      · exact hI
    · exact hI
theorem fi_drop2 (H : FI x I J) : ∀ (n : Nat) (k : Int) (s : TS), I s → I (sDrop2 n k s) := by
  intro n
  induction n with
  | zero => intro k s hI; exact hI
  | succ n ih =>
    intro k s hI
    unfold sDrop2
    split
    · exact hI
    · split
      · exact ih _ _ hI
      · exact ih _ _ (fi_rem H hI)
theorem fi_drop (H : FI x I J) (hI : I s) : I (sDrop x s) := by
  unfold sDrop
  simp only
  exact fi_drop2 H _ _ _ (fi_drop1 H _ _ _ hI)
theorem fi_cw (H : FI x I J) (k0 : 0 ≤ k) (d0 : 8 ≤ kd) (d1 : kd ≤ 13) (hI : I s) : I (match sCmd x kd a b s with | (r, s1) => sWait k w r s1) := by
  show I (sWait k w (sCmd x kd a b s).1 (sCmd x kd a b s).2)
  exact fi_wait H k0 (H.2.1 _ _ _ _ d0 d1 hI)
theorem fi_line (H : FI x I J) (k0 : 0 ≤ k) (h5 : 0 ≤ sg s 0 5) (c0 : 0 ≤ c) (c1 : c ≤ 23) (hI : I s) : J (sLine x k c a b s) := by
  have g1 : I (sGo k (sg s (2 + k) 4 + 1) s) := fi_go0 H k0 hI
  have t5 : 0 ≤ sg (sGo k (sg s (2 + k) 4 + 1) s) 0 5 := by rw [go_g, if_neg (by omega), if_neg (by omega)]; exact h5
  have up := H.2.2.1
  have hcc : c = 0 ∨ c = 1 ∨ c = 2 ∨ c = 3 ∨ c = 4 ∨ c = 5 ∨ c = 6 ∨ c = 7 ∨ c = 8 ∨ c = 9 ∨ c = 10 ∨ c = 11 ∨ c = 12 ∨ c = 13 ∨ c = 14 ∨ c = 15 ∨ c = 16 ∨ c = 17 ∨ c = 18 ∨ c = 19 ∨ c = 20 ∨ c = 21 ∨ c = 22 ∨ c = 23 := by omega
  rcases hcc with rfl | rfl | rfl | rfl | rfl | rfl | rfl | rfl | rfl | rfl | rfl | rfl | rfl | rfl | rfl | rfl | rfl | rfl | rfl | rfl | rfl | rfl | rfl | rfl
  · rw [sl0]; exact up _ (fi_go0 H k0 (fi_st H (by omega) hI))
  · rw [sl1]; exact up _ (fi_go0 H k0 (fi_st H (by omega) hI))
  · rw [sl2]; exact up _ (fi_cw H k0 (by decide) (by decide) hI)
  · rw [sl3]; exact up _ (fi_cw H k0 (by decide) (by decide) hI)
  · rw [sl4]; exact up _ (fi_wait H k0 hI)
  · rw [sl5]; exact up _ (fi_cw H k0 (by decide) (by decide) hI)
  · rw [sl6]
    split <;> exact up _ (fi_go0 H k0 hI)
  · rw [sl7]; exact up _ (fi_go0 H k0 hI)
  · rw [sl8]; exact up _ (fi_below H t5 g1)
  · rw [sl9]; exact up _ (fi_wait H k0 hI)
  · rw [sl10]; exact up _ (fi_race H k0 t5 g1)
  · rw [sl11]; exact up _ (fi_drop H (fi_win H k0 g1))
  · rw [sl12]; exact up _ (H.ci (s := sGo k (sg s (2 + k) 4 + 1) s) rfl rfl rfl rfl g1)
  · rw [sl13]; exact up _ (H.ci (s := sGo k (sg s (2 + k) 4 + 1) s) rfl rfl rfl rfl g1)
  · rw [sl14]; exact up _ (fi_go0 H k0 (H.ci (s := s) rfl rfl rfl rfl hI))
  · rw [sl15]
    unfold sUndo
    split
    · exact up _ g1
    · rename_i v t hu
      exact up _ (fi_cw (s := stu s t) H k0 (by decide) (by decide) (H.ci (s := s) rfl rfl rfl rfl hI))
  · rw [sl16]; exact fi_end H hI
  · rw [sl17]; exact fi_fail H k0 hI
  · rw [sl18]; exact H.2.2.2.1 _ 16 (sg s 1 a) (by decide) (by decide) hI
  · rw [sl19]
    have hp : I (sPatch x a s).2 := by
      unfold sPatch
      split
      · split
        · exact H.2.1 _ _ _ _ (by decide) (by decide) (fi_st H (by omega) hI)
        · exact hI
      · exact hI
    generalize hr : sPatch x a s = r at hp
    obtain ⟨r, s1⟩ := r
    exact up _ (fi_go0 H k0 hp)
  · rw [sl20]; exact up _ (fi_go0 H k0 (fi_st H (by omega) hI))
  · rw [sl21]; exact up _ (fi_go0 H k0 (fi_st H (by omega) hI))
  · rw [sl22]
    have hb : I (sBare k s).2 := by
      unfold sBare
      simp only
      generalize (if 0 < sg s (2 + k) 5 then sg s (2 + k) 5 - 1 else 0) = y
      split
      · exact fi_st H (by omega) (fi_st H (by omega) hI)
      · exact fi_st H (by omega) (fi_st H (by omega) hI)
    generalize hr : sBare k s = r at hb
    obtain ⟨r, s1⟩ := r
    simp only at hb ⊢
    have z : I (sGo k (sg s (2 + k) 4 + 1) s1) := fi_go0 H k0 hb
    cases r with
    | false => exact up _ z
    | true => exact fi_fail H k0 z
  · rw [sl23]; exact up _ (fi_go0 H k0 (H.2.1 _ _ _ _ (by decide) (by decide) hI))
theorem fi_turn (H : FI x I J) (hx : CodeW x) (hl0 : 0 ≤ sg s (2 + k) 4) (k0 : 0 ≤ k) (h5 : 0 ≤ sg s 0 5) (hI : I s) : J (sTurn x k s) := by
  unfold sTurn
  split
  · refine H.2.2.1 _ ?_
    unfold sAwake
    split
    · have e : ∀ q : Int, sg (stq (st s 1 (bOf x (sg s (2 + k) 4)) ((sq s (sg s (2 + k) 8)).headD 0)) (sg s (2 + k) 8) (sq s (sg s (2 + k) 8)).tail) 0 q = sg s 0 q := fun q => (st_g (s := s) (a := 1) (j := bOf x (sg s (2 + k) 4)) (v := (sq s (sg s (2 + k) 8)).headD 0) (b := 0) (i := q)).trans (if_neg (by omega))
      exact fi_go0 H k0 (H.ci (s := s) (e _) rfl (e _) (e _) hI)
    · exact fi_go0 H k0 hI
  · split
    · exact fi_end H hI
    · split
      · exact H.2.2.1 _ (fi_stk H hI)
      · rename_i g1 g2 g3
        have hL := hx (sg s (2 + k) 4) hl0 (by omega)
        refine fi_line H k0 ?_ hL.1 hL.2.1 (fi_st H (by omega) (fi_st H (by omega) hI))
        rw [st_g, if_neg (by omega), st_g, if_neg (by omega)]
        exact h5
theorem fi_note (H : FI x I J) (h5 : 0 ≤ sg s 0 5) (hI : I s) : J (sNote x kd a b s) := by
  have up := H.2.2.1
  have hwb := wtr_b (s := s) (e := a)
  have fl : J (sFailed x (wtr s a) s) := by
    unfold sFailed
    by_cases c : wtr s a < 0
    · rw [if_pos c]; exact up _ hI
    · rw [if_neg c]
      split
      · exact up _ (fi_go0 H (by omega) hI)
      · exact fi_fail H (by omega) hI
  unfold sNote
  split
  · refine up _ (fi_begin H ?_ (fi_st H (by omega) (fi_st H (by omega) hI)))
    rw [st_g, if_neg (by omega), st_g, if_neg (by omega)]
    exact h5
  · split
    · exact fl
    · split
      · exact fl
      · split
        · exact up _ (fi_st H (by omega) (H.ci (s := s) rfl rfl rfl rfl hI))
        · split
          · exact fi_tell H _ _ _ (by decide) (up _ (fi_st H (by omega) hI))
          · unfold sEnded
            by_cases c : wtr s a < 0
            · rw [if_pos c]; exact up _ hI
            · rw [if_neg c]
              split
              · exact up _ (fi_go0 H (by omega) hI)
              · split
                · exact up _ (fi_go0 H (by omega) hI)
                · exact up _ (fi_go0 H (by omega) (fi_st H (by omega) hI))
theorem fi_on (H : FI x I J) (hcw : CodeW x) (hs : x.1 3 ≤ x.1 0) (hN : 0 ≤ x.1 0) (hl2 : x.1 5 ≤ 24) : ∀ (n : Nat) (s : TS) (B : Int), SW x s B → TkW x s → J s → J (sOn x n s) := by
  intro n
  induction n with
  | zero => intro s B _ _ h; exact h
  | succ n ih =>
    intro s B hW hT h
    unfold sOn
    rcases first_b (s := s) with g | ⟨g1, g2, g3⟩
    · rw [if_pos (by omega)]; exact h
    · rw [if_neg (by omega)]
      split
      · rename_i hg
        have hb := hW.br g1 g2
        have hW1 := w_turn hcw hs hN hl2 g1 g2 hT g3 hW
        have hT1 : TkW x (sTurn x (first s) s) := by
          unfold TkW at hT ⊢
          rw [kp_turn hW.2.2.2.2.2.2.2.1.1 g1 (Or.inr (Or.inr (Or.inr rfl)))]
          exact hT
        exact ih _ _ hW1 hT1 (fi_turn H hcw hb.2.1.1 g1 hW.2.2.2.2.2.2.2.1.1 (H.2.2.2.2 s hg h))
      · exact h
theorem fi_taken (H : FI x I J) (hC : CXX x) (hP : BP x s B) (i0 : sg s 0 11 ≤ i) (i1 : i < x.1 0) (hi7 : ek (x.2.1 i) ≤ 7) (hI : I s) : J (sTaken x i s) := by
  obtain ⟨n1, n2, n3, n4, n5, n6, n7, n8⟩ := noted_all hC hP i0 i1 hi7
  refine fi_on H hC.1.1 hC.1.2.2 hC.2.2.2.2.1 hC.2.1 _ _ _ n1 n3 ?_
  exact fi_note H n8 (fi_st H (by omega) (fi_st H (by omega) (fi_st H (by omega) hI)))
theorem pass_n : ∀ (n : Nat) (i : Int) (s : TS), sn (sPass x n i s) = sn s ∧ sg (sPass x n i s) 0 9 = sg s 0 9 := by
  intro n
  induction n with
  | zero => intro i s; exact ⟨rfl, rfl⟩
  | succ n ih =>
    intro i s
    have e13 : ∀ v : Int, sn (st s 0 13 v) = sn s ∧ sg (st s 0 13 v) 0 9 = sg s 0 9 := fun v => ⟨rfl, by rw [st_g, if_neg (by omega)]⟩
    unfold sPass
    split
    · split
      · split
        · split
          · exact e13 _
          · obtain ⟨q1, q2⟩ := ih (i + 1) (if nc x (sg s 0 12) < i then sStuck s (nc x (sg s 0 12)) else s)
            rw [q1, q2]
            split
            · exact ⟨rfl, by unfold sStuck; rw [st_g, if_neg (by omega), st_g, if_neg (by omega)]⟩
            · exact ⟨rfl, rfl⟩
        · exact ih _ _
      · exact e13 _
    · exact e13 _
/-- nothing is new where all that is taken was counted -/
theorem fi_nil : FI x (fun s => sn s = [] ∧ sg s 0 10 < x.1 1) (fun s => sn s = [] ∧ sg s 0 10 < x.1 1) := by
  have hc : ∀ (s : TS) (k a b : Int), sn s = [] ∧ sg s 0 10 < x.1 1 → sn (sCmd x k a b s).2 = [] ∧ sg (sCmd x k a b s).2 0 10 < x.1 1 := by
    intro s k a b h
    refine ⟨?_, by rw [cmd_g (by omega)]; exact h.2⟩
    unfold sCmd
    split
    · split <;> exact h.1
    · rw [if_pos h.2]
      exact h.1
  have hs : ∀ s s' : TS, sg s' 0 10 = sg s 0 10 → sn s' = sn s → sn s = [] ∧ sg s 0 10 < x.1 1 → sn s' = [] ∧ sg s' 0 10 < x.1 1 := fun s s' h1 h2 h => ⟨by rw [h2]; exact h.1, by rw [h1]; exact h.2⟩
  refine ⟨fun s s' h1 h2 _ _ => ⟨hs s s' h1 h2, hs s s' h1 h2⟩, fun s k a b _ _ h => hc s k a b h, fun s h => h, fun s k a _ _ h => ?_, fun s _ h => h⟩
  have h1 := hc s k a 0 h
  unfold sEndR
  show sn (if (sCmd x k a 0 s).1 < 0 then (sCmd x k a 0 s).2 else st (sCmd x k a 0 s).2 0 9 k) = [] ∧ sg (if (sCmd x k a 0 s).1 < 0 then (sCmd x k a 0 s).2 else st (sCmd x k a 0 s).2 0 9 k) 0 10 < x.1 1
  split
  · exact h1
  · exact ⟨h1.1, by rw [st_g, if_neg (by omega)]; exact h1.2⟩
theorem nil_take (hC : CXX x) (hP : BP x s B) (i0 : sg s 0 11 ≤ i) (i1 : i < x.1 0) (hi7 : ek (x.2.1 i) ≤ 7) (hn : sn s = []) (h10 : sg s 0 10 < x.1 1) : sn (sTake x i s) = [] := by
  have h1 := (fi_taken (I := fun s => sn s = [] ∧ sg s 0 10 < x.1 1) fi_nil hC hP i0 i1 hi7 ⟨hn, h10⟩).1
  rw [take_d, (pass_n _ _ _).1]
  exact h1
theorem nil_follow (hC : CXX x) {lim : Int} (hl : lim ≤ x.1 1) : ∀ (n : Nat) (i : Int) (s : TS) (B : Int), BP x s B → sn s = [] → sg s 0 10 = i → sn (sFollow x lim n i s) = [] := by
  intro n
  induction n with
  | zero => intro i s B _ h _; exact h
  | succ n ih =>
    intro i s B hP hn h10
    unfold sFollow
    split
    · split
      · split
        · rename_i c1 c2 c3
          have hna := na_ok c3
          have hb := BP.take (i := na x (sg s 0 11)) hC hP hna.1 c3 hna.2
          exact ih _ _ _ hb.1 (nil_take hC hP hna.1 c3 hna.2 hn (by omega)) (by rw [hb.2.1, h10])
        · exact hn
      · exact hn
    · exact hn
/-- a telling of what was counted brings nothing new -/
theorem nil_told (hC : CXX x) {lim : Int} (hl : lim ≤ x.1 1) : sn (told x lim) = [] := nil_follow hC hl _ 0 s00 1 (bp00 hC.2.2.2.2.1) rfl rfl
/-- what is new doesn't end the run; or what is last does -/
def NEn (L : List (Int × Int × Int)) : Prop := ∀ z ∈ L, z.1 ≤ 13
def EnL (L : List (Int × Int × Int)) : Prop := NEn L ∨ ∃ M z, L = M ++ [z] ∧ NEn M ∧ 14 ≤ z.1 ∧ z.1 ≤ 16
theorem sn_cmd : sn (sCmd x kd a b s).2 = sn s ∨ sn (sCmd x kd a b s).2 = sn s ++ [(kd, a, b)] := by
  unfold sCmd
  split
  · split <;> exact Or.inl rfl
  · split
    · exact Or.inl rfl
    · exact Or.inr rfl
theorem fi_en (hX0 : 0 ≤ x.1 0) : FI x (fun s => NEn (sn s) ∧ sg s 0 9 = 0) (fun s => EnL (sn s) ∧ (sg s 0 9 = 0 → NEn (sn s))) := by
  refine ⟨fun s s' _ h2 h3 _ => ⟨fun h => by simp only [h2, h3]; exact h, fun h => by simp only [h2, h3]; exact h⟩, fun s k a b k0 k1 h => ⟨?_, by rw [cmd_g (by omega)]; exact h.2⟩, fun s h => ⟨Or.inl h.1, fun _ => h.1⟩, fun s k a k0 k1 h => ?_, fun s hg h => ?_⟩
  · rcases sn_cmd (x := x) (kd := k) (a := a) (b := b) (s := s) with e | e
    · rw [e]; exact h.1
    · rw [e]
      intro z hz
      rcases List.mem_append.mp hz with hz | hz
      · exact h.1 z hz
      · rw [List.mem_singleton.mp hz]; exact k1
  · have e9 : sg (sCmd x k a 0 s).2 0 9 = 0 := by rw [cmd_g (by omega)]; exact h.2
    unfold sEndR
    show EnL (sn (if (sCmd x k a 0 s).1 < 0 then (sCmd x k a 0 s).2 else st (sCmd x k a 0 s).2 0 9 k)) ∧ (sg (if (sCmd x k a 0 s).1 < 0 then (sCmd x k a 0 s).2 else st (sCmd x k a 0 s).2 0 9 k) 0 9 = 0 → NEn (sn (if (sCmd x k a 0 s).1 < 0 then (sCmd x k a 0 s).2 else st (sCmd x k a 0 s).2 0 9 k)))
    split
    · rename_i cr
      have : sn (sCmd x k a 0 s).2 = sn s := by
        unfold sCmd at cr ⊢
        split at cr
        · rename_i c1
          rw [if_pos c1]
          split <;> rfl
        · rename_i c1
          rw [if_neg c1]
          split at cr
          · rename_i c2
            rw [if_pos c2]; rfl
          · rename_i c2
            exact absurd cr (by
              show ¬ (x.1 0 + ((sn s).length : Int) < 0)
              omega)
      rw [this]
      exact ⟨Or.inl h.1, fun _ => h.1⟩
    · have e : sg (st (sCmd x k a 0 s).2 0 9 k) 0 9 = k := by rw [st_g, if_pos ⟨rfl, rfl⟩]
      refine ⟨?_, fun h0 => by omega⟩
      show EnL (sn (sCmd x k a 0 s).2)
      rcases sn_cmd (x := x) (kd := k) (a := a) (b := 0) (s := s) with e | e
      · rw [e]; exact Or.inl h.1
      · rw [e]; exact Or.inr ⟨_, _, rfl, h.1, k0, k1⟩
  · have := (goes_s hg).2
    exact ⟨h.2 this, this⟩
end FWI
