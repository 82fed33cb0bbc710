/-! THE TELLING: whether a run is over (the first half made from 605, as 646). -/
section KO1
variable {x : CX} {s : TS} {B : Int} {a b c e j v k h n l w p g t q : Int}
def KO (q : Int) : Prop := q = 9
theorem ko_cmd (hq : KO q) : sg (sCmd x a b c s).2 0 q = sg s 0 q := cmd_g (Or.inr (by unfold KO at hq; omega))
theorem ko_go (hq : KO q) : sg (sGo k l s) 0 q = sg s 0 q := by
  unfold KO at hq
  rw [go_g, if_neg (by omega), if_neg (by omega)]
theorem ko_wait (hq : KO q) : sg (sWait k w n s) 0 q = sg s 0 q := by
  unfold KO at hq
  rw [wait_g, if_neg (by omega), if_neg (by omega)]
theorem ko_begin (h5 : 0 ≤ sg s 0 5) (hq : KO q) : sg (sBegin p l s) 0 q = sg s 0 q := by
  unfold KO at hq
  rw [begin_g (by decide), if_neg (by omega), if_neg (by omega), if_neg (by omega)]
theorem ko_rem (hq : KO q) : sg (sRem k s) 0 q = sg s 0 q := rem_o (Or.inl ⟨rfl, by unfold KO at hq; omega, by unfold KO at hq; omega⟩)
theorem ko_st {a' j' v' : Int} (hq : KO q) (h : a' ≠ 0 ∨ (j' ≠ 9)) : sg (st s a' j' v') 0 q = sg s 0 q := by
  unfold KO at hq
  rw [st_g, if_neg (by omega)]
theorem ko_stuck (hq : KO q) : sg (sStuck s v) 0 q = sg s 0 q := by
  unfold sStuck
  rw [ko_st hq (by omega), ko_st hq (by omega)]
theorem ko_below (h5 : 0 ≤ sg s 0 5) (hq : KO q) : sg (sBelow k l s) 0 q = sg s 0 q := by
  unfold sBelow
  split
  · exact ko_begin h5 hq
  · exact ko_stuck hq
theorem ko_race (h5 : 0 ≤ sg s 0 5) (hk : 0 ≤ k) (hq : KO q) : sg (sRace k l s) 0 q = sg s 0 q := by
  unfold sRace
  split
  · simp only
    rw [ko_st hq (by omega), ko_st hq (by omega)]
    split
    · exact ko_begin h5 hq
    · rw [ko_st hq (by omega)]
      exact ko_begin h5 hq
  · exact ko_stuck hq
theorem ko_win (hk : 0 ≤ k) (hq : KO q) : sg (sWin x k s) 0 q = sg s 0 q := by
  have h9 : q = 9 := hq
  subst h9
  unfold sWin
  simp only
  split
  · rfl
  · rename_i cf
    generalize find s (sg s (2 + k) 3) = o at cf
    have h2 : sg (st (st s (2 + k) 3 (-1)) (2 + o) 3 (-1)) 0 9 = sg s 0 9 := by rw [st_g, if_neg (by omega), st_g, if_neg (by omega)]
    generalize st (st s (2 + k) 3 (-1)) (2 + o) 3 (-1) = s2 at h2
    have hdm : ∀ (s3 : TS) (l : Int), sg s3 0 9 = sg s 0 9 → sg (sDoom k (sGo o l s3)) 0 9 = sg s 0 9 := fun s3 l g => by
      rw [(e9_doom hk).1 0 9 (by omega), go_g, if_neg (by omega), if_neg (by omega)]; exact g
    split
    · split
      · show sg (if (sCmd x 11 (sg s2 (2 + o) 8) 0 s2).1 < 0 then (sCmd x 11 (sg s2 (2 + o) 8) 0 s2).2 else sDoom k (sGo o (sg (sCmd x 11 (sg s2 (2 + o) 8) 0 s2).2 (2 + k) 4) (sCmd x 11 (sg s2 (2 + o) 8) 0 s2).2)) 0 9 = _
        have h3 : sg (sCmd x 11 (sg s2 (2 + o) 8) 0 s2).2 0 9 = sg s 0 9 := by rw [cmd_g (by omega)]; exact h2
        split
        · exact h3
        · exact hdm _ _ h3
      · exact hdm _ _ h2
    · rw [(e9_doom (by omega)).1 0 9 (by omega)]; exact h2
theorem ko_drop1 (hq : KO q) : ∀ (n : Nat) (k : Int) (s : TS), sg (sDrop1 x n k s) 0 q = sg s 0 q := by
  intro n
  induction n with
  | zero => intro k s; rfl
  | succ n ih =>
    intro k s
    unfold sDrop1
    split
    · split
      · split
        · rw [ih, ko_cmd hq]
        · exact ih _ _
      · rfl
    · rfl
theorem ko_drop2 (hq : KO q) : ∀ (n : Nat) (k : Int) (s : TS), sg (sDrop2 n k s) 0 q = sg s 0 q := by
  intro n
  induction n with
  | zero => intro k s; rfl
  | succ n ih =>
    intro k s
    unfold sDrop2
    split
    · rfl
    · split
      · exact ih _ _
      · rw [ih, ko_rem hq]
theorem ko_drop (hq : KO q) : sg (sDrop x s) 0 q = sg s 0 q := by
  unfold sDrop
  simp only
  rw [ko_drop2 hq, ko_drop1 hq]
theorem ko_undo (hq : KO q) : sg (sUndo x k s) 0 q = sg s 0 q := by
  unfold sUndo
  split
  · exact ko_go hq
  · rename_i v t hu
    have h := ko_cmd (x := x) (a := 8) (b := v / 1000) (c := v % 1000) (s := stu s t) hq
    generalize hr : sCmd x 8 (v / 1000) (v % 1000) (stu s t) = r at h
    obtain ⟨r, s1⟩ := r
    simp only at h ⊢
    rw [ko_wait hq]
    exact h
theorem ko_patch (hq : KO q) : sg (sPatch x p s).2 0 q = sg s 0 q := by
  unfold sPatch
  split
  · split
    · show sg (sCmd x 12 p 0 _).2 0 q = _
      rw [ko_cmd hq, ko_st hq (by omega)]
    · rfl
  · rfl
theorem ko_bare (hk : 0 ≤ k) (hq : KO q) : sg (sBare k s).2 0 q = sg s 0 q := by
  unfold sBare
  simp only
  generalize (if 0 < sg s (2 + k) 5 then sg s (2 + k) 5 - 1 else 0) = y
  split
  · show sg (st (st s (2 + k) 5 y) (2 + k) 6 0) 0 q = _
    rw [ko_st hq (by omega), ko_st hq (by omega)]
  · show sg (st (st s (2 + k) 5 y) (2 + k) 6 _) 0 q = _
    rw [ko_st hq (by omega), ko_st hq (by omega)]
theorem ko_cw {kd : Int} (hq : KO q) : sg (match sCmd x kd a b s with
    | (r, s1) => sWait k w r s1) 0 q = sg s 0 q := by
  have h := ko_cmd (x := x) (a := kd) (b := a) (c := b) (s := s) hq
  generalize hr : sCmd x kd a b s = r at h
  obtain ⟨r, s1⟩ := r
  simp only at h ⊢
  rw [ko_wait hq]
  exact h
theorem ko_awake (hq : KO q) : sg (sAwake x k s) 0 q = sg s 0 q := by
  unfold sAwake
  split
  · rw [ko_go hq]
    exact ko_st (s := s) (a' := 1) (j' := bOf x (sg s (2 + k) 4)) (v' := (sq s (sg s (2 + k) 8)).headD 0) hq (Or.inl (by decide))
  · exact ko_go hq
/-- behind what ends a run no command is left -/
def OVI (x : CX) (s : TS) (rh : Int) : Prop := sg s 0 9 ≠ 0 → sg s 0 30 = 0 → rh ≤ nc x (sg s 0 12)
variable {rh r : Int}
theorem OVI.zero (h : sg s 0 9 = 0) : OVI x s rh := fun g => absurd h g
theorem cmd_end {m : Int} (hW : SW x s B) (hs : x.1 3 ≤ x.1 0) (h4 : x.1 4 ≠ 1) (ht : ∀ d : Int, 0 ≤ d → d < x.1 0 → (ek (x.2.1 d) = 14 ∨ ek (x.2.1 d) = 15 ∨ ek (x.2.1 d) = 16) → x.1 0 ≤ nc x (d + 1)) (hr : rh ≤ sSeen x s) (hrx : rh ≤ x.1 0) (hm : m = 14 ∨ m = 15 ∨ m = 16) (h30 : sg (sCmd x m a b s).2 0 30 = 0) : rh ≤ nc x (sg (sCmd x m a b s).2 0 12) := by
  have hb := nc_b hW.1.2
  have hse := seen_b (s := s) hs
  have h12 := hW.1
  unfold sCmd at h30 ⊢
  by_cases c1 : nc x (sg s 0 12) < sSeen x s
  · rw [if_pos c1] at h30 ⊢
    by_cases c2 : x.1 4 = 1 ∨ eis (x.2.1 (nc x (sg s 0 12))) m a b = true
    · rw [if_pos c2]
      have e : sg (st (st s 0 12 (nc x (sg s 0 12))) 0 12 (nc x (sg s 0 12) + 1)) 0 12 = nc x (sg s 0 12) + 1 := by rw [st_g, if_pos ⟨rfl, rfl⟩]
      show rh ≤ nc x (sg (st (st s 0 12 (nc x (sg s 0 12))) 0 12 (nc x (sg s 0 12) + 1)) 0 12)
      rw [e]
      have hk := c2.resolve_left h4
      unfold eis at hk
      simp only [Bool.and_eq_true, decide_eq_true_eq] at hk
      have := ht (nc x (sg s 0 12)) (by omega) (by omega) (by omega)
      omega
    · rw [if_neg c2] at h30
      exact absurd h30 u_stuck
  · rw [if_neg c1] at h30 ⊢
    by_cases c2 : sg s 0 10 < x.1 1
    · rw [if_pos c2] at h30
      exact absurd h30 u_stuck
    · rw [if_neg c2]
      have e : sg (st s 0 12 (nc x (sg s 0 12))) 0 12 = nc x (sg s 0 12) := by rw [st_g, if_pos ⟨rfl, rfl⟩]
      show rh ≤ nc x (sg (st s 0 12 (nc x (sg s 0 12))) 0 12)
      rw [e, nc_nc h12.1 h12.2]
      omega
/-- what is known while a run goes on -/
def VH (x : CX) (rh : Int) (s : TS) (B : Int) : Prop := SW x s B ∧ x.1 3 ≤ x.1 0 ∧ x.1 4 ≠ 1 ∧ (∀ d : Int, 0 ≤ d → d < x.1 0 → (ek (x.2.1 d) = 14 ∨ ek (x.2.1 d) = 15 ∨ ek (x.2.1 d) = 16) → x.1 0 ≤ nc x (d + 1)) ∧ rh ≤ sSeen x s ∧ rh ≤ x.1 0
theorem VH.to {s' : TS} (h : VH x rh s B) (hW : SW x s' B) (e : sg s' 0 10 = sg s 0 10) : VH x rh s' B := ⟨hW, h.2.1, h.2.2.1, h.2.2.2.1, by unfold sSeen; rw [e]; exact h.2.2.2.2.1, h.2.2.2.2.2⟩
theorem ov_endR {m : Int} (h : VH x rh s B) (hm : m = 14 ∨ m = 15 ∨ m = 16) : OVI x (sEndR x m a s) rh := by
  obtain ⟨hW, hs, h4, ht, hr, hrx⟩ := h
  have hc := cmd_end (m := m) (a := a) (b := 0) hW hs h4 ht hr hrx hm
  unfold sEndR
  show OVI x (if (sCmd x m a 0 s).1 < 0 then (sCmd x m a 0 s).2 else st (sCmd x m a 0 s).2 0 9 m) rh
  split
  · intro g1 g2; exact hc g2
  · intro g1 g2
    rw [st_g, if_neg (by omega)] at g2
    rw [st_g, if_neg (by omega)]
    exact hc g2
theorem ov_end (h : VH x rh s B) (h0 : sg s 0 9 = 0) : OVI x (sEnd x k s) rh := by
  unfold sEnd
  split
  · exact ov_endR (m := 14) (a := sg s 1 0) h (Or.inl rfl)
  · exact OVI.zero (by rw [ko_rem rfl]; exact h0)
theorem ov_fail (h : VH x rh s B) (h0 : sg s 0 9 = 0) (hk : 0 ≤ k) (hk2 : k < sg s 0 5) : OVI x (sFail x k s) rh := by
  have hb := (h.1.br hk hk2).2.1
  unfold sFail
  split
  · refine OVI.zero ?_
    show sg (sGo k _ (sGo k _ s)) 0 9 = 0
    rw [ko_go rfl, ko_go rfl]; exact h0
  · exact ov_endR (m := 15) (a := 0) (h.to (h.1.go hk hb.1 hb.2) (kp_go (by unfold KQ; omega))) (Or.inr (Or.inl rfl))
theorem ov_line (h : VH x rh s B) (h0 : sg s 0 9 = 0) (hk : 0 ≤ k) (hk2 : k < sg s 0 5) (hl : sg s (2 + k) 4 < x.1 5) (hl2 : x.1 5 ≤ 24) (c0 : 0 ≤ c) (c1 : c ≤ 23) : OVI x (sLine x k c a b s) rh := by
  have h5 := h.1.2.2.2.2.2.2.2.1.1
  have hb4 := (h.1.br hk hk2).2.1
  have g5 : 0 ≤ sg (sGo k (sg s (2 + k) 4 + 1) s) 0 5 := by rw [go_g, if_neg (by omega), if_neg (by omega)]; exact h5
  have hq : KO 9 := rfl
  have hcc : c = 0 ∨ c = 1 ∨ c = 2 ∨ c = 3 ∨ c = 4 ∨ c = 5 ∨ c = 6 ∨ c = 7 ∨ c = 8 ∨ c = 9 ∨ c = 10 ∨ c = 11 ∨ c = 12 ∨ c = 13 ∨ c = 14 ∨ c = 15 ∨ c = 16 ∨ c = 17 ∨ c = 18 ∨ c = 19 ∨ c = 20 ∨ c = 21 ∨ c = 22 ∨ c = 23 := by omega
  rcases hcc with rfl | rfl | rfl | rfl | rfl | rfl | rfl | rfl | rfl | rfl | rfl | rfl | rfl | rfl | rfl | rfl | rfl | rfl | rfl | rfl | rfl | rfl | rfl | rfl
  · rw [sl0]; exact OVI.zero (by rw [ko_go hq, ko_st hq (by omega)]; exact h0)
  · rw [sl1]; exact OVI.zero (by rw [ko_go hq, ko_st hq (by omega)]; exact h0)
  · rw [sl2]; exact OVI.zero ((ko_cw hq).trans h0)
  · rw [sl3]; exact OVI.zero ((ko_cw hq).trans h0)
  · rw [sl4]; exact OVI.zero ((ko_wait hq).trans h0)
  · rw [sl5]; exact OVI.zero ((ko_cw hq).trans h0)
  · rw [sl6]
    split <;> exact OVI.zero ((ko_go hq).trans h0)
  · rw [sl7]; exact OVI.zero ((ko_go hq).trans h0)
  · rw [sl8]; exact OVI.zero (by rw [ko_below g5 hq, ko_go hq]; exact h0)
  · rw [sl9]; exact OVI.zero ((ko_wait hq).trans h0)
  · rw [sl10]; exact OVI.zero (by rw [ko_race g5 hk hq, ko_go hq]; exact h0)
  · rw [sl11]; exact OVI.zero (by rw [ko_drop hq, ko_win hk hq, ko_go hq]; exact h0)
  · rw [sl12]; exact OVI.zero ((ko_go hq).trans h0)
  · rw [sl13]; exact OVI.zero ((ko_go hq).trans h0)
  · rw [sl14]; exact OVI.zero ((ko_go (s := stu s _) hq).trans h0)
  · rw [sl15]; exact OVI.zero ((ko_undo hq).trans h0)
  · rw [sl16]; exact ov_end h h0
  · rw [sl17]; exact ov_fail h h0 hk hk2
  · rw [sl18]; exact ov_endR (m := 16) (a := sg s 1 a) h (Or.inr (Or.inr rfl))
  · rw [sl19]
    have hp := ko_patch (x := x) (p := a) (s := s) hq
    generalize hr : sPatch x a s = r at hp
    obtain ⟨r, s1⟩ := r
    simp only at hp ⊢
    exact OVI.zero (by rw [ko_go hq, hp]; exact h0)
  · rw [sl20]; exact OVI.zero (by rw [ko_go hq, ko_st hq (by omega)]; exact h0)
  · rw [sl21]; exact OVI.zero (by rw [ko_go hq, ko_st hq (by omega)]; exact h0)
  · rw [sl22]
    have hb := ko_bare (k := k) (s := s) hk hq
    have hw := w_bare hk hk2 h.1
    have h10 : sg (sBare k s).2 0 10 = sg s 0 10 := kp_bare hk (by unfold KQ; omega)
    generalize hr : sBare k s = r at hb hw h10
    obtain ⟨r, s1⟩ := r
    simp only at hb hw h10 ⊢
    have w2 := hw.1.go (l := sg s (2 + k) 4 + 1) hk (by omega) (by omega)
    cases r with
    | false => exact OVI.zero (by show sg (sGo k _ s1) 0 9 = 0; rw [ko_go hq, hb]; exact h0)
    | true => exact ov_fail (h.to w2 (by rw [kp_go (by unfold KQ; omega)]; exact h10)) (by rw [ko_go hq, hb]; exact h0) hk (by rw [go_g, if_neg (by omega), if_neg (by omega), hw.2]; exact hk2)
  · rw [sl23]; exact OVI.zero (by rw [ko_go hq, ko_cmd hq]; exact h0)
theorem ov_turn (hx : CodeW x) (h : VH x rh s B) (h0 : sg s 0 9 = 0) (hk : 0 ≤ k) (hk2 : k < sg s 0 5) (hl2 : x.1 5 ≤ 24) : OVI x (sTurn x k s) rh := by
  have hb4 := (h.1.br hk hk2).2.1
  unfold sTurn
  split
  · exact OVI.zero ((ko_awake rfl).trans h0)
  · split
    · exact ov_end h h0
    · split
      · exact OVI.zero ((ko_stuck rfl).trans h0)
      · rename_i g1 g2 g3
        have h29 := h.1.2.2.2.2.2.2.1
        have v1 := (h.1.s29 (v := sg s 0 29 + 1) (by omega) (by omega)).s0 (j := 40) (v := sg s 0 40 + 1) (by decide) (by decide) (by decide) (by decide) (by decide) (Or.inl (by decide))
        have es : ∀ p q : Int, (p ≠ 0 ∨ (q ≠ 29 ∧ q ≠ 40)) → sg (st (st s 0 29 (sg s 0 29 + 1)) 0 40 (sg s 0 40 + 1)) p q = sg s p q := fun p q hh => by rw [st_g, if_neg (by omega), st_g, if_neg (by omega)]
        have hL := hx (sg s (2 + k) 4) hb4.1 (by omega)
        exact ov_line (h.to v1 (es _ _ (by omega))) (by rw [es _ _ (by omega)]; exact h0) hk (by rw [es _ _ (by omega)]; exact hk2) (by rw [es _ _ (by omega)]; omega) hl2 hL.1 hL.2.1
theorem ov_tell (hs : x.1 3 ≤ x.1 0) : ∀ (n : Nat) (k : Int) (s : TS), 0 ≤ k → VH x rh s B → OVI x s rh → OVI x (sTell x n k s) rh := by
  intro n
  induction n with
  | zero => intro k s _ _ h; exact h
  | succ n ih =>
    intro k s k0 h ho
    rw [tell_u]
    split
    · rename_i k1
      split
      · rename_i hg
        have h9 := (goes_s hg).2
        split
        · exact ih _ _ (by omega) (h.to (h.1.s6 k0 (Or.inl rfl)) (by rw [st_g, if_neg (by omega)])) (OVI.zero (by rw [st_g, if_neg (by omega)]; exact h9))
        · have hc : VH x rh (sCan x k s) B := h.to (w_can hs k0 k1 h.1) (can_g (by omega) (Or.inr (by decide)))
          refine ih _ _ (by omega) hc ?_
          unfold sCan
          split
          · split
            · exact OVI.zero (by rw [ko_cmd rfl]; exact h9)
            · exact ov_fail (h.to (h.1.cmd hs) (cmd_g (by omega))) (by rw [ko_cmd rfl]; exact h9) k0 (by rw [cmd_g (by omega)]; exact k1)
          · exact ov_fail h h9 k0 k1
      · exact ho
    · exact ho
theorem ov_note {kd : Int} (hs : x.1 3 ≤ x.1 0) (h : VH x rh s B) (h0 : sg s 0 9 = 0) : OVI x (sNote x kd a b s) rh := by
  have h5 := h.1.2.2.2.2.2.2.2.1.1
  have hwb := wtr_b (s := s) (e := a)
  have hq : KO 9 := rfl
  have fl : OVI x (sFailed x (wtr s a) s) rh := by
    unfold sFailed
    by_cases c : wtr s a < 0
    · rw [if_pos c]; exact OVI.zero h0
    · obtain ⟨w0, w1, w2, w3⟩ := hwb.resolve_left (by omega)
      rw [if_neg c]
      split
      · exact OVI.zero ((ko_go hq).trans h0)
      · exact ov_fail h h0 w0 w1
  unfold sNote
  split
  · exact OVI.zero (by rw [ko_begin (by rw [st_g, if_neg (by omega), st_g, if_neg (by omega)]; exact h5) hq, ko_st hq (by omega), ko_st hq (by omega)]; exact h0)
  · split
    · exact fl
    · split
      · exact fl
      · split
        · exact OVI.zero (by rw [ko_st hq (by omega)]; exact h0)
        · split
          · exact ov_tell hs 13 0 _ (by decide) (h.to (h.1.s0 (by decide) (by decide) (by decide) (by decide) (by decide) (Or.inl (by decide))) (by rw [st_g, if_neg (by omega)])) (OVI.zero (by rw [st_g, if_neg (by omega)]; exact h0))
          · unfold sEnded
            split
            · exact OVI.zero h0
            · split
              · exact OVI.zero ((ko_go hq).trans h0)
              · split
                · exact OVI.zero ((ko_go hq).trans h0)
                · exact OVI.zero (by rw [ko_go hq, ko_st hq (by omega)]; exact h0)
theorem ov_on (hx : CodeW x) (hN : 0 ≤ x.1 0) (hl2 : x.1 5 ≤ 24) : ∀ (n : Nat) (s : TS) (B : Int), VH x rh s B → TkW x s → OVI x s rh → OVI x (sOn x n s) rh := by
  intro n
  induction n with
  | zero => intro s B _ _ h; exact h
  | succ n ih =>
    intro s B h hT ho
    have h5 := h.1.2.2.2.2.2.2.2.1
    show OVI x (if first s < 0 then s else if goes s then sOn x n (sTurn x (first s) s) else s) rh
    rcases first_b (s := s) with g | ⟨g1, g2, g3⟩
    · rw [if_pos (by omega)]; exact ho
    · rw [if_neg (by omega)]
      split
      · rename_i hg
        have e28 : sg (sTurn x (first s) s) 0 28 = sg s 0 28 := kp_turn h5.1 g1 (by unfold KQ; omega)
        have e10 : sg (sTurn x (first s) s) 0 10 = sg s 0 10 := kp_turn h5.1 g1 (by unfold KQ; omega)
        have hW2 := w_turn hx h.2.1 hN hl2 g1 g2 hT g3 h.1
        refine ih _ (B + 1) ⟨hW2, h.2.1, h.2.2.1, h.2.2.2.1, by unfold sSeen; rw [e10]; exact h.2.2.2.2.1, h.2.2.2.2.2⟩ (by unfold TkW at hT ⊢; rw [e28]; exact hT) (ov_turn hx h (goes_s hg).2 g1 g2 hl2)
      · exact ho
end KO1
