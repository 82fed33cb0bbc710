/-! THE TELLING in the reference: what only grows; TASKs behind a run's end. -/
section RF26
variable {m0 m m' M : MM} {x : CX} {s s' s1 s2 : TS} {B H : Int} {a b c e i j v k h n l w p r t o q rh E ty ver rc kd : Int} {G : Int → Nat} {Q : TS → Prop}
theorem note_kr (h5 : 0 ≤ sg s 0 5) : sg s 0 40 ≤ sg (sNote x kd a b s) 0 40 ∧ sg s 0 41 ≤ sg (sNote x kd a b s) 0 41 ∧ sg (sNote x kd a b s) 0 29 = sg s 0 29 := by
  have fl : ∀ q, KR q → sg (sFailed x (wtr s a) s) 0 q = sg s 0 q := fun q hq => by
    unfold sFailed
    split
    · rfl
    · split
      · exact kr_go hq
      · exact kr_fail (by omega) hq
  have h40 : KR 40 := by unfold KR; omega
  have h41 : KR 41 := by unfold KR; omega
  have h29 : KR 29 := by unfold KR; omega
  unfold sNote
  split
  · have e5 : 0 ≤ sg (st (st s 1 0 a) 0 40 (sg s 0 40 + 1)) 0 5 := by rw [st_g, if_neg (by omega), st_g, if_neg (by omega)]; exact h5
    rw [kr_begin e5 h40, kr_begin e5 h41, kr_begin e5 h29, st_g, if_pos ⟨rfl, rfl⟩, st_g, if_neg (by omega), st_g, if_neg (by omega), st_g, if_neg (by omega), st_g, if_neg (by omega)]
    exact ⟨by omega, Int.le_refl _, rfl⟩
  · split
    · rw [fl 40 h40, fl 41 h41, fl 29 h29]; exact ⟨Int.le_refl _, Int.le_refl _, rfl⟩
    · split
      · rw [fl 40 h40, fl 41 h41, fl 29 h29]; exact ⟨Int.le_refl _, Int.le_refl _, rfl⟩
      · split
        · rw [st_g, if_neg (by omega), st_g, if_pos ⟨rfl, rfl⟩, st_g, if_neg (by omega)]
          exact ⟨Int.le_refl _, by omega, rfl⟩
        · split
          · rw [kr_tell h40 _ _ _ (by decide), kr_tell h41 _ _ _ (by decide), kr_tell h29 _ _ _ (by decide), st_g, if_neg (by omega), st_g, if_neg (by omega), st_g, if_neg (by omega)]
            exact ⟨Int.le_refl _, Int.le_refl _, rfl⟩
          · have en : ∀ q, KR q → sg (sEnded x (wtr s a) kd b s) 0 q = sg s 0 q := fun q hq => by
              unfold sEnded
              split
              · rfl
              · split
                · exact kr_go hq
                · split
                  · exact kr_go hq
                  · rw [kr_go hq]; exact kr_st hq (Or.inl (by decide))
            rw [en 40 h40, en 41 h41, en 29 h29]
            exact ⟨Int.le_refl _, Int.le_refl _, rfl⟩
theorem on_41 : ∀ (n : Nat) (s : TS), (∀ i : Nat, 0 ≤ sg (sOn x i s) 0 5) → sg (sOn x n s) 0 41 = sg s 0 41 := by
  intro n
  induction n with
  | zero => intro s _; rfl
  | succ n ih =>
    intro s hi
    show sg (if first s < 0 then s else if goes s then sOn x n (sTurn x (first s) s) else s) 0 41 = _
    by_cases c1 : first s < 0
    · rw [if_pos c1]
    · rw [if_neg c1]
      by_cases c2 : goes s = true
      · rw [if_pos c2]
        have hch : ∀ i : Nat, sOn x (i + 1) s = sOn x i (sTurn x (first s) s) := fun i => by
          show (if first s < 0 then s else if goes s then sOn x i (sTurn x (first s) s) else s) = _
          rw [if_neg c1, if_pos c2]
        rw [ih _ fun i => by rw [← hch i]; exact hi _]
        exact turn_41 (hi 0) (by omega)
      · rw [if_neg c2]
theorem on_kp (hq : KQ q) : ∀ (n : Nat) (s : TS), (∀ i : Nat, 0 ≤ sg (sOn x i s) 0 5) → sg (sOn x n s) 0 q = sg s 0 q := by
  intro n
  induction n with
  | zero => intro s _; rfl
  | succ n ih =>
    intro s hi
    show sg (if first s < 0 then s else if goes s then sOn x n (sTurn x (first s) s) else s) 0 q = _
    by_cases c1 : first s < 0
    · rw [if_pos c1]
    · rw [if_neg c1]
      by_cases c2 : goes s = true
      · rw [if_pos c2]
        have hch : ∀ i : Nat, sOn x (i + 1) s = sOn x i (sTurn x (first s) s) := fun i => by
          show (if first s < 0 then s else if goes s then sOn x i (sTurn x (first s) s) else s) = _
          rw [if_neg c1, if_pos c2]
        rw [ih _ fun i => by rw [← hch i]; exact hi _]
        exact kp_turn (hi 0) (by omega) hq
      · rw [if_neg c2]
/-- what holds all the time, of the code and the history -/
def CXX (x : CX) : Prop := CxW x ∧ x.1 5 ≤ 24 ∧ x.1 4 ≠ 1 ∧ XI x ∧ (0 ≤ x.1 0 ∧ x.1 0 ≤ 458752)
def sTaken (x : CX) (i : Int) (s : TS) : TS := sOn x 1000 (sNote x (ek (x.2.1 i)) (ex (x.2.1 i)) (ey (x.2.1 i)) (st (st (st s 0 28 i) 0 11 (i + 1)) 0 29 0))
theorem take_d : sTake x i s = sPass x (x.1 0 - sg (sTaken x i s) 0 13 + 1).toNat (sg (sTaken x i s) 0 13) (st (sTaken x i s) 0 10 (sg (sTaken x i s) 0 10 + 1)) := rfl
/-- what is taken keeps what holds -/
theorem taken_all (hC : CXX x) (hP : BP x s B) (i0 : sg s 0 11 ≤ i) (i1 : i < x.1 0) (hi7 : ek (x.2.1 i) ≤ 7) : SW x (sTaken x i s) (B + 1001) ∧ OW (sTaken x i s) ∧ TkW x (sTaken x i s) ∧ sg (sTaken x i s) 0 10 = sg s 0 10 ∧ sg (sTaken x i s) 0 11 = i + 1 ∧ sg (sTaken x i s) 0 13 = sg s 0 13 ∧ sg s 0 40 ≤ sg (sTaken x i s) 0 40 ∧ sg s 0 41 ≤ sg (sTaken x i s) 0 41 ∧ nl s ≤ nl (sTaken x i s) ∧ PI (sTaken x i s) ∧ WK x (sTaken x i s) := by
  obtain ⟨hW, hPI, hK, hO, hBt⟩ := hP
  obtain ⟨⟨hcw, har, hs⟩, hx5, h4, hXI, hN0⟩ := hC
  have ii0 : 0 ≤ i := by have := hBt.1.1; omega
  obtain ⟨ay, asig, ast, aw⟩ := har i ii0 i1 hi7
  have h5 := hW.2.2.2.2.2.2.2.1
  have eb : ∀ a j : Int, (a ≠ 0 ∨ (j ≠ 28 ∧ j ≠ 11 ∧ j ≠ 29)) → sg (st (st (st s 0 28 i) 0 11 (i + 1)) 0 29 0) a j = sg s a j := fun a j hh => by rw [st_g, if_neg (by omega), st_g, if_neg (by omega), st_g, if_neg (by omega)]
  have hWb : SW x (st (st (st s 0 28 i) 0 11 (i + 1)) 0 29 0) B := ((hW.s0 (by decide) (by decide) (by decide) (by decide) (by decide) (Or.inl (by decide))).s0 (by decide) (by decide) (by decide) (by decide) (by decide) (Or.inl (by decide))).s29 (by decide) (by decide)
  have hPb : PI (st (st (st s 0 28 i) 0 11 (i + 1)) 0 29 0) := hPI.of hW.2.2.2.2.2.1.1 fun a j hh => eb a j (by omega)
  have hKb : WK x (st (st (st s 0 28 i) 0 11 (i + 1)) 0 29 0) := hK.same (fun a j hh => eb a j (by omega)) rfl
  have hOb : OW (st (st (st s 0 28 i) 0 11 (i + 1)) 0 29 0) := hO.of fun a j hh => eb a j (by omega)
  have hnok : NoteOk (st (st (st s 0 28 i) 0 11 (i + 1)) 0 29 0) (ek (x.2.1 i)) (ex (x.2.1 i)) (ey (x.2.1 i)) := by
    refine ⟨⟨Int.natCast_nonneg _, ay⟩, fun z => ?_, fun z => ⟨Int.natCast_nonneg _, asig z⟩⟩
    obtain ⟨z1, z2⟩ := ast z
    exact ⟨Int.natCast_nonneg _, z1, by rw [eb _ _ (by omega), hBt.2.2.1 (by have := hBt.1.1; omega)]; decide⟩
  obtain ⟨n1, n2, n3, n4⟩ := note_all hs hWb hPb hKb hOb hnok hx5
  have b5 : 0 ≤ sg (st (st (st s 0 28 i) 0 11 (i + 1)) 0 29 0) 0 5 := by rw [eb _ _ (by omega)]; exact h5.1
  obtain ⟨k1, k2, k3⟩ := note_kr (x := x) (kd := ek (x.2.1 i)) (a := ex (x.2.1 i)) (b := ey (x.2.1 i)) b5
  have k4 : ∀ q, KQ q → sg (sNote x (ek (x.2.1 i)) (ex (x.2.1 i)) (ey (x.2.1 i)) (st (st (st s 0 28 i) 0 11 (i + 1)) 0 29 0)) 0 q = sg (st (st (st s 0 28 i) 0 11 (i + 1)) 0 29 0) 0 q := fun q hq => kp_note b5 hq
  have k5 := nl_note (x := x) (k := ek (x.2.1 i)) (a := ex (x.2.1 i)) (b := ey (x.2.1 i)) (s := st (st (st s 0 28 i) 0 11 (i + 1)) 0 29 0)
  have e28 : sg (sNote x (ek (x.2.1 i)) (ex (x.2.1 i)) (ey (x.2.1 i)) (st (st (st s 0 28 i) 0 11 (i + 1)) 0 29 0)) 0 28 = i := by rw [k4 28 (by unfold KQ; omega), st_g, if_neg (by omega), st_g, if_neg (by omega), st_g, if_pos ⟨rfl, rfl⟩]
  have e29 : sg (st (st (st s 0 28 i) 0 11 (i + 1)) 0 29 0) 0 29 = 0 := by rw [st_g, if_pos ⟨rfl, rfl⟩]
  have e11 : sg (st (st (st s 0 28 i) 0 11 (i + 1)) 0 29 0) 0 11 = i + 1 := by rw [st_g, if_neg (by omega), st_g, if_pos ⟨rfl, rfl⟩]
  have hTk : TkW x (sNote x (ek (x.2.1 i)) (ex (x.2.1 i)) (ey (x.2.1 i)) (st (st (st s 0 28 i) 0 11 (i + 1)) 0 29 0)) := by
    unfold TkW
    rw [e28]
    exact ⟨ii0, i1, aw⟩
  unfold sTaken
  have hall := on_all hcw hs hN0.1 hx5 1000 _ _ n1 hTk n4
  have h5i : ∀ j : Nat, 0 ≤ sg (sOn x j (sNote x (ek (x.2.1 i)) (ex (x.2.1 i)) (ey (x.2.1 i)) (st (st (st s 0 28 i) 0 11 (i + 1)) 0 29 0))) 0 5 := fun j => (on_all hcw hs hN0.1 hx5 j _ _ n1 hTk n4).1.2.2.2.2.2.2.2.1.1
  have o40 := on_40 (x := x) 1000 _ n1.2.2.2.2.2.2.2.1.1 h5i
  have o29 := hall.1.2.2.2.2.2.2.1
  have hpw : ∀ (n : Nat) (s : TS) (B : Int), SW x s B → TkW x s → PI s → WK x s → PI (sOn x n s) ∧ WK x (sOn x n s) := by
    intro n
    induction n with
    | zero => intro s B _ _ p q; exact ⟨p, q⟩
    | succ n ih =>
      intro s B hW hT p q
      show PI (if first s < 0 then s else if goes s then sOn x n (sTurn x (first s) s) else s) ∧ WK x (if first s < 0 then s else if goes s then sOn x n (sTurn x (first s) s) else s)
      rcases first_b (s := s) with g | ⟨g1, g2, g3⟩
      · rw [if_pos (by omega)]; exact ⟨p, q⟩
      · rw [if_neg (by omega)]
        split
        · have e28 : sg (sTurn x (first s) s) 0 28 = sg s 0 28 := kp_turn hW.2.2.2.2.2.2.2.1.1 g1 (by unfold KQ; omega)
          exact ih _ (B + 1) (w_turn hcw hs hN0.1 hx5 g1 g2 hT g3 hW) (by unfold TkW at hT ⊢; rw [e28]; exact hT) (p.turn hcw hs hx5 hW g1 g2) (q.turn hcw hs h4 hx5 hW g1 g2)
        · exact ⟨p, q⟩
  obtain ⟨hp1, hp2⟩ := hpw 1000 _ _ n1 hTk n2 n3
  refine ⟨hall.1.mono (by omega), hall.2.1, hall.2.2, ?_, ?_, ?_, ?_, ?_, Int.le_trans k5 (nl_on _ _), hp1, hp2⟩
  · rw [on_kp (by unfold KQ; omega) _ _ h5i, k4 10 (by unfold KQ; omega), eb _ _ (by omega)]
  · rw [on_kp (by unfold KQ; omega) _ _ h5i, k4 11 (by unfold KQ; omega), e11]
  · rw [on_kp (by unfold KQ; omega) _ _ h5i, k4 13 (by unfold KQ; omega), eb _ _ (by omega)]
  · rw [eb 0 40 (by omega)] at k1
    omega
  · rw [on_41 _ _ h5i]
    rw [eb 0 41 (by omega)] at k2
    exact k2
theorem pass_st29 : ∀ (n : Nat) (i : Int) (s : TS), sPass x n i (st s 0 29 v) = st (sPass x n i s) 0 29 v := by
  intro n
  induction n with
  | zero => intro i s; rfl
  | succ n ih =>
    intro i s
    have e : ∀ q : Int, q ≠ 29 → sg (st s 0 29 v) 0 q = sg s 0 q := fun q hq => by rw [st_g, if_neg (by omega)]
    have e13 : st (st s 0 29 v) 0 13 i = st (st s 0 13 i) 0 29 v := st_comm (Or.inr (by decide))
    have est : ∀ z, sStuck (st s 0 29 v) z = st (sStuck s z) 0 29 v := fun z => by
      unfold sStuck
      rw [st_comm (a := 0) (i := 29) (b := 0) (j := 30) (Or.inr (by decide)), st_comm (a := 0) (i := 29) (b := 0) (j := 31) (Or.inr (by decide))]
    unfold sPass
    rw [e 30 (by decide), e 10 (by decide), e 12 (by decide), e13, est]
    split
    · split
      · split
        · split
          · rfl
          · split
            · exact ih _ _
            · exact ih _ _
        · exact ih _ _
      · rfl
    · rfl
/-- a TASK behind the end of a run -/
theorem gby_over (R : RC m0 x G r ty ver rh rc) (hr : 0 ≤ rh ∧ rh ≤ x.1 0) (h12 : 0 ≤ sg s 0 12 ∧ sg s 0 12 ≤ x.1 0) (h30 : sg s 0 30 = 0) (ho : rh ≤ nc x (sg s 0 12)) : ∀ (n f : Nat) (i : Int) (m : MM), 0 ≤ i → i ≤ rh → rh - i < n → n ≤ f → RR m0 m x s rh E H → m 68 126 = i → ∃ m', fl_X12_goesBy_0 p f m = some (0, m') ∧ RR m0 m' x s rh E H ∧ 0 ≤ m' 68 126 ∧ m' 68 126 ≤ rh := by
  intro n
  induction n with
  | zero => intro f i m h0 h1 h2; omega
  | succ n ih =>
    intro f i m h0 h1 h2 h3 h hi
    obtain ⟨f, rfl⟩ : ∃ g, f = g + 1 := ⟨f - 1, by omega⟩
    have R1 := R.to h.1
    have hNN := R.2.2.2.2.2.2.2.2.1
    have e124 := R1.2.2.2.2.2.2.1.1
    have e114 : m 68 114 = 0 := by rw [h.2.1.2.2.2.2.2.2.1]; exact h30
    unfold fl_X12_goesBy_0
    simp only [lx_p]
    rw [hi, e124, e114, R1.1.1]
    by_cases c1 : i < rh
    · have hiN : i < x.1 0 := by omega
      rw [if_pos c1, if_pos rfl, bp_t (rkind R1 h0 hiN), bp_t (rx R1 h0 hiN)]
      have h87 : ∀ (M : MM), RR m0 M x s rh E H → M 68 126 = i → ∃ m', fj_X12_goesBy_87 (fl_X12_goesBy_0 p f) p M = some (0, m') ∧ RR m0 m' x s rh E H ∧ 0 ≤ m' 68 126 ∧ m' 68 126 ≤ rh := by
        intro M q1 q5
        have hR2 : RR m0 (mset M 68 126 (i + 1)) x s rh E H := by
          rcases RE.p126 (v := i + 1) (Or.inl ⟨h30, q1⟩ : RE m0 M x s rh E H) with ⟨-, g⟩ | g
          · exact g
          · have := g.2.1; omega
        obtain ⟨m', z1, z2, z3⟩ := ih f (i + 1) (mset M 68 126 (i + 1)) (by omega) (by omega) (by omega) (by omega) hR2 ms_e
        refine ⟨m', ?_, z2, z3⟩
        unfold fj_X12_goesBy_87
        rw [lx_p, q5, w32_id (by omega) (by omega), up_t]
        exact z1
      unfold fj_X12_goesBy_51
      simp only [lx_p]
      rw [R1.1.1, hi, bp_t (rkind R1 h0 hiN)]
      by_cases c2 : ek (x.2.1 i) = 17
      · rw [if_pos c2, if_pos c2]
        by_cases c3 : p < ex (x.2.1 i)
        · rw [if_pos c3]
          exact ⟨m, rfl, h, by omega, by omega⟩
        · rw [if_neg c3]
          obtain ⟨m1, z, f1, f2, f3, f4, f5, f6⟩ := next_rr h R h12 h30
          have e126 : m1 68 126 = i := by rw [f6, ms_j (by decide)]; exact hi
          have hnz : ¬ z < i := fun g => by
            have := f3.mp (by omega)
            omega
          rw [bd_t f1, e126, if_neg hnz]
          exact h87 m1 f2 e126
      · rw [if_neg c2, if_neg c2]
        exact h87 m h hi
    · rw [if_neg c1]
      exact ⟨m, rfl, h, by omega, by omega⟩
end RF26
