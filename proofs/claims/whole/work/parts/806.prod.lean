/-! THE TELLING, plain: what an arrival costs: lines; signals that are consumed. -/
section PRD
variable {x : CX} {s s' s1 s2 : TS} {B : Int} {a b c d e i j v k h l w p r t o q u kd ω κ γ : Int} {F T Z : Prop} {Ok : TS → Prop}
theorem sfind_same (h5 : sg s' 0 5 = sg s 0 5) (hb : ∀ k q : Int, 0 ≤ k → sg s' (2 + k) q = sg s (2 + k) q) : ∀ (n : Nat) (k : Int), 0 ≤ k → sFind s' j v n k = sFind s j v n k := by
  intro n
  induction n with
  | zero => intro k _; rfl
  | succ n ih =>
    intro k k0
    unfold sFind
    rw [h5, hb k _ k0, ih (k + 1) (by omega)]
theorem able_same (h5 : sg s' 0 5 = sg s 0 5) (hb : ∀ k q : Int, 0 ≤ k → sg s' (2 + k) q = sg s (2 + k) q) (hq : sg s (2 + k) 7 = 3 → sq s' (sg s (2 + k) 8) = sq s (sg s (2 + k) 8)) (k0 : 0 ≤ k) : sAble s' k = sAble s k := by
  unfold sAble
  rw [hb k _ k0, hb k _ k0, hb k _ k0]
  split
  · rfl
  · split
    · rename_i c; rw [hq c]
    · unfold hasKid
      rw [sfind_same h5 hb _ _ (by decide)]
theorem first_same (h5 : sg s' 0 5 = sg s 0 5) (hb : ∀ k q : Int, 0 ≤ k → sg s' (2 + k) q = sg s (2 + k) q) (hq : ∀ n : Int, sq s' n = sq s n) : first s' = first s := by
  have key : ∀ (n : Nat) (k : Int), 0 ≤ k → sFirst s' n k = sFirst s n k := by
    intro n
    induction n with
    | zero => intro k _; rfl
    | succ n ih =>
      intro k k0
      unfold sFirst
      rw [h5, able_same h5 hb (fun _ => hq _) k0, ih (k + 1) (by omega)]
  exact key 12 0 (by decide)
theorem sfirst_f : ∀ (n : Nat) (k : Int), 0 ≤ k → sFirst s n k < 0 → ∀ j : Int, k ≤ j → j < k + n → j < sg s 0 5 → sAble s j = false := by
  intro n
  induction n with
  | zero => intro k _ _ j h1 h2; omega
  | succ n ih =>
    intro k k0 h j h1 h2 h3
    unfold sFirst at h
    rw [if_pos (by omega)] at h
    by_cases c : sAble s k = true
    · rw [if_pos c] at h; omega
    · rw [if_neg c] at h
      by_cases cj : j = k
      · rw [cj]; exact Bool.eq_false_iff.mpr c
      · exact ih (k + 1) (by omega) h j (by omega) (by omega) h3
theorem first_f (h : first s < 0) (h5 : sg s 0 5 ≤ 12) (j0 : 0 ≤ j) (j1 : j < sg s 0 5) : sAble s j = false := sfirst_f 12 0 (by decide) h j j0 (by omega) j1
/-- how many signals were consumed -/
def cns (s : TS) : Int := sg s 0 41 - Qn s
def f00 : Int → Int → Int → Int := fun _ _ _ => 0
def g00 : Int → Int → Int → Int → Int := fun _ _ _ _ => 0
theorem pc00 : PC x f00 g00 (-1) 0 F T Z :=
  ⟨⟨trivial, Int.le_refl _⟩, fun _ _ _ _ => ⟨rfl, Int.le_refl _⟩, fun _ _ _ _ _ _ _ _ _ => Int.le_refl _, fun _ _ _ _ _ _ => Int.le_refl _, fun _ _ _ => ⟨Int.le_refl _, Int.le_refl _, by show (0 : Int) + -1 ≤ 0; decide, Int.le_refl _⟩, fun _ _ _ _ _ _ => Int.le_refl _, fun _ _ _ _ _ _ _ _ _ _ _ => ⟨fun _ _ => Int.le_refl _, fun _ _ => Int.le_refl _, fun _ => Int.le_refl _⟩, fun _ _ _ _ _ _ _ _ _ _ => Int.le_refl _⟩
theorem pd00 : PD x f00 g00 F T (fun _ => 0) 0 := ⟨Int.le_refl _, fun _ _ _ _ _ _ _ _ _ => Int.le_refl _, fun _ _ _ _ _ _ _ _ _ => ⟨fun _ _ _ _ _ => Int.le_refl _, fun _ => Int.le_refl _⟩⟩
theorem iE_0 {E : Int → Ev} : ∀ n : Nat, iE g00 E n = 0 := by
  intro n
  induction n with
  | zero => rfl
  | succ n ih =>
    show iE g00 E n + (if _ then _ else _) = 0
    rw [ih]
    split <;> rfl
theorem iL_0 : ∀ (L : List (Int × Int × Int)) (r : Int), iL g00 r L = 0 := by
  intro L
  induction L with
  | nil => intro r; rfl
  | cons z L ih =>
    intro r
    show (0 : Int) + iL g00 (r + 1) L = 0
    rw [ih]
    decide
theorem pF_0 : ∀ (n : Nat) (k : Int), pF f00 s n k = 0 := by
  intro n
  induction n with
  | zero => intro k; rfl
  | succ n ih =>
    intro k
    show pv f00 s k + pF f00 s n (k + 1) = 0
    rw [ih]
    unfold pv f00
    split <;> rfl
theorem pz00 : PZ f00 g00 (-1) 0 x s = -cns s := by
  unfold PZ pI cns
  rw [iE_0, iL_0, pF_0, Int.zero_mul]
  omega
theorem cns_on (hH : QH x B F T s) (hx : CodeW x) (hs : x.1 3 ≤ x.1 0) (h4 : x.1 4 ≠ 1) (hN : 0 ≤ x.1 0) (hl2 : x.1 5 ≤ 24) {n : Nat} (hT : TkW x s) (h30 : sg (sOn x n s) 0 30 = 0) : cns s ≤ cns (sOn x n s) := by
  have := (pz_on (Z := True) pc00 trivial hx hs h4 hN hl2 n s B hH hT h30).1
  rw [pz00, pz00] at this
  omega
theorem cns_take (hC : CXX x) (hP : BP x s B) (hJ : JJ x F T s) (hg : goes s = true) (i0 : sg s 0 11 ≤ i) (i1 : i < x.1 0) (hi7 : ek (x.2.1 i) ≤ 7) (h30 : sg (sTake x i s) 0 30 = 0) : cns s ≤ cns (sTake x i s) := by
  have := (pz_take (Z := True) pc00 trivial pd00 hC hP hJ hg i0 i1 hi7 h30).1
  rw [pz00, pz00] at this
  have e : nK f00 0 (fun _ => 0) 0 s (ek (x.2.1 i)) (ex (x.2.1 i)) = 0 := by
    unfold nK
    split
    · rfl
    · split
      · rfl
      · split
        · rfl
        · split <;> rfl
  rw [e] at this
  omega
theorem note_40 (h0 : kd ≠ 0) (h5 : 0 ≤ sg s 0 5) : sg (sNote x kd a b s) 0 40 = sg s 0 40 := by
  have hwb := wtr_b (s := s) (e := a)
  have fl : sg (sFailed x (wtr s a) s) 0 40 = sg s 0 40 := by
    unfold sFailed
    by_cases c : wtr s a < 0
    · rw [if_pos c]
    · rw [if_neg c]
      split
      · exact kr_go (by unfold KR; omega)
      · exact kr_fail (by omega) (by unfold KR; omega)
  unfold sNote
  rw [if_neg h0]
  split
  · exact fl
  · split
    · exact fl
    · split
      · rw [st_g, if_neg (by omega)]; rfl
      · split
        · rw [kr_tell (by unfold KR; omega) _ _ _ (by decide), st_g, if_neg (by omega)]
        · unfold sEnded
          by_cases c : wtr s a < 0
          · rw [if_pos c]
          · rw [if_neg c]
            split
            · exact kr_go (by unfold KR; omega)
            · split
              · exact kr_go (by unfold KR; omega)
              · rw [kr_go (by unfold KR; omega), st_g, if_neg (by omega)]
theorem begin_40 (h5 : 0 ≤ sg s 0 5) : sg (sBegin (-1) 0 (st (st s 1 0 a) 0 40 (sg s 0 40 + 1))) 0 40 = sg s 0 40 + 1 := by
  have e5 : sg (st (st s 1 0 a) 0 40 (sg s 0 40 + 1)) 0 5 = sg s 0 5 := by rw [st_g, if_neg (by omega), st_g, if_neg (by omega)]
  rw [begin_g (by decide), if_neg (by omega), if_neg (by omega), if_neg (by omega), st_g, if_pos ⟨rfl, rfl⟩]
/-- so many lines an arrival costs -/
def lnK (x : CX) (i : Int) (s s' : TS) : Int := if ek (x.2.1 i) = 0 then 61 else if ek (x.2.1 i) = 4 then 60 * (cns s' - cns s) else if ek (x.2.1 i) = 7 then 60 else if wtr s (ex (x.2.1 i)) < 0 then 0 else 60
theorem ln_take (hC : CXX x) (hP : BP x s B) (hJ : JJ x F T s) (hg : goes s = true) (hf : first s < 0) (i0 : sg s 0 11 ≤ i) (i1 : i < x.1 0) (hi7 : ek (x.2.1 i) ≤ 7) (h30 : sg (sTake x i s) 0 30 = 0) : sg (sTake x i s) 0 40 ≤ sg s 0 40 + lnK x i s (sTake x i s) ∧ (first (sTake x i s) < 0 ∨ ¬ goes (sTake x i s) = true) := by
  obtain ⟨hcx, hx5, h4, hXI, hN0⟩ := id hC
  obtain ⟨hcw, har, hs⟩ := hcx
  have hcn := cns_take hC hP hJ hg i0 i1 hi7 h30
  obtain ⟨t1, v, t2⟩ := take_st h30
  obtain ⟨n1, n2, n3, n4, n5, n6, n7, n8⟩ := noted_all hC hP i0 i1 hi7
  obtain ⟨-, -, hHn, hHt⟩ := pz_take (Z := True) pc00 trivial pd00 hC hP hJ hg i0 i1 hi7 h30
  have hend := on_end hcw hs hN0.1 hx5 204 1000 (sNoted x i s) _ n1 n3 n2 (by
    have := pw_b (s := sNoted x i s) 12 0
    have := n1.2.2.2.2.2.2.1
    unfold pot
    omega) (by decide)
  have e40 : sg (sTake x i s) 0 40 = sg (sTaken x i s) 0 40 := by rw [t2, st_g, if_neg (by omega), st_g, if_neg (by omega)]
  have ef : first (sTake x i s) = first (sTaken x i s) := by
    rw [t2]
    exact first_same (by rw [st_g, if_neg (by omega), st_g, if_neg (by omega)]) (fun k q k0 => by rw [st_g, if_neg (by omega), st_g, if_neg (by omega)]) fun _ => rfl
  have eg : goes (sTake x i s) = goes (sTaken x i s) := by
    unfold goes
    rw [t2, st_g, if_neg (by omega), st_g, if_neg (by omega), st_g, if_neg (by omega), st_g, if_neg (by omega)]
  refine ⟨?_, by rw [ef, eg]; exact hend⟩
  rw [e40]
  have es : ∀ p q : Int, (p ≠ 0 ∨ (q ≠ 28 ∧ q ≠ 11 ∧ q ≠ 29)) → sg (st (st (st s 0 28 i) 0 11 (i + 1)) 0 29 0) p q = sg s p q := fun p q hh => by rw [st_g, if_neg (by omega), st_g, if_neg (by omega), st_g, if_neg (by omega)]
  have e29 : sg (st (st (st s 0 28 i) 0 11 (i + 1)) 0 29 0) 0 29 = 0 := by rw [st_g, if_pos ⟨rfl, rfl⟩]
  have f5 := hP.1.2.2.2.2.2.2.2.1
  have hk29 := (note_kr (x := x) (kd := ek (x.2.1 i)) (a := ex (x.2.1 i)) (b := ey (x.2.1 i)) n8).2.2
  have h29 : sg (sNoted x i s) 0 29 = 0 := by
    show sg (sNote x _ _ _ _) 0 29 = 0
    rw [hk29, e29]
  have hall := fun m : Nat => (on_all hcw hs hN0.1 hx5 m (sNoted x i s) _ n1 n3 n2).1
  have h40 := on_40 (x := x) 1000 (sNoted x i s) n1.2.2.2.2.2.2.2.1.1 fun m => (hall m).2.2.2.2.2.2.2.1.1
  have hb29 := (hall 1000).2.2.2.2.2.2.1
  have up : sg (sTaken x i s) 0 40 ≤ sg (sNoted x i s) 0 40 + 60 := by
    show sg (sOn x 1000 (sNoted x i s)) 0 40 ≤ _
    omega
  have hw : wtr (st (st (st s 0 28 i) 0 11 (i + 1)) 0 29 0) (ex (x.2.1 i)) = wtr s (ex (x.2.1 i)) := by
    have key : ∀ (n : Nat) (k : Int), 0 ≤ k → sWtr (st (st (st s 0 28 i) 0 11 (i + 1)) 0 29 0) (ex (x.2.1 i)) n k = sWtr s (ex (x.2.1 i)) n k := by
      intro n
      induction n with
      | zero => intro k _; rfl
      | succ n ih =>
        intro k k0
        unfold sWtr
        rw [es _ _ (by omega), es _ _ (by omega), es _ _ (by omega), ih (k + 1) (by omega)]
    exact key 12 0 (by decide)
  unfold lnK
  by_cases c0 : ek (x.2.1 i) = 0
  · rw [if_pos c0]
    have : sg (sNoted x i s) 0 40 = sg s 0 40 + 1 := by
      show sg (sNote x _ _ _ _) 0 40 = _
      unfold sNote
      rw [if_pos c0, begin_40 n8, es _ _ (by omega)]
    omega
  · rw [if_neg c0]
    have e40n : sg (sNoted x i s) 0 40 = sg s 0 40 := by
      show sg (sNote x _ _ _ _) 0 40 = _
      rw [note_40 c0 n8, es _ _ (by omega)]
    by_cases c4 : ek (x.2.1 i) = 4
    · rw [if_pos c4]
      have ens : sNoted x i s = st (stq (st (st (st s 0 28 i) 0 11 (i + 1)) 0 29 0) (ex (x.2.1 i)) (sq (st (st (st s 0 28 i) 0 11 (i + 1)) 0 29 0) (ex (x.2.1 i)) ++ [ey (x.2.1 i)])) 0 41 (sg (st (st (st s 0 28 i) 0 11 (i + 1)) 0 29 0) 0 41 + 1) := by
        show sNote x _ _ _ _ = _
        unfold sNote
        rw [if_neg c0, if_neg (by omega), if_neg (by omega), if_pos c4]
      by_cases cf : first (sNoted x i s) < 0
      · have : sTaken x i s = sNoted x i s := on_stop (Or.inl cf) 1000
        rw [this, e40n]
        omega
      · -- somebody goes on: it consumes a signal
        have hg2 : goes (sNoted x i s) = true := by
          have q9 : sg (sNoted x i s) 0 9 = sg s 0 9 := by
            rw [ens, st_g, if_neg (by omega)]
            exact es 0 9 (by omega)
          unfold goes
          rw [hHn.2.2.2, q9, (goes_s hg).2]
          rfl
        obtain ⟨z1, z2, z3⟩ := (first_b (s := sNoted x i s)).resolve_left (by omega)
        have en : ∀ p q : Int, (p ≠ 0 ∨ (q ≠ 28 ∧ q ≠ 11 ∧ q ≠ 29 ∧ q ≠ 41)) → sg (sNoted x i s) p q = sg s p q := fun p q hh => by
          rw [ens, st_g, if_neg (by omega)]
          exact es p q (by omega)
        have eqn : ∀ n : Int, n ≠ ex (x.2.1 i) → sq (sNoted x i s) n = sq s n := fun n hn => by
          rw [ens]
          show (if n = ex (x.2.1 i) then _ else sq s n) = _
          rw [if_neg hn]
        have z5 : sg s 0 5 = sg (sNoted x i s) 0 5 := (en _ _ (by omega)).symm
        have hnot := first_f hf f5.2 z1 (by omega)
        have c7 : sg (sNoted x i s) (2 + first (sNoted x i s)) 7 = 3 := by
          by_cases c : sg s (2 + first (sNoted x i s)) 7 = 3
          · rw [en _ _ (by omega)]; exact c
          · rw [able_same (s := s) z5.symm (fun k q k0 => en _ _ (by omega)) (fun h => absurd h c) z1, hnot] at z3
            exact absurd z3 (by decide)
        have hQ1 := pz_turn (Z := True) (f := f00) (g := g00) (ω := -1) (κ := 0) pc00 (fun _ _ _ => trivial) hHn hcw hs h4 hN0.1 hx5 n3 (goes_s hg2).2 z1 z2 z3
        have est : sOn x 1000 (sNoted x i s) = sOn x 999 (sTurn x (first (sNoted x i s)) (sNoted x i s)) := on_one hg2 z1 999
        have hT1 : TkW x (sTurn x (first (sNoted x i s)) (sNoted x i s)) := by
          unfold TkW at n3 ⊢
          rw [kp_turn n1.2.2.2.2.2.2.2.1.1 z1 (by unfold KQ; omega)]
          exact n3
        have hW1 := w_turn hcw hs hN0.1 hx5 z1 z2 n3 z3 n1
        have t30 : sg (sTurn x (first (sNoted x i s)) (sNoted x i s)) 0 30 = 0 := o_on ok30 hcw hs hN0.1 hx5 999 _ _ hW1 hT1 (by rw [← est]; exact t1)
        obtain ⟨-, hH1⟩ := hQ1 t30
        have hc1 := cns_on (n := 999) hH1 hcw hs h4 hN0.1 hx5 hT1 (by rw [← est]; exact t1)
        rw [← est] at hc1
        have hbr := n1.br z1 z2
        have hn := hbr.2.2.2.1 c7
        -- the turn consumes one
        have hone : cns (sTurn x (first (sNoted x i s)) (sNoted x i s)) = cns (sNoted x i s) + 1 := by
          have ha := z3
          unfold sAble at ha
          rw [if_neg (by omega), if_pos c7] at ha
          have hq := of_decide_eq_true ha
          have hlen : 0 < (sq (sNoted x i s) (sg (sNoted x i s) (2 + first (sNoted x i s)) 8)).length := by
            cases hc : sq (sNoted x i s) (sg (sNoted x i s) (2 + first (sNoted x i s)) 8) with
            | nil => exact absurd hc hq
            | cons a t => exact Nat.succ_pos _
          unfold sTurn
          rw [if_pos (by omega)]
          unfold sAwake
          rw [if_pos c7]
          generalize sNoted x i s = S at *
          have ef00 := PZ_q (f := f00) (g := g00) (ω := -1) (κ := 0) (x := x) (s := st S 1 (bOf x (sg S (2 + first S) 4)) ((sq S (sg S (2 + first S) 8)).headD 0)) (k := sg S (2 + first S) 8) (d := -1) (t := (sq S (sg S (2 + first S) 8)).tail) hn.1 hn.2 (by
            show ((sq S (sg S (2 + first S) 8)).tail.length : Int) = ((sq S (sg S (2 + first S) 8)).length : Int) + -1
            rw [List.length_tail]
            omega)
          have e1 := PZ_sx (f := f00) (g := g00) (ω := -1) (κ := 0) (x := x) (s := S) (a := 1) (j := bOf x (sg S (2 + first S) 4)) (v := (sq S (sg S (2 + first S) 8)).headD 0) (by omega)
          rw [e1, pz00, pz00] at ef00
          have e2 : cns (sGo (first S) (sg S (2 + first S) 4 + 1) (stq (st S 1 (bOf x (sg S (2 + first S) 4)) ((sq S (sg S (2 + first S) 8)).headD 0)) (sg S (2 + first S) 8) (sq S (sg S (2 + first S) 8)).tail)) = cns (stq (st S 1 (bOf x (sg S (2 + first S) 4)) ((sq S (sg S (2 + first S) 8)).headD 0)) (sg S (2 + first S) 8) (sq S (sg S (2 + first S) 8)).tail) := by
            unfold cns
            rw [go_g, if_neg (by omega), if_neg (by omega)]
            rfl
          rw [e2]
          omega
        have hcnote : cns (sNoted x i s) = cns s := by
          have ha4 := (har i (by have := hP.2.2.2.2.1; omega) i1 hi7).2.1 c4
          have q1 := PZ_q (f := f00) (g := g00) (ω := -1) (κ := 0) (x := x) (s := st (st (st s 0 28 i) 0 11 (i + 1)) 0 29 0) (k := ex (x.2.1 i)) (d := 1) (t := sq (st (st (st s 0 28 i) 0 11 (i + 1)) 0 29 0) (ex (x.2.1 i)) ++ [ey (x.2.1 i)]) (Int.natCast_nonneg _) ha4 (by
            rw [List.length_append]
            simp only [List.length_cons, List.length_nil]
            omega)
          rw [pz00, pz00] at q1
          have q2 : cns (st (st (st s 0 28 i) 0 11 (i + 1)) 0 29 0) = cns s := by
            unfold cns
            rw [es _ _ (by omega)]
            rfl
          rw [ens]
          have q3 : ∀ S : TS, cns (st S 0 41 (sg S 0 41 + 1)) = cns S + 1 := fun S => by
            unfold cns
            rw [st_g, if_pos ⟨rfl, rfl⟩]
            show sg S 0 41 + 1 - Qn S = _
            omega
          have q4 := q3 (stq (st (st (st s 0 28 i) 0 11 (i + 1)) 0 29 0) (ex (x.2.1 i)) (sq (st (st (st s 0 28 i) 0 11 (i + 1)) 0 29 0) (ex (x.2.1 i)) ++ [ey (x.2.1 i)]))
          have q5 : sg (stq (st (st (st s 0 28 i) 0 11 (i + 1)) 0 29 0) (ex (x.2.1 i)) (sq (st (st (st s 0 28 i) 0 11 (i + 1)) 0 29 0) (ex (x.2.1 i)) ++ [ey (x.2.1 i)])) 0 41 = sg (st (st (st s 0 28 i) 0 11 (i + 1)) 0 29 0) 0 41 := rfl
          rw [q5] at q4
          omega
        have etk : cns (sTake x i s) = cns (sTaken x i s) := by
          unfold cns
          rw [t2, st_g, if_neg (by omega), st_g, if_neg (by omega)]
          rfl
        have etd : cns (sTaken x i s) = cns (sOn x 1000 (sNoted x i s)) := rfl
        rw [etk, etd]
        omega
    · rw [if_neg c4]
      by_cases c7 : ek (x.2.1 i) = 7
      · rw [if_pos c7]; omega
      · rw [if_neg c7]
        by_cases cw : wtr s (ex (x.2.1 i)) < 0
        · rw [if_pos cw]
          have ens : sNoted x i s = st (st (st s 0 28 i) 0 11 (i + 1)) 0 29 0 := by
            show sNote x _ _ _ _ = _
            unfold sNote
            rw [if_neg c0]
            have ef1 : sFailed x (wtr (st (st (st s 0 28 i) 0 11 (i + 1)) 0 29 0) (ex (x.2.1 i))) (st (st (st s 0 28 i) 0 11 (i + 1)) 0 29 0) = st (st (st s 0 28 i) 0 11 (i + 1)) 0 29 0 := by
              unfold sFailed
              rw [hw, if_pos cw]
            by_cases c2 : ek (x.2.1 i) = 2
            · rw [if_pos c2]; exact ef1
            · rw [if_neg c2]
              by_cases c6 : ek (x.2.1 i) = 6
              · rw [if_pos c6]; exact ef1
              · rw [if_neg c6, if_neg c4, if_neg c7]
                unfold sEnded
                rw [hw, if_pos cw]
          have hfn : first (sNoted x i s) < 0 := by
            rw [ens, first_same (s := s) (es _ _ (by omega)) (fun k q k0 => es _ _ (by omega)) fun _ => rfl]
            exact hf
          have : sTaken x i s = sNoted x i s := on_stop (Or.inl hfn) 1000
          rw [this, e40n]
          omega
        · rw [if_neg cw]; omega
end PRD
