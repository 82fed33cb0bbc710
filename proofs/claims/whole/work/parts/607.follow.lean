/-! THE TELLING: arrivals are taken, one after the other. -/
section FOL
variable {m0 m m' M : MM} {x : CX} {s : TS} {B : Int} {a b c e i j v k h n l w p g t q : Int}
theorem pass_e (X : XC m0 x) : ∀ (n F : Nat) (i : Int) (s : TS) (m : MM) (B : Int), 0 ≤ i → i ≤ x.1 0 → x.1 0 - i < n → n ≤ F → CR m0 m s B → SW x s B → ∃ m', fl_X4_passTasks_8 F i m = some (0, m') ∧ CR m0 m' (sPass x n i s) B ∧ SW x (sPass x n i s) B := by
  intro n
  induction n with
  | zero =>
    intro F i s m B h0 h9 h1 h2 hC hW
    omega
  | succ n ih =>
    intro F i s m B h0 h9 h1 h2 hC hW
    obtain ⟨F, rfl⟩ : ∃ g, F = g + 1 := ⟨F - 1, by omega⟩
    obtain ⟨e2, H, e4, hk⟩ := X.hc hC.2.1
    have hn := H.n
    have h12 := hW.1
    have hend : ∃ m', (up m 17 13 i fun m_44 => some ((0 : Int), m_44)) = some (0, m') ∧ CR m0 m' (st s 0 13 i) B ∧ SW x (st s 0 13 i) B :=
      ⟨_, rfl, hC.p17 (by decide) (by decide), hW.s0 (by decide) (by decide) (by decide) (by decide) (by decide) (Or.inl (by decide))⟩
    unfold fl_X4_passTasks_8 sPass
    simp only [lx_p]
    rw [e2, gd_t hk, H.sz]
    by_cases c1 : i < x.1 0
    · have e10 : m 16 10 = sg s 0 30 := hC.c16 (j := 10) (by decide) (by decide)
      rw [if_pos c1, if_pos c1, e10]
      by_cases c2 : sg s 0 30 = 0
      · rw [if_pos c2, if_pos c2, bp_t (kind_e H h0 c1)]
        by_cases c3 : ek (x.2.1 i) = 17
        · rw [if_pos c3, if_pos c3, bp_t (x_e H h0 c1), hC.c17 (j := 10) (by decide) (by decide)]
          by_cases c4 : sg s 0 10 < ex (x.2.1 i)
          · rw [if_pos c4, if_pos c4]
            exact hend
          · rw [if_neg c4, if_neg c4]
            unfold fj_X4_passTasks_57 fj_X4_passTasks_88
            simp only [lx_p]
            rw [e2, gd_t hk, bp_t (kind_e H h0 c1), if_pos c3, hC.c17 (j := 12) (by decide) (by decide), bp_t (nextCmd_e H h12.1), w32_id (by omega) (by omega)]
            by_cases c5 : nc x (sg s 0 12) < i
            · obtain ⟨m1, f1, f2⟩ := stuck_e (v := nc x (sg s 0 12)) hC
              rw [if_pos c5, if_pos c5, bd_t f1]
              exact ih F (i + 1) _ m1 B (by omega) (by omega) (by omega) (by omega) f2 hW.stk
            · rw [if_neg c5, if_neg c5]
              exact ih F (i + 1) s m B (by omega) (by omega) (by omega) (by omega) hC hW
        · rw [if_neg c3, if_neg c3]
          unfold fj_X4_passTasks_57 fj_X4_passTasks_88
          simp only [lx_p]
          rw [e2, gd_t hk, bp_t (kind_e H h0 c1), if_neg c3, if_neg (Int.lt_irrefl _), w32_id (by omega) (by omega)]
          exact ih F (i + 1) s m B (by omega) (by omega) (by omega) (by omega) hC hW
      · rw [if_neg c2, if_neg c2]
        exact hend
    · rw [if_neg c1, if_neg c1]
      exact hend
theorem na_b : ∀ (n : Nat) (i : Int), (x.1 0 - i).toNat = n → i ≤ nxa x n i ∧ (nxa x n i < x.1 0 → ek (x.2.1 (nxa x n i)) ≤ 7) ∧ (nxa x n i ≤ x.1 0 ∨ nxa x n i = i) := by
  intro n
  induction n with
  | zero => intro i h; exact ⟨Int.le_refl _, fun hh => absurd hh (by show ¬ i < x.1 0; omega), Or.inr rfl⟩
  | succ n ih =>
    intro i h
    have hi : i < x.1 0 := by omega
    unfold nxa
    rw [if_pos hi]
    split
    · obtain ⟨g1, g2, g3⟩ := ih (i + 1) (by omega)
      exact ⟨by omega, g2, by omega⟩
    · exact ⟨Int.le_refl _, fun _ => by omega, Or.inr rfl⟩
theorem pass_g (hq : q ≠ 13 ∧ q ≠ 30 ∧ q ≠ 31) : ∀ (n : Nat) (i : Int) (s : TS), sg (sPass x n i s) 0 q = sg s 0 q ∧ sn (sPass x n i s) = sn s := by
  intro n
  induction n with
  | zero => intro i s; exact ⟨rfl, rfl⟩
  | succ n ih =>
    intro i s
    unfold sPass
    split
    · split
      · split
        · split
          · exact ⟨by rw [st_g, if_neg (by omega)], rfl⟩
          · have h := ih (i + 1) (if nc x (sg s 0 12) < i then sStuck s (nc x (sg s 0 12)) else s)
            refine ⟨h.1.trans ?_, h.2.trans ?_⟩
            · split
              · unfold sStuck
                rw [st_g, if_neg (by omega), st_g, if_neg (by omega)]
              · rfl
            · split <;> rfl
        · exact ih _ _
      · exact ⟨by rw [st_g, if_neg (by omega)], rfl⟩
    · exact ⟨by rw [st_g, if_neg (by omega)], rfl⟩
/-- where the next TASK is looked for -/
theorem pass_13 : ∀ (n : Nat) (i : Int) (s : TS), 0 ≤ i → i ≤ x.1 0 → x.1 0 - i < n → 0 ≤ sg (sPass x n i s) 0 13 ∧ sg (sPass x n i s) 0 13 ≤ x.1 0 := by
  intro n
  induction n with
  | zero => intro i s h0 h9 h1; omega
  | succ n ih =>
    intro i s h0 h9 h1
    unfold sPass
    have hb : 0 ≤ sg (st s 0 13 i) 0 13 ∧ sg (st s 0 13 i) 0 13 ≤ x.1 0 := by rw [st_g, if_pos ⟨rfl, rfl⟩]; exact ⟨h0, h9⟩
    split
    · split
      · split
        · split
          · exact hb
          · exact ih _ _ (by omega) (by omega) (by omega)
        · exact ih _ _ (by omega) (by omega) (by omega)
      · exact hb
    · exact hb
/-- what holds between arrivals -/
def BtW (x : CX) (s : TS) : Prop := (0 ≤ sg s 0 11 ∧ sg s 0 11 ≤ x.1 0) ∧ (0 ≤ sg s 0 13 ∧ sg s 0 13 ≤ x.1 0) ∧ (sg s 0 11 = 0 → sg s 0 5 = 0) ∧ 0 ≤ sg s 0 10 ∧ sg s 0 10 ≤ sg s 0 11
def CxW (x : CX) : Prop := CodeW x ∧ ArrW x ∧ x.1 3 ≤ x.1 0
theorem nl_take : nl s ≤ nl (sTake x i s) := by
  unfold sTake
  simp only
  have h1 := nl_note (x := x) (k := ek (x.2.1 i)) (a := ex (x.2.1 i)) (b := ey (x.2.1 i)) (s := st (st (st s 0 28 i) 0 11 (i + 1)) 0 29 0)
  have h2 := nl_on (x := x) 1000 (sNote x (ek (x.2.1 i)) (ex (x.2.1 i)) (ey (x.2.1 i)) (st (st (st s 0 28 i) 0 11 (i + 1)) 0 29 0))
  have h0 : nl (st (st (st s 0 28 i) 0 11 (i + 1)) 0 29 0) = nl s := rfl
  generalize sOn x 1000 (sNote x (ek (x.2.1 i)) (ex (x.2.1 i)) (ey (x.2.1 i)) (st (st (st s 0 28 i) 0 11 (i + 1)) 0 29 0)) = s1 at h2
  have h3 : nl (sPass x (x.1 0 - sg s1 0 13 + 1).toNat (sg s1 0 13) (st s1 0 10 (sg s1 0 10 + 1))) = nl s1 := by
    unfold nl
    rw [(pass_g (q := 10) (by decide) _ _ _).2]
    rfl
  omega
/-- an arrival, in the class -/
noncomputable def takeF (m : MM) (h i : Int) : Option (Int × MM) := bp (fm_X2_kind h i m) fun x_122 => bp (fm_X2_x h i m) fun x_137 => bp (fm_X2_y h i m) fun x_152 =>
  bd (fm_X4_note x_122 x_137 x_152 m) fun x_161 m_162 => bd (fm_X4_goOn m_162) fun x_173 m_174 => up m_174 17 10 (w32 (m_174 17 10 + 1)) fun m_196 => fm_X4_passTasks m_196
theorem take_e (hC : CR m0 m s B) (X : XC m0 x) (hx : CxW x) (hW : SW x s B) (hb : BtW x s) (hB : B + 30030 < 268435456) (i0 : sg s 0 11 ≤ i) (i1 : i < x.1 0) (ik : ek (x.2.1 i) ≤ 7) (hN : x.1 0 + nl (sTake x i s) ≤ 524288) : ∃ m', takeF (mset (mset (mset m 16 8 i) 17 11 (i + 1)) 16 9 0) (m0 16 2) i = some (0, m') ∧ CR m0 m' (sTake x i s) (B + 30030) ∧ SW x (sTake x i s) (B + 30030) ∧ BtW x (sTake x i s) ∧ sg (sTake x i s) 0 10 = sg s 0 10 + 1 := by
  obtain ⟨hcw, ha, hs⟩ := hx
  obtain ⟨⟨b1, b2⟩, ⟨b3, b4⟩, b5, b6, b7⟩ := hb
  have i9 : 0 ≤ i := by omega
  obtain ⟨a1, a2, a3, a4⟩ := ha i i9 i1 ik
  have w1 : CR m0 (mset m 16 8 i) (st s 0 28 i) B := hC.p16 (j := 8) (by decide) (by decide)
  have w2 := w1.p17 (j := 11) (v := i + 1) (by decide) (by decide)
  have w3 : CR m0 (mset (mset (mset m 16 8 i) 17 11 (i + 1)) 16 9 0) (st (st (st s 0 28 i) 0 11 (i + 1)) 0 29 0) B := w2.p16 (j := 9) (by decide) (by decide)
  have v3 := ((hW.s0 (j := 28) (v := i) (by decide) (by decide) (by decide) (by decide) (by decide) (Or.inl (by decide))).s0 (j := 11) (v := i + 1) (by decide) (by decide) (by decide) (by decide) (by decide) (Or.inl (by decide))).s29 (v := 0) (by decide) (by decide)
  unfold sTake at hN ⊢
  simp only at hN ⊢
  generalize hS : st (st (st s 0 28 i) 0 11 (i + 1)) 0 29 0 = s3 at w3 v3 hN ⊢
  generalize hM : mset (mset (mset m 16 8 i) 17 11 (i + 1)) 16 9 0 = m3 at w3 ⊢
  have q : ∀ j, j ≠ 28 → j ≠ 11 → j ≠ 29 → sg s3 0 j = sg s 0 j := fun j q1 q2 q3 => by
    subst hS
    rw [st_g, if_neg (by omega), st_g, if_neg (by omega), st_g, if_neg (by omega)]
  have q28 : sg s3 0 28 = i := by subst hS; rw [st_g, if_neg (by decide), st_g, if_neg (by decide), st_g, if_pos ⟨rfl, rfl⟩]
  have q11 : sg s3 0 11 = i + 1 := by subst hS; rw [st_g, if_neg (by decide), st_g, if_pos ⟨rfl, rfl⟩]
  obtain ⟨e2, H, e4, hk⟩ := X.hc w3.2.1
  have hn := H.n
  -- the notes' size
  have n2 := nl_on (x := x) 1000 (sNote x (ek (x.2.1 i)) (ex (x.2.1 i)) (ey (x.2.1 i)) s3)
  have n3 : ∀ s1 : TS, nl (sPass x (x.1 0 - sg s1 0 13 + 1).toNat (sg s1 0 13) (st s1 0 10 (sg s1 0 10 + 1))) = nl s1 := fun s1 => by
    unfold nl
    rw [(pass_g (q := 10) (by decide) _ _ _).2]
    rfl
  rw [n3] at hN
  have ex0 : 0 ≤ ex (x.2.1 i) := Int.natCast_nonneg _
  obtain ⟨m4, f1, f2, f3⟩ := note_e (k := ek (x.2.1 i)) (a := ex (x.2.1 i)) (b := ey (x.2.1 i)) w3 X v3 (by omega) hs (by omega) (Int.natCast_nonneg _) a1 (fun hh => ⟨ex0, (a3 hh).1, by
    rw [q 5 (by decide) (by decide) (by decide)]
    have := (a3 hh).2
    have := b5 (by omega)
    omega⟩) (fun hh => ⟨ex0, a2 hh⟩)
  have kq := fun j (hj : KQ j) => kp_note (x := x) (s := s3) (k := ek (x.2.1 i)) (a := ex (x.2.1 i)) (b := ey (x.2.1 i)) (q := j) (by rw [q 5 (by decide) (by decide) (by decide)]; exact hC.th.2.1) hj
  generalize sNote x (ek (x.2.1 i)) (ex (x.2.1 i)) (ey (x.2.1 i)) s3 = s4 at f2 f3 kq hN n2 ⊢
  have hT : TkW x s4 := by
    unfold TkW
    rw [kq 28 (Or.inr (Or.inr (Or.inr rfl))), q28]
    exact ⟨i9, i1, a4⟩
  obtain ⟨m5, g1, g2, g3, g4⟩ := on_e X hcw hs 1000 BIG 0 s4 m4 (B + 30) (by decide) (by decide) (BIG_g (by decide)) f2 f3 (by omega) hT hN
  have o11 := (g4 11 (Or.inr (Or.inl rfl))).trans ((kq 11 (Or.inr (Or.inl rfl))).trans q11)
  have o13 := (g4 13 (Or.inr (Or.inr (Or.inl rfl)))).trans ((kq 13 (Or.inr (Or.inr (Or.inl rfl)))).trans (q 13 (by decide) (by decide) (by decide)))
  have o10 := (g4 10 (Or.inl rfl)).trans ((kq 10 (Or.inl rfl)).trans (q 10 (by decide) (by decide) (by decide)))
  generalize sOn x 1000 s4 = s5 at g2 g3 o11 o13 o10 ⊢
  have w6 := g2.p17 (j := 10) (v := sg s5 0 10 + 1) (by decide) (by decide)
  have v6 := g3.s0 (j := 10) (v := sg s5 0 10 + 1) (by decide) (by decide) (by decide) (by decide) (by decide) (Or.inr (by omega))
  have t13 : sg (st s5 0 10 (sg s5 0 10 + 1)) 0 13 = sg s5 0 13 := by rw [st_g, if_neg (by decide)]
  obtain ⟨m6, p1, p2, p3⟩ := pass_e X (x.1 0 - sg s5 0 13 + 1).toNat BIG (sg s5 0 13) _ _ _ (by omega) (by omega) (by omega) (Nat.le_of_lt (BIG_g (by omega))) w6 v6
  have p13 := pass_13 (x := x) (x.1 0 - sg s5 0 13 + 1).toNat (sg s5 0 13) (st s5 0 10 (sg s5 0 10 + 1)) (by omega) (by omega) (by omega)
  have pg := fun j (hj : j ≠ 13 ∧ j ≠ 30 ∧ j ≠ 31) => (pass_g (x := x) hj (x.1 0 - sg s5 0 13 + 1).toNat (sg s5 0 13) (st s5 0 10 (sg s5 0 10 + 1))).1
  refine ⟨m6, ?_, p2.mono (by omega), p3.mono (by omega), ⟨?_, p13, ?_, ?_, ?_⟩, ?_⟩
  · unfold takeF fm_X4_goOn fm_X4_passTasks
    rw [bp_t (kind_e H i9 i1), bp_t (x_e H i9 i1), bp_t (y_e H i9 i1), bd_t f1, bp_t (first_e f2 f3), bd_t g1, up_t, g2.c17 (j := 10) (by decide) (by decide), lx_p, w32_id (by omega) (by omega), w6.c17 (j := 13) (by decide) (by decide), t13]
    exact p1
  · rw [pg 11 (by decide), st_g, if_neg (by decide), o11]
    omega
  · rw [pg 11 (by decide), st_g, if_neg (by decide), o11]
    intro hh
    omega
  · rw [pg 10 (by decide), st_g, if_pos ⟨rfl, rfl⟩]
    omega
  · rw [pg 10 (by decide), pg 11 (by decide), st_g, if_pos ⟨rfl, rfl⟩, st_g, if_neg (by decide)]
    omega
  · rw [pg 10 (by decide), st_g, if_pos ⟨rfl, rfl⟩]
    omega
theorem nl_follow : ∀ (n : Nat) (i : Int) (s : TS), nl s ≤ nl (sFollow x l n i s) := by
  intro n
  induction n with
  | zero => intro i s; exact Int.le_refl _
  | succ n ih =>
    intro i s
    unfold sFollow
    split
    · split
      · split
        · exact Int.le_trans nl_take (ih _ _)
        · exact Int.le_refl _
      · exact Int.le_refl _
    · exact Int.le_refl _
theorem follow_l (X : XC m0 x) (hx : CxW x) : ∀ (n F : Nat) (i : Int) (s : TS) (m : MM) (B : Int), l - i < n → n ≤ F → (0 ≤ i ∧ i ≤ l) → l < 2147483647 → CR m0 m s B → SW x s B → BtW x s → B + 30030 * n < 268435456 → x.1 0 + nl (sFollow x l n i s) ≤ 524288 → ∃ m', fl_X4_follow_17 l (fun m_231 => fj_X4_follow_147 m_231) (fun m_252 => fj_X4_follow_147 m_252) F i m = some (if sg (sFollow x l n i s) 0 30 = 0 then 1 else 0, m') ∧ CR m0 m' (sFollow x l n i s) (B + 30030 * n) ∧ SW x (sFollow x l n i s) (B + 30030 * n) := by
  intro n
  induction n with
  | zero => 
    intro F i s m B h1 h2 h3 h4 hC hW hb hB hN
    omega
  | succ n ih =>
    intro F i s m B h1 h2 h3 h4 hC hW hb hB hN
    obtain ⟨F, rfl⟩ : ∃ g, F = g + 1 := ⟨F - 1, by omega⟩
    have hend : ∀ (m : MM) (s : TS), CR m0 m s B → SW x s B → ∃ m', fj_X4_follow_147 m = some (if sg s 0 30 = 0 then 1 else 0, m') ∧ CR m0 m' s (B + 30030 * (n + 1 : Nat)) ∧ SW x s (B + 30030 * (n + 1 : Nat)) := by
      intro m s g1 g2
      refine ⟨m, ?_, g1.mono (by omega), g2.mono (by omega)⟩
      have e10 : m 16 10 = sg s 0 30 := g1.c16 (j := 10) (by decide) (by decide)
      unfold fj_X4_follow_147
      rw [lx_p, e10]
      split <;> rfl
    unfold fl_X4_follow_17
    unfold sFollow at hN ⊢
    simp only [lx_p, up_t]
    by_cases c1 : i < l
    · rw [if_pos c1] at hN
      rw [if_pos c1, if_pos c1, bp_t (goes_e hC)]
      by_cases cg : goes s = true
      · rw [if_pos cg] at hN
        obtain ⟨e2, H, e4, hk⟩ := X.hc hC.2.1
        have hn := H.n
        have hna := na_b (x := x) _ (sg s 0 11) rfl
        have hna2 : nxa x (x.1 0 - sg s 0 11).toNat (sg s 0 11) = na x (sg s 0 11) := rfl
        rw [hna2] at hna
        have w1 : CR m0 (mset m 16 8 (na x (sg s 0 11))) (st s 0 28 (na x (sg s 0 11))) B := hC.p16 (j := 8) (by decide) (by decide)
        obtain ⟨d2, D, d4, dk⟩ := X.hc w1.2.1
        rw [if_pos cg, if_pos cg, if_neg (by decide), e2, hC.c17 (j := 11) (by decide) (by decide), gd_t hk, bp_t (nextArr_e H hb.1.1), ms_e, d2, gd_t dk, D.sz]
        by_cases c2 : na x (sg s 0 11) < x.1 0
        · rw [if_pos c2] at hN
          rw [if_pos c2, if_pos c2, w32_id (z := na x (sg s 0 11) + 1) (by have := hb.1.1; omega) (by omega)]
          obtain ⟨m2, f1, f2, f3, f4, f5⟩ := take_e hC X hx hW hb (by omega) hna.1 c2 (hna.2.1 c2) (Int.le_trans (Int.add_le_add_left (nl_follow n (i + 1) _) _) hN)
          have w3 : CR m0 (mset (mset (mset m 16 8 (na x (sg s 0 11))) 17 11 (na x (sg s 0 11) + 1)) 16 9 0) (st (st (st s 0 28 (na x (sg s 0 11))) 0 11 (na x (sg s 0 11) + 1)) 0 29 0) B := (w1.p17 (j := 11) (by decide) (by decide)).p16 (j := 9) (by decide) (by decide)
          obtain ⟨x2, XH, x4, xk⟩ := X.hc w3.2.1
          have x8 : mset (mset (mset m 16 8 (na x (sg s 0 11))) 17 11 (na x (sg s 0 11) + 1)) 16 9 0 16 8 = na x (sg s 0 11) := by rw [ms_j (by decide), ms_a (by decide), ms_e]
          obtain ⟨m', g1, g2, g3⟩ := ih F (i + 1) (sTake x (na x (sg s 0 11)) s) m2 (B + 30030) (by omega) (by omega) (by omega) h4 f2 f3 f4 (by omega) hN
          refine ⟨m', ?_, g2.mono (by omega), g3.mono (by omega)⟩
          rw [x2, x8, gd_t xk, ← g1]
          unfold takeF at f1
          obtain ⟨z1, p1, f1⟩ := bp_s f1
          obtain ⟨z2, p2, f1⟩ := bp_s f1
          obtain ⟨z3, p3, f1⟩ := bp_s f1
          obtain ⟨z4, mm4, p4, f1⟩ := bd_s f1
          obtain ⟨z5, mm5, p5, f1⟩ := bd_s f1
          rw [up_t] at f1
          rw [bp_t p1, bp_t p2, bp_t p3, bd_t p4, bd_t p5, bd_t f1, w32_id (by omega) (by omega)]
        · rw [if_neg c2, if_neg c2]
          exact hend _ _ w1 (hW.s0 (by decide) (by decide) (by decide) (by decide) (by decide) (Or.inl (by decide)))
      · rw [if_neg cg, if_neg cg, if_pos rfl]
        exact hend m s hC hW
    · rw [if_neg c1, if_neg c1]
      exact hend m s hC hW
end FOL
