/-! THE LEDGER: signals counted, arrivals put, rows grown; how the calls keep it. -/
section LGA
variable {e e' e1 e2 e3 e5 : ES} {S D T B W V S' D' T' a b c d i j k q r v w N M p y t o p1 p2 p3 n s z ν L O P k30 k31 : Int}
/-- S signals, D completes, T takings over, B copies with signals; W: all signals at each T and B; V: how often a complete was the first to count one -/
def LG (k30 k31 S D T B W V : Int) (e : ES) : Prop :=
  ((0 ≤ B ∧ B ≤ e.1 7 2) ∧ (0 ≤ S ∧ 0 ≤ D ∧ 0 ≤ T)) ∧ (0 ≤ V ∧ V ≤ S * D) ∧ (0 ≤ W ∧ W ≤ S * (B + T)) ∧
  sm (qU e) 30 + LO e + V ≤ S + W ∧
  e.1 4 16 + QLk e + QV e + LO e ≤ 30 * V + 537 * D + 3 * e.1 7 2 + S + W + 13 * B + 390 * T ∧
  e.1 3 0 - e.1 4 16 ≤ k30 + 60 * V + 1074 * D ∧
  e.1 3 1 ≤ k31 + 30 * V + 537 * D + 12 * B + 360 * T + W ∧
  e.1 68 29 + QLk e + QV e + LO e ≤ 481 * D + 6 * e.1 7 2 + S + 2 * W + 13 * B + 390 * T
theorem mul_up (h : a ≤ b) (c0 : 0 ≤ c) : a * c ≤ b * c := Int.mul_le_mul_of_nonneg_right h c0
/-- a plain call -/
theorem LG.plain (h : LG k30 k31 S D T B W V e) (g : Q7 e e') (w : WL e e') : LG k30 k31 S D T B W V e' := by
  obtain ⟨h1, h2, h3, h4, h5, h6, h7, h9⟩ := h
  obtain ⟨g7, m, q1, -, q3, q4, q5⟩ := g
  obtain ⟨⟨u1, ⟨u2, -⟩, -⟩, u4⟩ := w
  have u5 := ug_sm u1
  exact ⟨⟨⟨h1.1.1, by omega⟩, h1.2⟩, h2, h3, by omega, by omega, by omega, by omega, by omega⟩
/-- a signal or an update -/
theorem LG.sig (h : LG k30 k31 S D T B W V e) (h7 : e.1 7 2 ≤ e'.1 7 2) (g : Q1 1 1 0 e e') (w : WL e e') : LG k30 k31 (S + 1) D T B W V e' := by
  obtain ⟨h1, h2, h3, h4, h5, h6, h8, h9⟩ := h
  obtain ⟨m, q1, -, q3, q4, q5⟩ := g
  obtain ⟨⟨u1, ⟨u2, -⟩, -⟩, u4⟩ := w
  have u5 := ug_sm u1
  have m1 := mul_up (a := S) (b := S + 1) (c := D) (by omega) h1.2.2.1
  have m2 := mul_up (a := S) (b := S + 1) (c := B + T) (by omega) (by omega)
  exact ⟨⟨⟨h1.1.1, by omega⟩, by omega, h1.2.2⟩, ⟨h2.1, Int.le_trans h2.2 m1⟩, ⟨h3.1, Int.le_trans h3.2 m2⟩, by omega, by omega, by omega, by omega, by omega⟩
/-- S counted higher than it is -/
theorem LG.upS (h : LG k30 k31 S D T B W V e) (hS : S ≤ S') : LG k30 k31 S' D T B W V e := by
  obtain ⟨h1, h2, h3, h4, h5, h6, h8, h9⟩ := h
  have m1 := mul_up (a := S) (b := S') (c := D) hS h1.2.2.1
  have m2 := mul_up (a := S) (b := S') (c := B + T) hS (by omega)
  exact ⟨⟨h1.1, by omega, h1.2.2⟩, ⟨h2.1, Int.le_trans h2.2 m1⟩, ⟨h3.1, Int.le_trans h3.2 m2⟩, by omega, by omega, by omega, by omega, by omega⟩
theorem LG.upD (h : LG k30 k31 S D T B W V e) : LG k30 k31 S (D + 1) T B W V e := by
  obtain ⟨h1, h2, h3, h4, h5, h6, h8, h9⟩ := h
  have m1 : S * (D + 1) = S * D + S := by rw [Int.mul_add, Int.mul_one]
  exact ⟨⟨h1.1, h1.2.1, by omega, h1.2.2.2⟩, ⟨h2.1, by omega⟩, h3, h4, by omega, by omega, by omega, by omega⟩
/-- what was lost is brought back -/
theorem LG.join (h : LG k30 k31 S D T B W V e) (h7 : e.1 7 2 ≤ e'.1 7 2) (g : Q1 (LO e - LO e') (LO e - LO e') 0 e e') (w : WG e e') : LG k30 k31 S D T B W V e' := by
  obtain ⟨h1, h2, h3, h4, h5, h6, h8, h9⟩ := h
  obtain ⟨m, q1, -, q3, q4, q5⟩ := g
  obtain ⟨u1, ⟨u2, -⟩, -⟩ := w
  have u5 := ug_sm u1
  exact ⟨⟨⟨h1.1.1, by omega⟩, h1.2⟩, h2, h3, by omega, by omega, by omega, by omega, by omega⟩
/-- another takes over -/
theorem LG.take (h : LG k30 k31 S D T B W V e) (h7 : e.1 7 2 ≤ e'.1 7 2) (g : Q1 390 0 (S + 360) e e') (l : LO e' ≤ S) (w : ∃ e3, CT e e3 ∧ (WL e3 e' ∧ sm (qCs e') 30 ≤ sm (qCs e3) 30) ∧ sm (qU e3) 30 + LO e3 ≤ sm (qU e) 30 + LO e + S) : LG k30 k31 S D (T + 1) B (W + S) V e' := by
  obtain ⟨h1, h2, h3, h4, h5, h6, h8, h9⟩ := h
  obtain ⟨m, q1, -, q3, q4, q5⟩ := g
  obtain ⟨e3, c1, ⟨⟨⟨u1, ⟨u2, -⟩, -⟩, u4⟩, u6⟩, u7⟩ := w
  have u5 := ug_sm u1
  have l0 : 0 ≤ LO e := LO_n
  obtain ⟨-, -, -, -, c68, c30, -, c4⟩ := c1
  have c29 := c68 29
  have c16 := c4 16 (by decide)
  have m1 : S * (B + (T + 1)) = S * (B + T) + S := by rw [← Int.add_assoc, Int.mul_add, Int.mul_one]
  have hS := h1.2.1
  exact ⟨⟨⟨h1.1.1, by omega⟩, h1.2.1, h1.2.2.1, by omega⟩, h2, ⟨by omega, by omega⟩, by omega, by omega, by omega, by omega, by omega⟩
/-- a copy is set back -/
theorem LG.copy (h : LG k30 k31 S D T B W V e) (h7 : e.1 7 2 + 1 ≤ e'.1 7 2) (g : Q1 (13 + S) S 12 e e') (w : ∃ e5, SBf e e5 ∧ UG e e5 ∧ LO e5 = LO e ∧ WL e5 e') : LG k30 k31 S D T (B + 1) (W + S) V e' := by
  obtain ⟨h1, h2, h3, h4, h5, h6, h8, h9⟩ := h
  obtain ⟨m, q1, -, q3, q4, q5⟩ := g
  obtain ⟨e5, ⟨-, -, c68, c30, c4⟩, ug, lo, ⟨u1, ⟨u2, -⟩, -⟩, u4⟩ := w
  have u5 := ug_sm (ug.tr u1)
  have c16 := c4 16
  have c29 := c68 29
  have m1 : S * (B + 1 + T) = S * (B + T) + S := by rw [show B + 1 + T = B + T + 1 by omega, Int.mul_add, Int.mul_one]
  have hS := h1.2.1
  exact ⟨⟨⟨by omega, by omega⟩, h1.2⟩, h2, ⟨by omega, by omega⟩, by omega, by omega, by omega, by omega, by omega⟩
/-- a complete that is not stale -/
theorem LG.comp (hO : e'.1 68 29 ≤ e.1 68 29 + 1 + 2 * (e'.1 4 16 - e.1 4 16 - (hN0 e' r - hN0 e r - (L + 1)))) (hq : (0 ≤ QLk e ∧ QLk e' ≤ 420) ∧ 0 ≤ QV e' ∧ QV e ≤ 60) (h : LG k30 k31 S D T B W V e) (h7 : e.1 7 2 ≤ e'.1 7 2) (l : LO e' = LO e) (h30 : e'.1 3 0 - e'.1 4 16 = e.1 3 0 - e.1 4 16 + (L + 1)) (hc : c = 0 ∨ (c = S ∧ e.1 7 2 + 1 ≤ e'.1 7 2)) (g : QQ r (O + 2 * (e'.1 7 2 - e.1 7 2) + c) (3 * (e'.1 7 2 - e.1 7 2) + c - (L + 1)) c O e e') (hν : (0 ≤ ν ∧ ν ≤ S) ∧ L ≤ 60 * ν + 1073 ∧ 2 * O ≤ 60 * ν + 1073) (hu : sm (qU e') 30 + ν ≤ sm (qU e) 30 + (sm (qCs e') 30 - sm (qCs e) 30)) : ∃ B' W' V', LG k30 k31 S (D + 1) T B' W' V' e' := by
  obtain ⟨h1, h2, h3, h4, h5, h6, h8, h9⟩ := h
  obtain ⟨q1, q2, q3, q4, q5⟩ := g
  have m1 : S * (D + 1) = S * D + S := by rw [Int.mul_add, Int.mul_one]
  rcases hc with hc | ⟨hc, hc7⟩
  · refine ⟨B, W, V + ν, ⟨⟨h1.1.1, by omega⟩, h1.2.1, by omega, h1.2.2.2⟩, ⟨by omega, by omega⟩, h3, by omega, by omega, by omega, by omega, by omega⟩
  · have m2 : S * (B + 1 + T) = S * (B + T) + S := by rw [show B + 1 + T = B + T + 1 by omega, Int.mul_add, Int.mul_one]
    refine ⟨B + 1, W + S, V + ν, ⟨⟨by omega, by omega⟩, h1.2.1, by omega, h1.2.2.2⟩, ⟨by omega, by omega⟩, ⟨by omega, by omega⟩, by omega, by omega, by omega, by omega, by omega⟩
/-- a complete that finds its run stuck -/
theorem LG.stuck (h : LG k30 k31 S D T B W V e) (h7 : e'.1 7 2 = e.1 7 2) (g : QQ r 0 0 0 0 e e') (hN7 : ∀ i : Int, 0 ≤ i → i < e.1 7 2 → hN e' i = hN e i ∧ eH e' i = eH e i) (hl : ∀ c : Int, eL e' c = eL e c) (h30 : e'.1 3 0 = e.1 3 0) (h16 : e'.1 4 16 = e.1 4 16) (h29 : e'.1 68 29 = e.1 68 29) : LG k30 k31 S D T B W V e' := by
  obtain ⟨h1, h2, h3, h4, h5, h6, h8, h9⟩ := h
  obtain ⟨q1, -, q3, q4, q5⟩ := g
  have u5 := ug_sm (UG.of h7 hN7)
  have l : LO e' = LO e := LO_of (by omega) (fun i _ _ => hl _) fun i i0 i1 => by omega
  exact ⟨⟨⟨h1.1.1, by omega⟩, h1.2⟩, h2, h3, by omega, by omega, by omega, by omega, by omega⟩
/-- WHAT IT COMES TO -/
theorem mul_top (h0 : 0 ≤ p) (h1 : p ≤ 256) : p * (574 - 4 * p) ≤ 20593 := by
  have key : ∀ n : Fin 257, ((n.val : Nat) : Int) * (574 - 4 * ((n.val : Nat) : Int)) ≤ 20593 := by decide +kernel
  have := key ⟨p.toNat, by omega⟩
  rw [show (((⟨p.toNat, by omega⟩ : Fin 257).val : Nat) : Int) = p by show ((p.toNat : Nat) : Int) = p; omega] at this
  exact this
end LGA
