/-! THE LEDGER: signals counted, arrivals put, rows grown, TAGs; how the calls keep it. -/
section LGA
variable {e e' e1 e2 e3 e5 : ES} {S D T A B P W V S' D' T' a b c d i j k q r v w N M p y t o p1 p2 p3 n s z ν L O k30 k31 ℓ ℓ' tg : Int}
/-- S signals, D completes, T takings over, B copies set back, A runs that an AGAIN began with signals (P in all); W: all signals at each T and B, and P; V: how often a complete was the first to count one; ℓ: no code is longer -/
def LG (k30 k31 ℓ S D T A B P W V : Int) (e : ES) : Prop :=
  ((0 ≤ B ∧ 0 ≤ A ∧ A + B ≤ e.1 7 2) ∧ (0 ≤ S ∧ 0 ≤ D ∧ 0 ≤ T)) ∧ (0 ≤ V ∧ (0 ≤ P ∧ P ≤ S * A) ∧ V + P ≤ S * D) ∧ (0 ≤ W ∧ W ≤ S * (B + T) + P) ∧
  sm (qU e) 30 + LO e + V ≤ S + W ∧
  e.1 4 16 + QLk e + QV e + LO e ≤ 30 * V + 537 * D + 3 * e.1 7 2 + S + W + 13 * B + 390 * T ∧
  e.1 3 0 - e.1 4 16 ≤ k30 + 60 * V + 1074 * D ∧
  e.1 3 1 ≤ k31 + 30 * V + 537 * D + 12 * B + 360 * T + W ∧
  e.1 68 29 + QLk e + QV e + LO e ≤ 481 * D + 6 * e.1 7 2 + S + 2 * W + 13 * B + 390 * T ∧
  ∀ L : Int, 1 ≤ L → ℓ ≤ L → L * e.1 4 11 ≤ (59 * L - 60) * V + 965 * L * D
theorem mul_up (h : a ≤ b) (c0 : 0 ≤ c) : a * c ≤ b * c := Int.mul_le_mul_of_nonneg_right h c0
/-- a plain call -/
theorem LG.plain (h : LG k30 k31 ℓ S D T A B P W V e) (g : Q7 e e') (w : WL e e') : LG k30 k31 ℓ S D T A B P W V e' := by
  obtain ⟨h1, h2, h3, h4, h5, h6, h7, h9, hT⟩ := h
  obtain ⟨g7, m, q1, -, q3, q4, q5⟩ := g
  obtain ⟨⟨u1, ⟨u2, -⟩, u3, -⟩, u4⟩ := w
  have u5 := ug_sm u1
  exact ⟨⟨⟨h1.1.1, h1.1.2.1, by omega⟩, h1.2⟩, h2, h3, by omega, by omega, by omega, by omega, by omega, by rw [u3]; exact hT⟩
/-- S counted higher than it is -/
theorem LG.upS (h : LG k30 k31 ℓ S D T A B P W V e) (hS : S ≤ S') : LG k30 k31 ℓ S' D T A B P W V e := by
  obtain ⟨h1, h2, h3, h4, h5, h6, h8, h9⟩ := h
  have m1 := mul_up (a := S) (b := S') (c := D) hS h1.2.2.1
  have m2 := mul_up (a := S) (b := S') (c := B + T) hS (by omega)
  have m3 := mul_up (a := S) (b := S') (c := A) hS h1.1.2.1
  exact ⟨⟨h1.1, by omega, h1.2.2⟩, ⟨h2.1, ⟨h2.2.1.1, by omega⟩, by omega⟩, ⟨h3.1, by omega⟩, by omega, by omega, by omega, by omega, by omega, h9.2⟩
/-- a signal or an update -/
theorem LG.sig (h : LG k30 k31 ℓ S D T A B P W V e) (h7 : e.1 7 2 ≤ e'.1 7 2) (g : Q1 1 1 0 e e') (w : WL e e') : LG k30 k31 ℓ (S + 1) D T A B P W V e' := by
  obtain ⟨h1, h2, h3, h4, h5, h6, h8, h9, hT⟩ := h
  obtain ⟨m, q1, -, q3, q4, q5⟩ := g
  obtain ⟨⟨u1, ⟨u2, -⟩, u3, -⟩, u4⟩ := w
  have u5 := ug_sm u1
  have m1 := mul_up (a := S) (b := S + 1) (c := D) (by omega) h1.2.2.1
  have m2 := mul_up (a := S) (b := S + 1) (c := B + T) (by omega) (by omega)
  have m3 := mul_up (a := S) (b := S + 1) (c := A) (by omega) h1.1.2.1
  exact ⟨⟨⟨h1.1.1, h1.1.2.1, by omega⟩, by omega, h1.2.2⟩, ⟨h2.1, ⟨h2.2.1.1, by omega⟩, by omega⟩, ⟨h3.1, by omega⟩, by omega, by omega, by omega, by omega, by omega, by rw [u3]; exact hT⟩
theorem tg_up (h : L * t ≤ (59 * L - 60) * V + 965 * L * D) (h1 : 1 ≤ L) : L * t ≤ (59 * L - 60) * V + 965 * L * (D + 1) := by
  have m1 : 965 * L * (D + 1) = 965 * L * D + 965 * L := by rw [Int.mul_add, Int.mul_one]
  omega
theorem LG.upD (h : LG k30 k31 ℓ S D T A B P W V e) : LG k30 k31 ℓ S (D + 1) T A B P W V e := by
  obtain ⟨h1, h2, h3, h4, h5, h6, h8, h9, hT⟩ := h
  have m1 : S * (D + 1) = S * D + S := by rw [Int.mul_add, Int.mul_one]
  exact ⟨⟨h1.1, h1.2.1, by omega, h1.2.2.2⟩, ⟨h2.1, h2.2.1, by omega⟩, h3, h4, by omega, by omega, by omega, by omega, fun L l1 l2 => tg_up (hT L l1 l2) l1⟩
/-- code grows -/
theorem LG.upL (h : LG k30 k31 ℓ S D T A B P W V e) (hl : ℓ ≤ ℓ') : LG k30 k31 ℓ' S D T A B P W V e := by
  obtain ⟨h1, h2, h3, h4, h5, h6, h8, h9, hT⟩ := h
  exact ⟨h1, h2, h3, h4, h5, h6, h8, h9, fun L l1 l2 => hT L l1 (by omega)⟩
/-- what was lost is brought back -/
theorem LG.join (h : LG k30 k31 ℓ S D T A B P W V e) (h7 : e.1 7 2 ≤ e'.1 7 2) (g : Q1 (LO e - LO e') (LO e - LO e') 0 e e') (w : WG e e') : LG k30 k31 ℓ S D T A B P W V e' := by
  obtain ⟨h1, h2, h3, h4, h5, h6, h8, h9, hT⟩ := h
  obtain ⟨m, q1, -, q3, q4, q5⟩ := g
  obtain ⟨u1, ⟨u2, -⟩, u3, -⟩ := w
  have u5 := ug_sm u1
  exact ⟨⟨⟨h1.1.1, h1.1.2.1, by omega⟩, h1.2⟩, h2, h3, by omega, by omega, by omega, by omega, by omega, by rw [u3]; exact hT⟩
/-- another takes over -/
theorem LG.take (h : LG k30 k31 ℓ S D T A B P W V e) (h7 : e.1 7 2 ≤ e'.1 7 2) (g : Q1 390 0 (S + 360) e e') (l : LO e' ≤ S) (w : ∃ e3, CT e e3 ∧ (WL e3 e' ∧ sm (qCs e') 30 ≤ sm (qCs e3) 30) ∧ sm (qU e3) 30 + LO e3 ≤ sm (qU e) 30 + LO e + S) : LG k30 k31 ℓ S D (T + 1) A B P (W + S) V e' := by
  obtain ⟨h1, h2, h3, h4, h5, h6, h8, h9, hT⟩ := h
  obtain ⟨m, q1, -, q3, q4, q5⟩ := g
  obtain ⟨e3, c1, ⟨⟨⟨u1, ⟨u2, -⟩, u3, -⟩, u4⟩, u6⟩, u7⟩ := w
  have u5 := ug_sm u1
  have l0 : 0 ≤ LO e := LO_n
  obtain ⟨-, -, -, -, c68, c30, -, c4⟩ := c1
  have c29 := c68 29
  have c16 := c4 16 (by decide)
  have c11 := c4 11 (by decide)
  have m1 : S * (B + (T + 1)) = S * (B + T) + S := by rw [← Int.add_assoc, Int.mul_add, Int.mul_one]
  have hS := h1.2.1
  exact ⟨⟨⟨h1.1.1, h1.1.2.1, by omega⟩, h1.2.1, h1.2.2.1, by omega⟩, h2, ⟨by omega, by omega⟩, by omega, by omega, by omega, by omega, by omega, by rw [u3, c11]; exact hT⟩
/-- a copy is set back -/
theorem LG.copy (h : LG k30 k31 ℓ S D T A B P W V e) (h7 : e.1 7 2 + 1 ≤ e'.1 7 2) (g : Q1 (13 + S) S 12 e e') (w : ∃ e5, SBf e e5 ∧ UG e e5 ∧ LO e5 = LO e ∧ WL e5 e') : LG k30 k31 ℓ S D T A (B + 1) P (W + S) V e' := by
  obtain ⟨h1, h2, h3, h4, h5, h6, h8, h9, hT⟩ := h
  obtain ⟨m, q1, -, q3, q4, q5⟩ := g
  obtain ⟨e5, ⟨-, -, c68, c30, c4⟩, ug, lo, ⟨u1, ⟨u2, -⟩, u3, -⟩, u4⟩ := w
  have u5 := ug_sm (ug.tr u1)
  have c16 := c4 16
  have c11 := c4 11
  have c29 := c68 29
  have m1 : S * (B + 1 + T) = S * (B + T) + S := by rw [show B + 1 + T = B + T + 1 by omega, Int.mul_add, Int.mul_one]
  have hS := h1.2.1
  exact ⟨⟨⟨by omega, h1.1.2.1, by omega⟩, h1.2⟩, h2, ⟨by omega, by omega⟩, by omega, by omega, by omega, by omega, by omega, by rw [u3, c11]; exact hT⟩
theorem tg_add (h : L * t ≤ (59 * L - 60) * V + 965 * L * D) (g : L * tg ≤ (59 * L - 60) * ν + 965 * L) : L * (t + tg) ≤ (59 * L - 60) * (V + ν) + 965 * L * (D + 1) := by
  have m1 : 965 * L * (D + 1) = 965 * L * D + 965 * L := by rw [Int.mul_add, Int.mul_one]
  have m2 : (59 * L - 60) * (V + ν) = (59 * L - 60) * V + (59 * L - 60) * ν := Int.mul_add _ _ _
  have m3 : L * (t + tg) = L * t + L * tg := Int.mul_add _ _ _
  omega
/-- a complete that is not stale; q: what its AGAIN puts again -/
theorem LG.comp (hO : e'.1 68 29 ≤ e.1 68 29 + 1 + 2 * (e'.1 4 16 - e.1 4 16 - (hN0 e' r - hN0 e r - (L + 1)))) (hq : (0 ≤ QLk e ∧ QLk e' ≤ 420) ∧ 0 ≤ QV e' ∧ QV e ≤ 60) (h : LG k30 k31 ℓ S D T A B P W V e) (h7 : e.1 7 2 ≤ e'.1 7 2) (l : LO e' = LO e) (h30 : e'.1 3 0 - e'.1 4 16 = e.1 3 0 - e.1 4 16 + (L + 1)) (h11 : e'.1 4 11 = e.1 4 11 + tg) (q0 : 0 ≤ q) (hc : c = 0 ∨ (c = q ∧ e.1 7 2 + 1 ≤ e'.1 7 2)) (g : QQ r (O + 2 * (e'.1 7 2 - e.1 7 2) + c) (3 * (e'.1 7 2 - e.1 7 2) + c - (L + 1)) c O e e') (hν : (0 ≤ ν ∧ ν ≤ S ∧ ν + q ≤ S) ∧ L ≤ 60 * ν + 1073 ∧ 2 * O ≤ 60 * ν + 1073 ∧ ∀ L : Int, 1 ≤ L → ℓ ≤ L → L * tg ≤ (59 * L - 60) * ν + 965 * L) (hu : sm (qU e') 30 + ν ≤ sm (qU e) 30 + (sm (qCs e') 30 - sm (qCs e) 30)) : ∃ A' P' W' V', LG k30 k31 ℓ S (D + 1) T A' B P' W' V' e' := by
  obtain ⟨h1, h2, h3, h4, h5, h6, h8, h9, hT⟩ := h
  obtain ⟨q1, q2, q3, q4, q5⟩ := g
  obtain ⟨n1, n2, n3, n4⟩ := hν
  have m1 : S * (D + 1) = S * D + S := by rw [Int.mul_add, Int.mul_one]
  have hTg : ∀ L : Int, 1 ≤ L → ℓ ≤ L → L * e'.1 4 11 ≤ (59 * L - 60) * (V + ν) + 965 * L * (D + 1) := fun L l1 l2 => by
    rw [h11]
    exact tg_add (hT L l1 l2) (n4 L l1 l2)
  rcases hc with hc | ⟨hc, hc7⟩
  · exact ⟨A, P, W, V + ν, ⟨⟨h1.1.1, h1.1.2.1, by omega⟩, h1.2.1, by omega, h1.2.2.2⟩, ⟨by omega, h2.2.1, by omega⟩, h3, by omega, by omega, by omega, by omega, by omega, hTg⟩
  · have m2 : S * (A + 1) = S * A + S := by rw [Int.mul_add, Int.mul_one]
    exact ⟨A + 1, P + q, W + q, V + ν, ⟨⟨h1.1.1, by omega, by omega⟩, h1.2.1, by omega, h1.2.2.2⟩, ⟨by omega, ⟨by omega, by omega⟩, by omega⟩, ⟨by omega, by omega⟩, by omega, by omega, by omega, by omega, by omega, hTg⟩
/-- a complete that finds its run stuck -/
theorem LG.stuck (h : LG k30 k31 ℓ S D T A B P W V e) (h7 : e'.1 7 2 = e.1 7 2) (g : QQ r 0 0 0 0 e e') (hN7 : ∀ i : Int, 0 ≤ i → i < e.1 7 2 → hN e' i = hN e i ∧ eH e' i = eH e i) (hl : ∀ c : Int, eL e' c = eL e c) (h30 : e'.1 3 0 = e.1 3 0) (h16 : e'.1 4 16 = e.1 4 16) (h29 : e'.1 68 29 = e.1 68 29) (h11 : e'.1 4 11 = e.1 4 11) : LG k30 k31 ℓ S D T A B P W V e' := by
  obtain ⟨h1, h2, h3, h4, h5, h6, h8, h9, hT⟩ := h
  obtain ⟨q1, -, q3, q4, q5⟩ := g
  have u5 := ug_sm (UG.of h7 hN7)
  have l : LO e' = LO e := LO_of (by omega) (fun i _ _ => hl _) fun i i0 i1 => by omega
  exact ⟨⟨⟨h1.1.1, h1.1.2.1, by omega⟩, h1.2⟩, h2, h3, by omega, by omega, by omega, by omega, by omega, by rw [h11]; exact hT⟩
end LGA
