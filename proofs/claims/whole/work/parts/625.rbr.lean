/-! THE TELLING in the reference: a branch more, a branch less. -/
section RF6
variable {m0 m m' : MM} {x : CX} {s s' : TS} {B H : Int} {a b c e i j v k h n l w p r t o rh E ty ver rc : Int} {G : Int → Nat}
theorem rbegin (h : RR m0 m x s rh E H) (hW : SW x s B) (h1 : sg s 0 5 < 12) (hb : sg s 0 6 < 196608) (hH : H < 1000000000) (hE : 12 ≤ E) : ∃ m', fm_X12_begins l p m = some (0, m') ∧ RR m0 m' x (sBegin p l s) rh E (H + 1) := by
  have h5 := hW.2.2.2.2.2.2.2.1
  have h6 := hW.2.2.2.2.2.1
  have e91 : m 68 91 = sg s 0 5 := h.2.1.1
  have e92 : m 68 92 = sg s 0 6 := h.2.1.2.1
  have hd : ∃ M, fm_X12_begins l p m = some (0, M) ∧ M 143 (sg s 0 5) = sg s 0 6 ∧ M 152 (sg s 0 6) = p ∧ M 68 92 = sg s 0 6 + 1 ∧ M 144 (sg s 0 5) = l ∧ M 145 (sg s 0 5) = 0 ∧ M 148 (sg s 0 5) = -1 ∧ M 149 (sg s 0 5) = -1 ∧ M 150 (sg s 0 5) = 0 ∧ M 151 (sg s 0 5) = 0 ∧ M 68 91 = sg s 0 5 + 1 ∧ ∀ a q : Int, ¬ (a = 68 ∧ (q = 91 ∨ q = 92)) → ¬ (a = 152 ∧ q = sg s 0 6) → ¬ (143 ≤ a ∧ a ≤ 151 ∧ q = sg s 0 5) → M a q = m a q := by
    refine ⟨mset (mset (mset (mset (mset (mset (mset (mset (mset (mset m 143 (sg s 0 5) (sg s 0 6)) 152 (sg s 0 6) p) 68 92 (sg s 0 6 + 1)) 144 (sg s 0 5) l) 145 (sg s 0 5) 0) 148 (sg s 0 5) (-1)) 149 (sg s 0 5) (-1)) 150 (sg s 0 5) 0) 151 (sg s 0 5) 0) 68 91 (sg s 0 5 + 1), ?_, ?_, ?_, ?_, ?_, ?_, ?_, ?_, ?_, ?_, ?_, fun a q g1 g2 g3 => ?_⟩
    · unfold fm_X12_begins
      simp only [lx_p, up_t]
      have g5 : (0 : Int) ≤ sg s 0 5 ∧ sg s 0 5 < 12 := ⟨h5.1, h1⟩
      rw [e91, if_neg (by omega), e92, gd_t g5]
      have r92 : mset m 143 (sg s 0 5) (sg s 0 6) 68 92 = sg s 0 6 := by rw [ms_a (by decide)]; exact e92
      rw [r92, gd_t ⟨h6.1, hb⟩]
      have r92b : mset (mset m 143 (sg s 0 5) (sg s 0 6)) 152 (sg s 0 6) p 68 92 = sg s 0 6 := by rw [ms_a (by decide)]; exact r92
      rw [r92b, w32_id (z := sg s 0 6 + 1) (by omega) (by omega)]
      have q1 : mset (mset (mset m 143 (sg s 0 5) (sg s 0 6)) 152 (sg s 0 6) p) 68 92 (sg s 0 6 + 1) 68 91 = sg s 0 5 := by rw [ms_j (by decide), ms_a (by decide), ms_a (by decide)]; exact e91
      rw [q1, gd_t g5]
      have q2 : ∀ (M : MM) (z v : Int), M 68 91 = sg s 0 5 → z ≠ 68 → mset M z (sg s 0 5) v 68 91 = sg s 0 5 := fun M z v hM hz => by rw [ms_a (Ne.symm hz)]; exact hM
      have q3 := q2 _ 144 l q1 (by decide)
      rw [q3, gd_t g5]
      have q4 := q2 _ 145 0 q3 (by decide)
      rw [q4, gd_t g5]
      have q5 := q2 _ 148 (-1) q4 (by decide)
      rw [q5, gd_t g5]
      have q6 := q2 _ 149 (-1) q5 (by decide)
      rw [q6, gd_t g5]
      have q7 := q2 _ 150 0 q6 (by decide)
      rw [q7, gd_t g5]
      have q8 := q2 _ 151 0 q7 (by decide)
      rw [q8, w32_id (z := sg s 0 5 + 1) (by omega) (by omega)]
    · repeat first | rw [ms_e] | rw [ms_a (show (143 : Int) ≠ _ by decide)]
    · repeat first | rw [ms_e] | rw [ms_a (show (152 : Int) ≠ _ by decide)]
    · rw [ms_j (by decide)]
      repeat first | rw [ms_e] | rw [ms_a (show (68 : Int) ≠ _ by decide)]
    · repeat first | rw [ms_e] | rw [ms_a (show (144 : Int) ≠ _ by decide)]
    · repeat first | rw [ms_e] | rw [ms_a (show (145 : Int) ≠ _ by decide)]
    · repeat first | rw [ms_e] | rw [ms_a (show (148 : Int) ≠ _ by decide)]
    · repeat first | rw [ms_e] | rw [ms_a (show (149 : Int) ≠ _ by decide)]
    · repeat first | rw [ms_e] | rw [ms_a (show (150 : Int) ≠ _ by decide)]
    · repeat first | rw [ms_e] | rw [ms_a (show (151 : Int) ≠ _ by decide)]
    · rw [ms_e]
    · have step : ∀ (M : MM) (z y v : Int), ¬ (a = z ∧ q = y) → mset M z y v a q = M a q := fun M z y v hh => if_neg hh
      rw [step _ 68 91 _ (by omega), step _ 151 _ _ (by omega), step _ 150 _ _ (by omega), step _ 149 _ _ (by omega), step _ 148 _ _ (by omega), step _ 145 _ _ (by omega), step _ 144 _ _ (by omega), step _ 68 92 _ (by omega), step _ 152 _ _ (by omega), step _ 143 _ _ (by omega)]
  obtain ⟨M, f1, u1, u2, u3, u4, u5, u6, u7, u8, u9, u10, em⟩ := hd
  obtain ⟨hT, hS, hV, hP, hB, hQ, hU, hN, hC, ⟨⟨h3a, h3b⟩, hH2, hH3⟩⟩ := h
  have e68 : ∀ q, q ≠ 91 → q ≠ 92 → M 68 q = m 68 q := fun q q1 q2 => em _ _ (by omega) (by omega) (by omega)
  have eo : ∀ a q : Int, a ≠ 68 → a ≠ 152 → (a < 143 ∨ 151 < a) → M a q = m a q := fun a q g1 g2 g3 => em _ _ (by omega) (by omega) (by omega)
  have sb0 : ∀ q, q ≠ 5 → q ≠ 6 → sg (sBegin p l s) 0 q = sg s 0 q := fun q q1 q2 => by rw [begin_g (by decide), if_neg (by omega), if_neg (by omega), if_neg (by omega)]
  have sb5 : sg (sBegin p l s) 0 5 = sg s 0 5 + 1 := by rw [begin_g (by decide), if_neg (by omega), if_pos ⟨rfl, rfl⟩]
  have sb6 : sg (sBegin p l s) 0 6 = sg s 0 6 + 1 := by rw [begin_g (by decide), if_pos ⟨rfl, rfl⟩]
  have sbk : ∀ i q : Int, 0 ≤ i → i < sg s 0 5 → sg (sBegin p l s) (2 + i) q = sg s (2 + i) q := fun i q i1 i2 => by rw [begin_g (by omega), if_neg (by omega), if_neg (by omega), if_neg (by omega)]
  have sbn : ∀ q, sg (sBegin p l s) (2 + sg s 0 5) q = newB (sg s 0 6) p l q := fun q => by rw [begin_g (by omega), if_neg (by omega), if_neg (by omega), if_pos rfl]
  have sbp : ∀ n, sg (sBegin p l s) (-1) n = if n = sg s 0 6 then p else sg s (-1) n := fun n => by
    show mset (mset (fun a j => if a = 2 + sg s 0 5 then newB (sg s 0 6) p l j else if a = -1 ∧ j = sg s 0 6 then p else s.1 a j) 0 5 (sg s 0 5 + 1)) 0 6 (sg s 0 6 + 1) (-1) n = _
    rw [ms_a (by decide), ms_a (by decide), if_neg (show ¬ ((-1 : Int) = 2 + sg s 0 5) by omega)]
    by_cases g : n = sg s 0 6
    · rw [if_pos g, if_pos ⟨rfl, g⟩]
    · rw [if_neg g, if_neg fun hh => g hh.2]
      rfl
  have hch : ∀ {tl : List Int} {z : Int}, ChR m tl z → ChR M tl z := fun hc => hc.mono (by rw [e68 _ (by decide) (by decide)]; exact Int.le_refl _) (fun q q1 q2 => eo _ _ (by decide) (by decide) (by omega))
  refine ⟨M, f1, fun a q hh => ?_, ?_, fun a g1 g2 => by rw [eo _ _ (by decide) (by decide) (by omega), begin_g (by decide), if_neg (by omega), if_neg (by omega), if_neg (by omega)]; exact hV a g1 g2, fun n g1 g2 => ?_, ⟨by rw [sb5]; omega, fun i g1 g2 => ?_⟩, fun n g1 g2 => ?_, ?_, fun i k a b hi => ?_, ?_, ⟨by rw [e68 _ (by decide) (by decide)]; omega, by have : su (sBegin p l s) = su s := rfl; rw [this]; omega, by rw [sb6]; omega⟩⟩
  · rw [em a q (fun g => hh (by rw [g.1]; rcases g.2 with g | g <;> rw [g] <;> exact mtb68 (by omega))) (fun g => hh (by rw [g.1, g.2]; exact mtb1 (by decide) (by decide) h6.1)) (fun g => hh (Or.inr ⟨by omega, by omega, by omega⟩))]
    exact hT a q hh
  · obtain ⟨s1, s2, s3, s4, s5, s6, s7, s8, s9⟩ := hS
    refine ⟨by rw [u10, sb5], by rw [u3, sb6], by rw [e68 _ (by decide) (by decide), sb0 _ (by decide) (by decide)]; exact s3, by rw [e68 _ (by decide) (by decide), sb0 _ (by decide) (by decide)]; exact s4, by rw [e68 _ (by decide) (by decide), sb0 _ (by decide) (by decide)]; exact s5, by rw [e68 _ (by decide) (by decide), sb0 _ (by decide) (by decide)]; exact s6, by rw [e68 _ (by decide) (by decide), sb0 _ (by decide) (by decide)]; exact s7, by rw [e68 _ (by decide) (by decide)]; exact s8, fun g => by rw [sb0 _ (by decide) (by decide)] at g; rw [e68 _ (by decide) (by decide), sb0 _ (by decide) (by decide)]; exact s9 g⟩
  · rw [sb6] at g2
    rw [sbp]
    by_cases g : n = sg s 0 6
    · rw [if_pos g, g]; exact u2
    · rw [if_neg g, em _ _ (by omega) (by omega) (by omega)]
      exact hP n g1 (by omega)
  · rw [sb5] at g2
    by_cases hi : i = sg s 0 5
    · subst hi
      unfold BrR RivR
      simp only [sbn]
      rw [u1, u4, u8, u9, u6, u7, u5, begin_h, if_pos rfl]
      refine ⟨rfl, rfl, rfl, (if_pos ⟨by omega, rfl⟩).symm, rfl, Or.inl rfl, ?_, fun _ => ⟨rfl, fun g => ?_, fun g => ?_, fun g => ?_⟩⟩
      · rw [sbp]
        show p = if sg s 0 6 = sg s 0 6 then p else _
        rw [if_pos rfl]
      · have : newB (sg s 0 6) p l 7 = 0 := rfl
        omega
      · have : newB (sg s 0 6) p l 7 = 0 := rfl
        omega
      · have : newB (sg s 0 6) p l 7 = 0 := rfl
        omega
    · have hi2 : i < sg s 0 5 := by omega
      obtain ⟨b1, b2, b3, b4, b5, b6, b7, b8⟩ := hB.2 i g1 hi2
      have emi : ∀ a : Int, 143 ≤ a → a ≤ 151 → M a i = m a i := fun a a1 a2 => em _ _ (by omega) (by omega) (by omega)
      have hnum := (hW.br g1 hi2).1
      unfold BrR RivR at *
      simp only [sbk i _ g1 hi2]
      rw [emi 143 (by decide) (by decide), emi 144 (by decide) (by decide), emi 150 (by decide) (by decide), emi 151 (by decide) (by decide), emi 148 (by decide) (by decide), emi 149 (by decide) (by decide), emi 145 (by decide) (by decide), emi 146 (by decide) (by decide), emi 147 (by decide) (by decide), begin_h, if_neg hi, sbp, if_neg (show ¬ sg s (2 + i) 0 = sg s 0 6 by omega), sb5, sb6]
      refine ⟨b1, b2, b3, b4, hch b5, b6.imp id fun g => ⟨g.1, by omega, fun q q1 q2 => ?_⟩, b7, b8⟩
      by_cases hq : q = sg s 0 5
      · rw [hq, sbn]
        show sg s 0 6 ≠ _
        omega
      · rw [sbk q _ q1 (by omega)]
        exact g.2.2 q q1 (by omega)
  · rw [eo _ _ (by decide) (by decide) (by omega), eo _ _ (by decide) (by decide) (by omega), sb0 _ (by decide) (by decide)]
    obtain ⟨q1, q2, q3, q4⟩ := hQ n g1 g2
    exact ⟨q1, q2, q3, fun i v hv => by rw [eo _ _ (by decide) (by decide) (by omega)]; exact q4 i v hv⟩
  · refine ⟨by rw [e68 _ (by decide) (by decide)]; exact hU.1, fun i v hv => ?_⟩
    rw [e68 _ (by decide) (by decide), eo _ _ (by decide) (by decide) (by omega)]
    exact hU.2 i v hv
  · rw [eo _ _ (by decide) (by decide) (by omega), eo _ _ (by decide) (by decide) (by omega)]
    exact hN i k a b hi
  · unfold PT at hC ⊢
    rw [e68 _ (by decide) (by decide), e68 _ (by decide) (by decide), sb0 _ (by decide) (by decide), sb0 _ (by decide) (by decide)]
    exact hC
/-- the rows of branches without one place -/
def shR (m : MM) (k i : Int) : MM := fun a j => if 143 ≤ a ∧ a ≤ 151 ∧ k ≤ j ∧ j < i then m a (j + 1) else m a j
theorem rrem_l (ht : m 68 91 = t) (h0 : 0 ≤ k) (h2 : t ≤ 11) (hi : ∀ j : Int, 0 ≤ j → j ≤ t → m 151 j = 0 ∨ m 151 j = 1) : ∀ (n f : Nat) (i : Int), k ≤ i → i ≤ t → t - i = n → n < f → fl_X12_removes_12 f i (shR m k i) = some (0, shR m k t) := by
  intro n
  induction n with
  | zero =>
    intro f i g0 g1 g2 g3
    obtain ⟨f, rfl⟩ : ∃ g, f = g + 1 := ⟨f - 1, by omega⟩
    have e : shR m k i 68 91 = t := by unfold shR; rw [if_neg (by omega)]; exact ht
    unfold fl_X12_removes_12
    simp only [lx_p]
    rw [e, if_neg (by omega), show i = t by omega]
  | succ n ih =>
    intro f i g0 g1 g2 g3
    obtain ⟨f, rfl⟩ : ∃ g, f = g + 1 := ⟨f - 1, by omega⟩
    have e : shR m k i 68 91 = t := by unfold shR; rw [if_neg (by omega)]; exact ht
    have er : ∀ a : Int, shR m k i a (i + 1) = m a (i + 1) := fun a => by unfold shR; rw [if_neg (by omega)]
    have hst : mset (mset (mset (mset (mset (mset (mset (mset (mset (shR m k i) 143 i (m 143 (i + 1))) 144 i (m 144 (i + 1))) 145 i (m 145 (i + 1))) 146 i (m 146 (i + 1))) 147 i (m 147 (i + 1))) 148 i (m 148 (i + 1))) 149 i (m 149 (i + 1))) 150 i (m 150 (i + 1))) 151 i (m 151 (i + 1)) = shR m k (i + 1) := by
      funext b j
      by_cases hb : 143 ≤ b ∧ b ≤ 151 ∧ j = i
      · obtain ⟨b1, b2, rfl⟩ := hb
        have e2 : shR m k (j + 1) b j = m b (j + 1) := by unfold shR; rw [if_pos (by omega)]
        rw [e2]
        have hb9 : b = 143 ∨ b = 144 ∨ b = 145 ∨ b = 146 ∨ b = 147 ∨ b = 148 ∨ b = 149 ∨ b = 150 ∨ b = 151 := by omega
        rcases hb9 with rfl | rfl | rfl | rfl | rfl | rfl | rfl | rfl | rfl
        · repeat first | rw [ms_e] | rw [ms_a (show (143 : Int) ≠ _ by decide)]
        · repeat first | rw [ms_e] | rw [ms_a (show (144 : Int) ≠ _ by decide)]
        · repeat first | rw [ms_e] | rw [ms_a (show (145 : Int) ≠ _ by decide)]
        · repeat first | rw [ms_e] | rw [ms_a (show (146 : Int) ≠ _ by decide)]
        · repeat first | rw [ms_e] | rw [ms_a (show (147 : Int) ≠ _ by decide)]
        · repeat first | rw [ms_e] | rw [ms_a (show (148 : Int) ≠ _ by decide)]
        · repeat first | rw [ms_e] | rw [ms_a (show (149 : Int) ≠ _ by decide)]
        · repeat first | rw [ms_e] | rw [ms_a (show (150 : Int) ≠ _ by decide)]
        · repeat first | rw [ms_e] | rw [ms_a (show (151 : Int) ≠ _ by decide)]
      · have step : ∀ (M : MM) (z v : Int), 143 ≤ z → z ≤ 151 → mset M z i v b j = M b j := fun M z v z1 z2 => if_neg (by omega)
        rw [step _ 151 _ (by decide) (by decide), step _ 150 _ (by decide) (by decide), step _ 149 _ (by decide) (by decide), step _ 148 _ (by decide) (by decide), step _ 147 _ (by decide) (by decide), step _ 146 _ (by decide) (by decide), step _ 145 _ (by decide) (by decide), step _ 144 _ (by decide) (by decide), step _ 143 _ (by decide) (by decide)]
        unfold shR
        by_cases hc : 143 ≤ b ∧ b ≤ 151 ∧ k ≤ j ∧ j < i
        · rw [if_pos hc, if_pos (by omega)]
        · rw [if_neg hc, if_neg (by omega)]
    have gi : (0 : Int) ≤ i ∧ i < 12 := by omega
    unfold fl_X12_removes_12
    simp only [lx_p, up_t]
    rw [e, if_pos (by omega), w32_id (z := i + 1) (by omega) (by omega), gd_t (by omega), gd_t gi]
    rw [er 143]
    have f1 : ∀ (M : MM) (z v y : Int), y ≠ z → M y (i + 1) = m y (i + 1) → mset M z i v y (i + 1) = m y (i + 1) := fun M z v y hy hM => by rw [ms_a hy]; exact hM
    have A1 : ∀ y, mset (shR m k i) 143 i (m 143 (i + 1)) y (i + 1) = m y (i + 1) := fun y => by rw [show mset (shR m k i) 143 i (m 143 (i + 1)) y (i + 1) = shR m k i y (i + 1) from if_neg (by omega)]; exact er y
    have nx : ∀ (M : MM) (z v : Int), (∀ y, M y (i + 1) = m y (i + 1)) → ∀ y, mset M z i v y (i + 1) = m y (i + 1) := fun M z v hM y => by rw [show mset M z i v y (i + 1) = M y (i + 1) from if_neg (by omega)]; exact hM y
    have A2 := nx _ 144 (m 144 (i + 1)) A1
    have A3 := nx _ 145 (m 145 (i + 1)) A2
    have A4 := nx _ 146 (m 146 (i + 1)) A3
    have A5 := nx _ 147 (m 147 (i + 1)) A4
    have A6 := nx _ 148 (m 148 (i + 1)) A5
    have A7 := nx _ 149 (m 149 (i + 1)) A6
    have A8 := nx _ 150 (m 150 (i + 1)) A7
    rw [A1 144, A2 145, A3 146, A4 147, A5 148, A6 149, A7 150, A8 151, gd_t (hi (i + 1) (by omega) (by omega)), hst]
    exact ih f (i + 1) (by omega) (by omega) (by omega) (by omega)
theorem rrem (h : RR m0 m x s rh E H) (hE : 12 ≤ E) (hW : SW x s B) (h0 : 0 ≤ k) (h1 : k < sg s 0 5) : ∃ m', fm_X12_removes k m = some (0, m') ∧ RR m0 m' x (sRem k s) rh E H := by
  have h5 := hW.2.2.2.2.2.2.2.1
  have e91 : m 68 91 = sg s 0 5 := h.2.1.1
  have eM : ∀ a q : Int, ¬ (a = 68 ∧ q = 91) → mset m 68 91 (sg s 0 5 - 1) a q = m a q := fun a q hh => if_neg hh
  have hl := rrem_l (m := mset m 68 91 (sg s 0 5 - 1)) (t := sg s 0 5 - 1) (k := k) ms_e h0 (by omega) (fun j j1 j2 => by
    rw [eM _ _ (by omega), (h.br j1 (by omega)).2.2.2.1]
    split
    · exact Or.inl rfl
    · exact Or.inr rfl) (sg s 0 5 - 1 - k).toNat BIG k (Int.le_refl _) (by omega) (by omega) (BIG_g (by omega))
  have hs0 : shR (mset m 68 91 (sg s 0 5 - 1)) k k = mset m 68 91 (sg s 0 5 - 1) := by
    funext a j
    unfold shR
    rw [if_neg (by omega)]
  rw [hs0] at hl
  have hd : fm_X12_removes k m = some (0, shR (mset m 68 91 (sg s 0 5 - 1)) k (sg s 0 5 - 1)) := by
    unfold fm_X12_removes
    simp only [lx_p, up_t]
    rw [e91, w32_id (by omega) (by omega)]
    exact hl
  generalize hM : shR (mset m 68 91 (sg s 0 5 - 1)) k (sg s 0 5 - 1) = M at hd
  have m91 : M 68 91 = sg s 0 5 - 1 := by subst hM; unfold shR; rw [if_neg (by omega), ms_e]
  have em : ∀ a q : Int, ¬ (a = 68 ∧ q = 91) → (a < 143 ∨ 151 < a) → M a q = m a q := fun a q g1 g2 => by
    subst hM
    unfold shR
    rw [if_neg (by omega)]
    exact if_neg g1
  have ei : ∀ a i : Int, 143 ≤ a → a ≤ 151 → 0 ≤ i → i < sg s 0 5 - 1 → M a i = m a (if i < k then i else i + 1) := fun a i a1 a2 i1 i2 => by
    subst hM
    unfold shR
    by_cases q : i < k
    · rw [if_neg (by omega), if_pos q]
      exact if_neg (by omega)
    · rw [if_pos (by omega), if_neg q]
      exact if_neg (by omega)
  obtain ⟨hT, hS, hV, hP, hB, hQ, hU, hN, hC, ⟨⟨h3a, h3b⟩, hH2, hH3⟩⟩ := h
  have e68 : ∀ q, q ≠ 91 → M 68 q = m 68 q := fun q q1 => em _ _ (by omega) (by omega)
  have eo : ∀ a q : Int, a ≠ 68 → (a < 143 ∨ 151 < a) → M a q = m a q := fun a q g1 g2 => em _ _ (by omega) g2
  have r0 : ∀ q, q ≠ 5 → q ≠ 2 → sg (sRem k s) 0 q = sg s 0 q := fun q q1 q2 => rem_o (Or.inl ⟨rfl, q1, q2⟩)
  have rp : ∀ n, sg (sRem k s) (-1) n = sg s (-1) n := fun n => by
    have e : sg (sRem k s) (-1) n = (if (-1 : Int) = 0 ∧ n = 5 then s.1 0 5 - 1 else if (2 : Int) ≤ -1 ∧ (-1 : Int) < 2 + (s.1 0 5 - 1) then
    (if n = 2 ∧ s.1 (if (-1 : Int) < 2 + k then -1 else -1 + 1) 2 = s.1 (2 + k) 0 then s.1 (2 + k) 2 else s.1 (if (-1 : Int) < 2 + k then -1 else -1 + 1) n) else s.1 (-1) n) := rfl
    rw [e, if_neg (by omega), if_neg (by omega)]
    rfl
  have hch : ∀ {tl : List Int} {z : Int}, ChR m tl z → ChR M tl z := fun hc => hc.mono (by rw [e68 _ (by decide)]; exact Int.le_refl _) (fun q q1 q2 => eo _ _ (by decide) (by omega))
  refine ⟨M, hd, fun a q hh => ?_, ?_, fun a g1 g2 => by rw [eo _ _ (by decide) (by omega), rem_o (Or.inr rfl)]; exact hV a g1 g2, fun n g1 g2 => ?_, ⟨by rw [rem_5]; omega, fun i g1 g2 => ?_⟩, fun n g1 g2 => ?_, ?_, fun i k a b hi => ?_, ?_, ⟨by rw [e68 _ (by decide)]; exact ⟨h3a, h3b⟩, hH2, by rw [r0 6 (by decide) (by decide)]; exact hH3⟩⟩
  · by_cases hc : 143 ≤ a ∧ a ≤ 151
    · have hq : q < 0 := Int.not_le.mp fun g => hh (mtb1 (by omega) (by omega) g)
      have : M a q = m a q := by
        subst hM
        unfold shR
        rw [if_neg (by omega)]
        exact if_neg (by omega)
      rw [this]
      exact hT a q hh
    · rw [em a q (fun g => hh (by rw [g.1, g.2]; exact mtb68 (by omega))) (by omega)]
      exact hT a q hh
  · obtain ⟨s1, s2, s3, s4, s5, s6, s7, s8, s9⟩ := hS
    refine ⟨by rw [m91, rem_5], by rw [e68 _ (by decide), r0 _ (by decide) (by decide)]; exact s2, by rw [e68 _ (by decide), r0 _ (by decide) (by decide)]; exact s3, by rw [e68 _ (by decide), r0 _ (by decide) (by decide)]; exact s4, by rw [e68 _ (by decide), r0 _ (by decide) (by decide)]; exact s5, by rw [e68 _ (by decide), r0 _ (by decide) (by decide)]; exact s6, by rw [e68 _ (by decide), r0 _ (by decide) (by decide)]; exact s7, by rw [e68 _ (by decide)]; exact s8, fun g => by rw [r0 _ (by decide) (by decide)] at g; rw [e68 _ (by decide), r0 _ (by decide) (by decide)]; exact s9 g⟩
  · rw [r0 6 (by decide) (by decide)] at g2
    rw [eo _ _ (by decide) (by omega), rp]
    exact hP n g1 g2
  · rw [rem_5] at g2
    have hq := hB.2 (if i < k then i else i + 1) (by split <;> omega) (by split <;> omega)
    unfold BrR RivR at hq ⊢
    rw [ei 143 i (by decide) (by decide) g1 g2, ei 144 i (by decide) (by decide) g1 g2, ei 150 i (by decide) (by decide) g1 g2, ei 151 i (by decide) (by decide) g1 g2, ei 148 i (by decide) (by decide) g1 g2, ei 149 i (by decide) (by decide) g1 g2, ei 145 i (by decide) (by decide) g1 g2, ei 146 i (by decide) (by decide) g1 g2, ei 147 i (by decide) (by decide) g1 g2, rem_g g1 g2 (by decide), rem_g g1 g2 (by decide), rem_g g1 g2 (by decide), rem_g g1 g2 (by decide), rem_g g1 g2 (by decide), rem_g g1 g2 (by decide), rem_g g1 g2 (by decide), rem_g g1 g2 (by decide), rem_g g1 g2 (by decide), rem_h, rp, r0 6 (by decide) (by decide)]
    obtain ⟨b1, b2, b3, b4, b5, b6, b7, b8⟩ := hq
    have hj : (if i < k then i else i + 1) < E := by split <;> omega
    generalize (if i < k then i else i + 1) = jj at *
    refine ⟨b1, b2, b3, b4.trans ?_, hch b5, b6.imp id fun g => ⟨g.1, g.2.1, fun q q1 q2 => ?_⟩, b7, b8⟩
    · by_cases q : sg s (2 + jj) 6 = 0
      · rw [if_pos ⟨hj, q⟩, if_pos ⟨by omega, q⟩]
      · rw [if_neg (fun g => q g.2), if_neg (fun g => q g.2)]
    rw [rem_5] at q2
    rw [rem_g q1 q2 (by decide)]
    exact g.2.2 _ (by split <;> omega) (by split <;> omega)
  · rw [eo _ _ (by decide) (by omega), eo _ _ (by decide) (by omega), r0 41 (by decide) (by decide)]
    obtain ⟨q1, q2, q3, q4⟩ := hQ n g1 g2
    exact ⟨q1, q2, q3, fun i v hv => by rw [eo _ _ (by decide) (by omega)]; exact q4 i v hv⟩
  · refine ⟨by rw [e68 _ (by decide)]; exact hU.1, fun i v hv => ?_⟩
    rw [e68 _ (by decide), eo _ _ (by decide) (by omega)]
    exact hU.2 i v hv
  · rw [eo _ _ (by decide) (by omega), eo _ _ (by decide) (by omega)]
    exact hN i k a b hi
  · unfold PT at hC ⊢
    rw [e68 _ (by decide), e68 _ (by decide), r0 _ (by decide) (by decide), r0 _ (by decide) (by decide)]
    exact hC
end RF6
