/-! THE TELLING in the reference: what it reads of branches. -/
section RF7
variable {m0 m m' : MM} {x : CX} {s s' : TS} {B H : Int} {a b c e i j v k h n l w p r t o rh E ty ver rc : Int} {G : Int → Nat}
/-- numbers rise by place; a parent was begun before -/
def SI (s : TS) : Prop := (∀ i k : Int, 0 ≤ i → i < k → k < sg s 0 5 → sg s (2 + i) 0 < sg s (2 + k) 0) ∧ (∀ n : Int, 0 ≤ n → n < sg s 0 6 → -1 ≤ sg s (-1) n ∧ sg s (-1) n < n)
/-- none is doomed (between lines) -/
def ND (s : TS) : Prop := ∀ k : Int, 0 ≤ k → k < sg s 0 5 → sg s (2 + k) 9 = 0
/-- two wait for two -/
def WD (s : TS) : Prop := ∀ i k : Int, 0 ≤ i → i < sg s 0 5 → 0 ≤ k → k < sg s 0 5 → (sg s (2 + i) 7 = 1 ∨ sg s (2 + i) 7 = 2) → (sg s (2 + k) 7 = 1 ∨ sg s (2 + k) 7 = 2) → sg s (2 + i) 8 = sg s (2 + k) 8 → i = k
theorem goes_r (h : RE m0 m x s rh E H) : fm_X12_goes m = some (if goes s = true then 1 else 0) := by
  unfold fm_X12_goes goes
  simp only [lx_p]
  rcases h with ⟨h1, h2⟩ | ⟨h1, h2, h3, h4⟩
  · have e1 := h2.2.1.2.2.2.2.1
    have e2 := h2.2.1.2.2.2.2.2.2.1
    rw [e1, e2, h1]
    by_cases c : sg s 0 9 = 0
    · simp [c]
    · simp [c]
  · rw [h3, h2]
    by_cases c : m 68 112 = 0
    · simp [c]
    · simp [c]
theorem slot_r (h : RR m0 m x s rh E H) (hI : SI s) : fm_X12_slot v m = some (find s v) := by
  have hn := h.n91
  have key : ∀ (n f : Nat) (k y : Int), 0 ≤ k → k + n = 12 → n < f → fl_X12_slot_4 v m f y k = some (if sFind s 0 v n k = -1 then y else sFind s 0 v n k) := by
    intro n
    induction n with
    | zero =>
      intro f k y h0 h1 h2
      obtain ⟨f, rfl⟩ : ∃ g, f = g + 1 := ⟨f - 1, by omega⟩
      unfold fl_X12_slot_4
      simp only [lx_p]
      rw [hn.2.2, if_neg (by omega)]
      rfl
    | succ n ih =>
      intro f k y h0 h1 h2
      obtain ⟨f, rfl⟩ : ∃ g, f = g + 1 := ⟨f - 1, by omega⟩
      unfold fl_X12_slot_4 sFind
      simp only [lx_p]
      rw [hn.2.2]
      by_cases c1 : k < sg s 0 5
      · rw [if_pos c1, if_pos c1, gd_t ⟨h0, by omega⟩, (h.br h0 c1).1, w32_id (by omega) (by omega)]
        by_cases c3 : sg s (2 + k) 0 = v
        · rw [if_pos c3, if_pos c3, if_neg (by omega), ih f (k + 1) k (by omega) (by omega) (by omega)]
          rcases sFind_b (s := s) (j := 0) (v := v) n (k + 1) (by omega) with g | ⟨g1, g2, g3⟩
          · rw [if_pos g]
          · have := hI.1 k _ h0 (show k < sFind s 0 v n (k + 1) by omega) g2
            omega
        · rw [if_neg c3, if_neg c3]
          exact ih f (k + 1) y (by omega) (by omega) (by omega)
      · rw [if_neg c1, if_neg c1, if_pos rfl]
  unfold fm_X12_slot find
  rw [key 12 BIG 0 (-1) (by decide) rfl (BIG_g (by omega))]
  by_cases g : sFind s 0 v 12 0 = -1
  · rw [if_pos g, g]
  · rw [if_neg g]
theorem kid_r (h : RR m0 m x s rh E H) (hW : SW x s B) (hb : sg s 0 6 ≤ 196608) : fm_X12_hasChild v m = some (if hasKid s v = true then 1 else 0) := by
  have hn := h.n91
  have one : ∀ (n f : Nat) (k : Int), 0 ≤ k → k + n = 12 → n < f → fl_X12_hasChild_4 v m f 1 k = some 1 := by
    intro n
    induction n with
    | zero =>
      intro f k h0 h1 h2
      obtain ⟨f, rfl⟩ : ∃ g, f = g + 1 := ⟨f - 1, by omega⟩
      unfold fl_X12_hasChild_4
      simp only [lx_p]
      rw [hn.2.2, if_neg (by omega), gd_t (Or.inr trivial)]
    | succ n ih =>
      intro f k h0 h1 h2
      obtain ⟨f, rfl⟩ : ∃ g, f = g + 1 := ⟨f - 1, by omega⟩
      unfold fl_X12_hasChild_4
      simp only [lx_p]
      rw [hn.2.2]
      by_cases c1 : k < sg s 0 5
      · rw [if_pos c1, if_neg (by decide), w32_id (by omega) (by omega)]
        exact ih f (k + 1) (by omega) (by omega) (by omega)
      · rw [if_neg c1, gd_t (Or.inr trivial)]
  have key : ∀ (n f : Nat) (k : Int), 0 ≤ k → k + n = 12 → n < f → fl_X12_hasChild_4 v m f 0 k = some (if 0 ≤ sFind s 1 v n k then 1 else 0) := by
    intro n
    induction n with
    | zero =>
      intro f k h0 h1 h2
      obtain ⟨f, rfl⟩ : ∃ g, f = g + 1 := ⟨f - 1, by omega⟩
      unfold fl_X12_hasChild_4
      simp only [lx_p]
      rw [hn.2.2, if_neg (by omega), gd_t (Or.inl trivial)]
      rfl
    | succ n ih =>
      intro f k h0 h1 h2
      obtain ⟨f, rfl⟩ : ∃ g, f = g + 1 := ⟨f - 1, by omega⟩
      unfold fl_X12_hasChild_4 sFind
      simp only [lx_p]
      rw [hn.2.2]
      by_cases c1 : k < sg s 0 5
      · have hb1 := h.br h0 c1
        have hw1 := (hW.br h0 c1).1
        rw [if_pos c1, if_pos c1, gd_t ⟨h0, by omega⟩, hb1.1, gd_t ⟨hw1.1, by omega⟩, h.2.2.2.1 _ hw1.1 hw1.2, ← hb1.2.2.2.2.2.2.1, w32_id (by omega) (by omega)]
        by_cases c3 : sg s (2 + k) 1 = v
        · rw [if_pos c3, if_pos c3, if_pos h0]
          exact one n f (k + 1) (by omega) (by omega) (by omega)
        · rw [if_neg c3, if_neg c3]
          exact ih f (k + 1) (by omega) (by omega) (by omega)
      · rw [if_neg c1, if_neg c1, gd_t (Or.inl trivial)]
        rfl
  unfold fm_X12_hasChild hasKid
  rw [key 12 BIG 0 (by decide) rfl (BIG_g (by omega))]
  by_cases g : 0 ≤ sFind s 1 v 12 0
  · simp [g]
  · simp [g]
theorem sWtr_b : ∀ (n : Nat) (k : Int), 0 ≤ k → sWtr s e n k = -1 ∨ (k ≤ sWtr s e n k ∧ sWtr s e n k < sg s 0 5 ∧ (sg s (2 + sWtr s e n k) 7 = 1 ∨ sg s (2 + sWtr s e n k) 7 = 2) ∧ sg s (2 + sWtr s e n k) 8 = e) := by
  intro n
  induction n with
  | zero => intro k h0; exact Or.inl rfl
  | succ n ih =>
    intro k h0
    unfold sWtr
    by_cases c1 : k < sg s 0 5
    · rw [if_pos c1]
      by_cases c2 : sg s (2 + k) 7 = 1 ∨ sg s (2 + k) 7 = 2
      · rw [if_pos c2]
        by_cases c3 : sg s (2 + k) 8 = e
        · rw [if_pos c3]
          exact Or.inr ⟨Int.le_refl _, c1, c2, c3⟩
        · rw [if_neg c3]
          exact (ih (k + 1) (by omega)).imp id fun g => ⟨by omega, g.2⟩
      · rw [if_neg c2]
        exact (ih (k + 1) (by omega)).imp id fun g => ⟨by omega, g.2⟩
    · rw [if_neg c1]
      exact Or.inl rfl
theorem wtr_r (h : RR m0 m x s rh E H) (hN : ND s) (hD : WD s) : fm_X12_waiting e m = some (wtr s e) := by
  have hn := h.n91
  have key : ∀ (n f : Nat) (k y : Int), 0 ≤ k → k + n = 12 → n < f → fl_X12_waiting_4 e m f y k = some (if sWtr s e n k = -1 then y else sWtr s e n k) := by
    intro n
    induction n with
    | zero =>
      intro f k y h0 h1 h2
      obtain ⟨f, rfl⟩ : ∃ g, f = g + 1 := ⟨f - 1, by omega⟩
      unfold fl_X12_waiting_4
      simp only [lx_p]
      rw [hn.2.2, if_neg (by omega)]
      rfl
    | succ n ih =>
      intro f k y h0 h1 h2
      obtain ⟨f, rfl⟩ : ∃ g, f = g + 1 := ⟨f - 1, by omega⟩
      unfold fl_X12_waiting_4 fj_X12_waiting_32 sWtr
      simp only [lx_p]
      rw [hn.2.2]
      by_cases c1 : k < sg s 0 5
      · obtain ⟨b1, b2, b3, b4⟩ := (h.br h0 c1).2.2.2.2.2.2.2 (hN k h0 c1)
        rw [if_pos c1, if_pos c1, gd_t ⟨h0, by omega⟩, gd_t ⟨h0, by omega⟩, b1, w32_id (by omega) (by omega)]
        have nxt : fl_X12_waiting_4 e m f y (k + 1) = some (if sWtr s e n (k + 1) = -1 then y else sWtr s e n (k + 1)) := ih f (k + 1) y (by omega) (by omega) (by omega)
        have fnd : sg s (2 + k) 7 = 1 ∨ sg s (2 + k) 7 = 2 → (if m 146 k = e then fl_X12_waiting_4 e m f k (k + 1) else fl_X12_waiting_4 e m f y (k + 1)) = some (if (if sg s (2 + k) 8 = e then k else sWtr s e n (k + 1)) = -1 then y else (if sg s (2 + k) 8 = e then k else sWtr s e n (k + 1))) := fun q => by
          rw [b2 (by omega)]
          by_cases c3 : sg s (2 + k) 8 = e
          · rw [if_pos c3, if_pos c3, if_neg (by omega), ih f (k + 1) k (by omega) (by omega) (by omega)]
            rcases sWtr_b (s := s) (e := e) n (k + 1) (by omega) with g | ⟨g1, g2, g3, g4⟩
            · rw [if_pos g]
            · have := hD k _ h0 c1 (by omega) g2 q g3 (by omega)
              omega
          · rw [if_neg c3, if_neg c3]
            exact nxt
        by_cases q1 : sg s (2 + k) 7 = 1
        · rw [if_pos (wmp1.mpr q1), if_pos (Or.inl q1)]
          exact fnd (Or.inl q1)
        · rw [if_neg (fun g => q1 (wmp1.mp g))]
          by_cases q2 : sg s (2 + k) 7 = 2
          · rw [if_pos (wmp4.mpr q2), if_pos (Or.inr q2)]
            exact fnd (Or.inr q2)
          · rw [if_neg (fun g => q2 (wmp4.mp g)), if_neg (show ¬ (sg s (2 + k) 7 = 1 ∨ sg s (2 + k) 7 = 2) by omega)]
            exact nxt
      · rw [if_neg c1, if_neg c1, if_pos rfl]
  unfold fm_X12_waiting wtr
  rw [key 12 BIG 0 (-1) (by decide) rfl (BIG_g (by omega))]
  by_cases g : sWtr s e 12 0 = -1
  · rw [if_pos g, g]
  · rw [if_neg g]
end RF7
