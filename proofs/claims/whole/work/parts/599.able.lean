/-! THE TELLING: which branch can go on; a branch is there no more. -/
section ABL
variable {m0 m m' : MM} {x : CX} {s : TS} {B : Int} {a b c e j v k h n l w p : Int}
theorem find_e (hC : CR m0 m s B) : fm_X8_find v m = some (obj m (find s v)) := by
  have ht := hC.th
  have key : ∀ (n f : Nat) (k : Int), 0 ≤ k → k + n = 12 → n < f → fl_X8_find_2 v m f k = some (obj m (sFind s 0 v n k)) := by
    intro n
    induction n with
    | zero =>
      intro f k h0 h1 h2
      obtain ⟨f, rfl⟩ : ∃ g, f = g + 1 := ⟨f - 1, by omega⟩
      unfold fl_X8_find_2 sFind
      simp only [lx_p]
      rw [ht.1, if_neg (by omega)]
      rfl
    | succ n ih =>
      intro f k h0 h1 h2
      obtain ⟨f, rfl⟩ : ∃ g, f = g + 1 := ⟨f - 1, by omega⟩
      unfold fl_X8_find_2 sFind
      simp only [lx_p]
      rw [ht.1]
      by_cases c1 : k < sg s 0 5
      · have ho := hC.ob h0 (by omega)
        rw [if_pos c1, if_pos c1, if_pos (by omega), gd_t ⟨h0, by omega⟩, gd_t ho.2.2, hC.br h0 c1 (by decide) (by decide), w32_id (by omega) (by omega)]
        by_cases c3 : sg s (2 + k) 0 = v
        · rw [if_pos c3, if_pos c3]
          unfold obj
          rw [if_neg (by omega)]
        · rw [if_neg c3, if_neg c3]
          exact ih f (k + 1) (by omega) (by omega) (by omega)
      · rw [if_neg c1, if_neg c1]
        rfl
  unfold fm_X8_find find
  exact key 12 BIG 0 (by decide) rfl (BIG_g (by omega))
theorem sFind_b : ∀ (n : Nat) (k : Int), 0 ≤ k → sFind s j v n k = -1 ∨ (k ≤ sFind s j v n k ∧ sFind s j v n k < sg s 0 5 ∧ sg s (2 + sFind s j v n k) j = v) := by
  intro n
  induction n with
  | zero => intro k h0; exact Or.inl rfl
  | succ n ih =>
    intro k h0
    unfold sFind
    by_cases c1 : k < sg s 0 5
    · rw [if_pos c1]
      by_cases c3 : sg s (2 + k) j = v
      · rw [if_pos c3]
        exact Or.inr ⟨Int.le_refl _, c1, c3⟩
      · rw [if_neg c3]
        exact (ih (k + 1) (by omega)).imp id fun g => ⟨by omega, g.2⟩
    · rw [if_neg c1]
      exact Or.inl rfl
theorem find_b : find s v = -1 ∨ (0 ≤ find s v ∧ find s v < sg s 0 5 ∧ sg s (2 + find s v) 0 = v) := sFind_b 12 0 (by decide)
/-- none is found only where there is none -/
theorem sFind_n (ht : sg s 0 5 ≤ 12) : ∀ (n : Nat) (k : Int), 0 ≤ k → k + n = 12 → sFind s j v n k = -1 → ∀ i : Int, k ≤ i → i < sg s 0 5 → sg s (2 + i) j ≠ v := by
  intro n
  induction n with
  | zero => intro k h0 h1 h2 i h3 h4; omega
  | succ n ih =>
    intro k h0 h1 h2 i h3 h4
    unfold sFind at h2
    rw [if_pos (by omega)] at h2
    by_cases c3 : sg s (2 + k) j = v
    · rw [if_pos c3] at h2
      omega
    · rw [if_neg c3] at h2
      by_cases hi : i = k
      · rw [hi]; exact c3
      · exact ih (k + 1) (by omega) (by omega) h2 i (by omega) h4
theorem kid_e (hC : CR m0 m s B) : fm_X8_isParent v m = some (if hasKid s v = true then 1 else 0) := by
  have ht := hC.th
  have key : ∀ (n f : Nat) (k : Int), 0 ≤ k → k + n = 12 → n < f → fl_X8_isParent_2 v m f k = some (if 0 ≤ sFind s 1 v n k then 1 else 0) := by
    intro n
    induction n with
    | zero =>
      intro f k h0 h1 h2
      obtain ⟨f, rfl⟩ : ∃ g, f = g + 1 := ⟨f - 1, by omega⟩
      unfold fl_X8_isParent_2 sFind
      simp only [lx_p]
      rw [ht.1, if_neg (by omega), if_neg (by decide)]
    | succ n ih =>
      intro f k h0 h1 h2
      obtain ⟨f, rfl⟩ : ∃ g, f = g + 1 := ⟨f - 1, by omega⟩
      unfold fl_X8_isParent_2 sFind
      simp only [lx_p]
      rw [ht.1]
      by_cases c1 : k < sg s 0 5
      · have ho := hC.ob h0 (by omega)
        rw [if_pos c1, if_pos c1, if_pos (by omega), gd_t ⟨h0, by omega⟩, gd_t ho.2.2, hC.br h0 c1 (by decide) (by decide), w32_id (by omega) (by omega)]
        by_cases c3 : sg s (2 + k) 1 = v
        · rw [if_pos c3, if_pos c3, if_pos h0]
        · rw [if_neg c3, if_neg c3]
          exact ih f (k + 1) (by omega) (by omega) (by omega)
      · rw [if_neg c1, if_neg c1, if_neg (by decide)]
  unfold fm_X8_isParent hasKid
  rw [key 12 BIG 0 (by decide) rfl (BIG_g (by omega))]
  by_cases g : 0 ≤ sFind s 1 v 12 0
  · rw [if_pos g, if_pos (by simp [g])]
  · rw [if_neg g, if_neg (by simp [g])]
/-- a queue as it lies in the memory -/
theorem CR.q (hC : CR m0 m s B) (h0 : 0 ≤ n) (h1 : n < 4) : RowIs m (35 + 2 * n) (sq s n) := by
  obtain ⟨-, -, -, -, L, hR, hL, -⟩ := hC
  have := (hR _ (qrow h0 h1)).1
  rw [hL.2.1 n h0 h1] at this
  exact this
theorem able_e (hC : CR m0 m s B) (hW : SW x s B) (h0 : 0 ≤ k) (h1 : k < sg s 0 5) : fm_X8_isAble (m 19 k) m = some (if sAble s k = true then 1 else 0) := by
  have ho := hC.ob h0 (by have := hC.th.2.2; omega)
  obtain ⟨k1, k2, k3, k4, k5, k6, k7⟩ := hW.br h0 h1
  unfold fm_X8_isAble sAble
  simp only [lx_p]
  rw [gd_t ho.2.2, hC.br h0 h1 (by decide) (by decide)]
  by_cases c0 : sg s (2 + k) 7 = 0
  · rw [if_pos c0, if_pos c0, if_pos rfl]
  · rw [if_neg c0, if_neg c0]
    by_cases c3 : sg s (2 + k) 7 = 3
    · obtain ⟨q0, q1⟩ := k4 c3
      have hq := hC.q q0 q1
      rw [if_pos c3, if_pos c3, hC.br h0 h1 (by decide) (by decide), bp_t (queue_e hC.1 q0 q1), gd_t hq.1.1, hq.2.2.1]
      cases hl : sq s (sg s (2 + k) 8) with
      | nil => rfl
      | cons v t =>
        rw [if_pos (by simp only [List.length_cons]; omega), if_pos (by simp)]
    · rw [if_neg c3, if_neg c3]
      by_cases c4 : sg s (2 + k) 7 = 4
      · rw [if_pos c4, if_pos c4, hC.br h0 h1 (by decide) (by decide), bp_t (kid_e hC)]
        cases hasKid s (sg s (2 + k) 0) <;> rfl
      · rw [if_neg c4, if_neg c4]
        rfl
theorem first_e (hC : CR m0 m s B) (hW : SW x s B) : fm_X8_firstAble m = some (obj m (first s)) := by
  have ht := hC.th
  have key : ∀ (n f : Nat) (k : Int), 0 ≤ k → k + n = 12 → n < f → fl_X8_firstAble_2 m f k = some (obj m (sFirst s n k)) := by
    intro n
    induction n with
    | zero =>
      intro f k h0 h1 h2
      obtain ⟨f, rfl⟩ : ∃ g, f = g + 1 := ⟨f - 1, by omega⟩
      unfold fl_X8_firstAble_2 sFirst
      simp only [lx_p]
      rw [ht.1, if_neg (by omega)]
      rfl
    | succ n ih =>
      intro f k h0 h1 h2
      obtain ⟨f, rfl⟩ : ∃ g, f = g + 1 := ⟨f - 1, by omega⟩
      unfold fl_X8_firstAble_2 sFirst
      simp only [lx_p]
      rw [ht.1]
      by_cases c1 : k < sg s 0 5
      · have ho := hC.ob h0 (by omega)
        rw [if_pos c1, if_pos c1, if_pos (by omega), gd_t ⟨h0, by omega⟩, bp_t (able_e hC hW h0 c1), w32_id (by omega) (by omega)]
        by_cases c3 : sAble s k = true
        · rw [if_pos c3, if_pos c3, if_neg (by decide)]
          unfold obj
          rw [if_neg (by omega)]
        · rw [if_neg c3, if_neg c3, if_pos rfl]
          exact ih f (k + 1) (by omega) (by omega) (by omega)
      · rw [if_neg c1, if_neg c1]
        rfl
  unfold fm_X8_firstAble first
  exact key 12 BIG 0 (by decide) rfl (BIG_g (by omega))
theorem first_b : first s = -1 ∨ (0 ≤ first s ∧ first s < sg s 0 5 ∧ sAble s (first s) = true) := by
  have key : ∀ (n : Nat) (k : Int), 0 ≤ k → sFirst s n k = -1 ∨ (0 ≤ sFirst s n k ∧ sFirst s n k < sg s 0 5 ∧ sAble s (sFirst s n k) = true) := by
    intro n
    induction n with
    | zero => intro k h0; exact Or.inl rfl
    | succ n ih =>
      intro k h0
      unfold sFirst
      by_cases c1 : k < sg s 0 5
      · rw [if_pos c1]
        by_cases c3 : sAble s k = true
        · rw [if_pos c3]
          exact Or.inr ⟨h0, c1, c3⟩
        · rw [if_neg c3]
          exact ih (k + 1) (by omega)
      · rw [if_neg c1]
        exact Or.inl rfl
  exact key 12 0 (by decide)
theorem awake_e (hC : CR m0 m s B) (X : XC m0 x) (hW : SW x s B) (h0 : 0 ≤ k) (h1 : k < sg s 0 5) (h7 : sg s (2 + k) 7 ≠ 0) (ha : sAble s k = true) : ∃ m', fm_X4_awake (m 19 k) m = some (0, m') ∧ CR m0 m' (sAwake x k s) B ∧ SW x (sAwake x k s) B := by
  have ht := hC.th
  have ho := hC.ob h0 (by omega)
  obtain ⟨k1, k2, k3, k4, k5, k6, k7⟩ := hW.br h0 h1
  obtain ⟨c1, c2, c3, c4, c5⟩ := X.code hC.2.1
  have hl := k3 h7
  unfold sAwake
  by_cases c : sg s (2 + k) 7 = 3
  · obtain ⟨q0, q1⟩ := k4 c
    have hq := hC.q q0 q1
    have hne : sq s (sg s (2 + k) 8) ≠ [] := by
      unfold sAble at ha
      rw [if_neg h7, if_pos c] at ha
      simpa using ha
    obtain ⟨d1, d2, d3, d4, d5, d6, d7⟩ := c5 _ k2.1 hl
    obtain ⟨v, t, hvt⟩ : ∃ v t, sq s (sg s (2 + k) 8) = v :: t := by
      cases hh : sq s (sg s (2 + k) 8) with
      | nil => exact absurd hh hne
      | cons v t => exact ⟨v, t, rfl⟩
    have hv := hW.2.2.2.2.1 _ q0 q1 v (by rw [hvt]; exact List.mem_cons_self)
    have hw0 : fm_X5_at (35 + 2 * sg s (2 + k) 8) 0 m = some v := by
      unfold fm_X5_at
      have : fm_X5_wide (35 + 2 * sg s (2 + k) 8) 0 m = some v := wide_get (n := 0) hq (v := v) (by rw [hvt]; rfl)
      rw [bp_t this, w32_id (by omega) (by omega)]
    obtain ⟨m1, f1, f2, f3⟩ := set_e (v := v) hC (a := bOf x (sg s (2 + k) 4)) d6
    have e1 : ∀ p q : Int, p ≠ 1 → sg (st s 1 (bOf x (sg s (2 + k) 4)) v) p q = sg s p q := fun p q hp => by rw [st_g, if_neg (fun hh => hp hh.1)]
    have eq1 : sq (st s 1 (bOf x (sg s (2 + k) 4)) v) (sg s (2 + k) 8) = v :: t := hvt
    obtain ⟨m2, q2, q3⟩ := f2.qrem q0 q1 (by rw [eq1]; simp)
    have h192 : ∀ i : Int, 0 ≤ i → m2 19 i = m 19 i := fun i hi => by
      rw [(fw_X5_removeAt f2.1 (f2.q q0 q1).1.1 q2).keep (ok19 f2.1) (by decide +kernel) hi, f3]
    have ho2 := q3.ob h0 (by have := ht.2.2; omega)
    rw [h192 k h0] at ho2
    have e5 : sg (stq (st s 1 (bOf x (sg s (2 + k) 4)) v) (sg s (2 + k) 8) (sq (st s 1 (bOf x (sg s (2 + k) 4)) v) (sg s (2 + k) 8)).tail) 0 5 = sg s 0 5 := e1 0 5 (by decide)
    have e4 : m2 (m 19 k) 4 = sg s (2 + k) 4 := by
      have := q3.br h0 (by rw [e5]; exact h1) (j := 4) (by decide) (by decide)
      rw [h192 k h0] at this
      exact this.trans (e1 (2 + k) 4 (by omega))
    obtain ⟨m3, g1, g2, g3⟩ := go_e (l := sg s (2 + k) 4 + 1) q3 h0 (by rw [e5]; exact h1) (h192 k h0)
    rw [if_pos c]
    have hd : (sq s (sg s (2 + k) 8)).headD 0 = v := by rw [hvt]; rfl
    have htl : (sq (st s 1 (bOf x (sg s (2 + k) 4)) v) (sg s (2 + k) 8)).tail = (sq s (sg s (2 + k) 8)).tail := rfl
    rw [hd]
    rw [htl] at g2
    refine ⟨m3, ?_, g2, ((hW.var hv.1 hv.2).qset fun w hw => ?_).go h0 (by omega) (by omega)⟩
    · unfold fm_X4_awake fj_X4_awake_52
      simp only [lx_p]
      rw [gd_t ho.2.2, hC.br h0 h1 (by decide) (by decide), if_pos c, hC.br h0 h1 (by decide) (by decide), bp_t (queue_e hC.1 q0 q1), hC.br h0 h1 (by decide) (by decide), c1, gd_t c2, bp_t d1, gd_t hq.1.1, bp_t hw0, tmod_e (by omega)]
      have em : (1000000 * (x.2.2 (sg s (2 + k) 4)).1 + 1000 * (x.2.2 (sg s (2 + k) 4)).2.1 + (x.2.2 (sg s (2 + k) 4)).2.2) % 1000 = bOf x (sg s (2 + k) 4) := by
        unfold bOf
        omega
      rw [em, bd_t f1, bd_t q2, gd_t ho2.2.2, e4, w32_id (by omega) (by omega), bd_t g1]
    · rw [hvt] at hw
      exact hW.2.2.2.2.1 _ q0 q1 w (by rw [hvt]; exact List.mem_cons_of_mem _ hw)
  · obtain ⟨m3, g1, g2, g3⟩ := go_e (l := sg s (2 + k) 4 + 1) hC h0 h1 rfl
    rw [if_neg c]
    refine ⟨m3, ?_, g2, hW.go h0 (by omega) (by omega)⟩
    unfold fm_X4_awake fj_X4_awake_52
    simp only [lx_p]
    rw [gd_t ho.2.2, hC.br h0 h1 (by decide) (by decide), if_neg c, gd_t ho.2.2, hC.br h0 h1 (by decide) (by decide), w32_id (by omega) (by omega), bd_t g1]
end ABL
