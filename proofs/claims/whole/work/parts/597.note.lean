/-! THE TELLING: the class notes an arrival. -/
section NOT
variable {m0 m m' : MM} {x : CX} {s : TS} {B : Int} {a b c e j v k h n l w p : Int}
/-- the object of the branch at a place; none for -1 -/
def obj (m : MM) (k : Int) : Int := if k < 0 then 0 else m 19 k
theorem wfe_e (hb : 0 ≤ k) : fm_X1_waitsForEvent b m = some (if m b 7 = 1 ∨ m b 7 = 2 then 1 else 0) := by
  unfold fm_X1_waitsForEvent
  simp only [lx_p]
  by_cases c1 : m b 7 = 1
  · rw [if_pos c1, if_pos (Or.inl c1)]
  · rw [if_neg c1]
    by_cases c2 : m b 7 = 2
    · rw [if_pos c2, if_pos (Or.inr c2)]
    · rw [if_neg c2, if_neg (by rintro (g | g); exact c1 g; exact c2 g)]
theorem wtr_e (hC : CR m0 m s B) : fm_X8_waiterFor e m = some (obj m (wtr s e)) := by
  have ht := hC.th
  have key : ∀ (n f : Nat) (k : Int), 0 ≤ k → k + n = 12 → n < f → fl_X8_waiterFor_2 e m f k = some (obj m (sWtr s e n k)) := by
    intro n
    induction n with
    | zero =>
      intro f k h0 h1 h2
      obtain ⟨f, rfl⟩ : ∃ g, f = g + 1 := ⟨f - 1, by omega⟩
      unfold fl_X8_waiterFor_2 sWtr
      simp only [lx_p]
      rw [ht.1, if_neg (by omega)]
      rfl
    | succ n ih =>
      intro f k h0 h1 h2
      obtain ⟨f, rfl⟩ : ∃ g, f = g + 1 := ⟨f - 1, by omega⟩
      unfold fl_X8_waiterFor_2 sWtr
      simp only [lx_p]
      rw [ht.1]
      by_cases c1 : k < sg s 0 5
      · have ho := hC.ob h0 (by omega)
        rw [if_pos c1, if_pos c1, if_pos (by omega), gd_t ⟨h0, by omega⟩, gd_t ho.2.2, bp_t (wfe_e h0), hC.br h0 c1 (by decide) (by decide), w32_id (by omega) (by omega)]
        by_cases c2 : sg s (2 + k) 7 = 1 ∨ sg s (2 + k) 7 = 2
        · rw [if_pos c2, if_pos c2, if_neg (by decide), hC.br h0 c1 (by decide) (by decide)]
          by_cases c3 : sg s (2 + k) 8 = e
          · rw [if_pos c3, if_pos c3]
            unfold obj
            rw [if_neg (by omega)]
          · rw [if_neg c3, if_neg c3]
            exact ih f (k + 1) (by omega) (by omega) (by omega)
        · rw [if_neg c2, if_neg c2, if_pos rfl]
          exact ih f (k + 1) (by omega) (by omega) (by omega)
      · rw [if_neg c1, if_neg c1]
        rfl
  unfold fm_X8_waiterFor wtr
  exact key 12 BIG 0 (by decide) rfl (BIG_g (by omega))
theorem wtr_b : wtr s e = -1 ∨ (0 ≤ wtr s e ∧ wtr s e < sg s 0 5 ∧ (sg s (2 + wtr s e) 7 = 1 ∨ sg s (2 + wtr s e) 7 = 2) ∧ sg s (2 + wtr s e) 8 = e) := by
  have key : ∀ (n : Nat) (k : Int), 0 ≤ k → sWtr s e n k = -1 ∨ (0 ≤ sWtr s e n k ∧ sWtr s e n k < sg s 0 5 ∧ (sg s (2 + sWtr s e n k) 7 = 1 ∨ sg s (2 + sWtr s e n k) 7 = 2) ∧ sg s (2 + sWtr s e n k) 8 = e) := by
    intro n
    induction n with
    | zero => intro k h0; exact Or.inl rfl
    | succ n ih =>
      intro k h0
      unfold sWtr
      by_cases c1 : k < sg s 0 5
      · rw [if_pos c1]
        by_cases c2 : sg s (2 + k) 7 = 1 ∨ sg s (2 + k) 7 = 2
        · rw [if_pos c2]
          by_cases c3 : sg s (2 + k) 8 = e
          · rw [if_pos c3]
            exact Or.inr ⟨h0, c1, c2, c3⟩
          · rw [if_neg c3]
            exact ih (k + 1) (by omega)
        · rw [if_neg c2]
          exact ih (k + 1) (by omega)
      · rw [if_neg c1]
        exact Or.inl rfl
  exact key 12 0 (by decide)
theorem set_e (hC : CR m0 m s B) (ha : 0 ≤ a) : ∃ m', fm_X8_set a v m = some (0, m') ∧ CR m0 m' (st s 1 a v) B ∧ ∀ i, m' 19 i = m 19 i := by
  unfold fm_X8_set
  rw [if_neg (by omega)]
  by_cases c : a < 6
  · rw [if_pos c, gd_t ⟨ha, c⟩, up_t]
    exact ⟨_, rfl, hC.p18 ha, fun i => ms_a (by decide)⟩
  · rw [if_neg c]
    obtain ⟨hF, hM, ⟨c1, c2, c3⟩, hb, L, hR, hL, lC⟩ := hC
    have es : ∀ p i : Int, p ≠ 1 → (st s 1 a v).1 p i = s.1 p i := fun p i hp => if_neg fun hh => hp hh.1
    refine ⟨m, rfl, ⟨hF, hM, ⟨fun i g1 g2 => ?_, fun i g1 g2 => ?_, fun i g1 g2 => ?_⟩, ?_, L, hR, ?_, lC.to (fun _ _ => SmT.rf) (Int.le_of_eq (es 0 40 (by decide)).symm) (Int.le_of_eq (es 0 41 (by decide)).symm)⟩, fun _ => rfl⟩
    · rw [es _ _ (by decide)]; exact c1 i g1 g2
    · rw [es _ _ (by decide)]; exact c2 i g1 g2
    · have : (st s 1 a v).1 1 i = s.1 1 i := if_neg (by omega)
      rw [this]; exact c3 i g1 g2
    · obtain ⟨b1, b2, b3, b4⟩ := hb
      refine ⟨by rw [es _ _ (by decide)]; exact b1, b2, b3, fun k i g1 g2 g3 g4 => ?_⟩
      rw [es _ _ (by decide)] at g2
      rw [es _ _ (by omega)]
      exact b4 k i g1 g2 g3 g4
    · obtain ⟨l1, l2, l3, l4, l5, l6⟩ := hL
      exact ⟨l1, l2, l3, fun k g1 g2 => l4 k g1 (by rw [es _ _ (by decide)] at g2; exact g2), l5, l6⟩
theorem queue_e (hF : Fix m) (h0 : 0 ≤ p) (h1 : p < 4) : fm_X8_queue p m = some (35 + 2 * p) := by
  have hm : fm_J9_floorMod_7cf53 p 4 m = some p := by
    unfold fm_J9_floorMod_7cf53
    simp only [lx_p]
    rw [gd_t (by decide)]
    have : p = 0 ∨ p = 1 ∨ p = 2 ∨ p = 3 := by omega
    rcases this with rfl | rfl | rfl | rfl
    · rw [if_neg (by decide)]; rfl
    · rw [if_neg (by decide)]; rfl
    · rw [if_neg (by decide)]; rfl
    · rw [if_neg (by decide)]; rfl
  unfold fm_X8_queue
  rw [bp_t hm, gd_t ⟨h0, h1⟩, hF.s20 h0 h1]
  rfl
/-- an object that no branch has is written -/
theorem CR.free (hC : CR m0 m s B) (h0 : sg s 0 5 ≤ k) (h1 : k < 12) (hj : 0 ≤ j) : CR m0 (mset m (m 19 k) j v) s B := by
  have hk : 0 ≤ k := by have := hC.th.2.1; omega
  have ho := hC.ob hk h1
  obtain ⟨hF, hM, ⟨c1, c2, c3⟩, ⟨b1, b2, b3, b4⟩, L, hR, ⟨l1, l2, l3, l4, l5, l6⟩, lC⟩ := hC
  have h0' : s.1 0 5 ≤ k := h0
  have hm : Mcel (m 19 k) := Or.inr (Or.inr (Or.inr (Or.inr (Or.inl ⟨ho.1, ho.2.1⟩))))
  have e19 : ∀ i, mset m (m 19 k) j v 19 i = m 19 i := fun i => ms_a (by omega)
  refine ⟨fxBr hF ho.1 ho.2.1 hj, hM.ms hF hm hj (by omega), ⟨fun i g1 g2 => ?_, fun i g1 g2 => ?_, fun i g1 g2 => ?_⟩, ⟨b1, fun k g1 g2 => by rw [e19]; exact b2 k g1 g2, fun k k' g1 g2 g3 g4 => by rw [e19, e19]; exact b3 k k' g1 g2 g3 g4, fun k' i g1 g2 g3 g4 => ?_⟩, L, hR.ms hF hm hj, ⟨l1, l2, ?_, fun k' g1 g2 => ?_, ?_, l6⟩, lC.ms hR hF hm hj rfl rfl⟩
  · rw [ms_a (by omega)]
    exact c1 i g1 g2
  · rw [ms_a (by omega)]
    exact c2 i g1 g2
  · rw [ms_a (by omega)]
    exact c3 i g1 g2
  · rw [e19, ms_a (fun hh => by have := b3 k' k g1 (by omega) hk h1 hh; omega)]
    exact b4 k' i g1 g2 g3 g4
  · rw [ms_a (by omega)]
    exact l3
  · rw [e19, ms_a (fun hh => by have := b3 k' k g1 (by omega) hk h1 hh; omega)]
    exact l4 k' g1 g2
  · rw [ms_a (by omega)]
    exact l5
/-- what a begun branch is like -/
def newB (g p l j : Int) : Int := if j = 0 then g else if j = 1 then p else if j = 2 then p else if j = 3 then -1 else if j = 4 then l else 0
theorem CR.grow (hC : CR m0 m s B) (h1 : sg s 0 5 < 12) (hj : ∀ j : Int, 0 ≤ j → j ≤ 9 → m (m 19 (sg s 0 5)) j = newB (sg s 0 6) p l j) (h10 : m (m 19 (sg s 0 5)) 10 = 0) : CR m0 (mset (mset m 17 5 (sg s 0 5 + 1)) 17 6 (sg s 0 6 + 1)) (sBegin p l s) B := by
  have ht := hC.th
  obtain ⟨hF, hM, ⟨c1, c2, c3⟩, ⟨b1, b2, b3, b4⟩, L, hR, ⟨l1, l2, l3, l4, l5, l6⟩, lC⟩ := hC
  have hm : Mcel 17 := Or.inr (Or.inl rfl)
  have hF1 : Fix (mset m 17 5 (sg s 0 5 + 1)) := fx17 hF (by decide)
  have e17 : ∀ b i : Int, b ≠ 17 → mset (mset m 17 5 (sg s 0 5 + 1)) 17 6 (sg s 0 6 + 1) b i = m b i := fun b i hb => by rw [ms_a hb, ms_a hb]
  have i17 : ∀ i : Int, mset (mset m 17 5 (sg s 0 5 + 1)) 17 6 (sg s 0 6 + 1) 17 i = if i = 6 then sg s 0 6 + 1 else if i = 5 then sg s 0 5 + 1 else m 17 i := fun i => by rw [ms_i, ms_i]
  have sg0 : ∀ i : Int, (sBegin p l s).1 0 i = if i = 6 then sg s 0 6 + 1 else if i = 5 then sg s 0 5 + 1 else s.1 0 i := by
    intro i
    show mset (mset (fun a j => if a = 2 + sg s 0 5 then newB (sg s 0 6) p l j else if a = -1 ∧ j = sg s 0 6 then p else s.1 a j) 0 5 (sg s 0 5 + 1)) 0 6 (sg s 0 6 + 1) 0 i = _
    rw [ms_i, ms_i]
    rw [if_neg (show ¬ ((0 : Int) = 2 + sg s 0 5) by omega), if_neg (show ¬ ((0 : Int) = -1 ∧ i = sg s 0 6) by omega)]
  have sga : ∀ a i : Int, a ≠ 0 → a ≠ -1 → (sBegin p l s).1 a i = if a = 2 + sg s 0 5 then newB (sg s 0 6) p l i else s.1 a i := by
    intro a i h1 h2
    show mset (mset (fun a j => if a = 2 + sg s 0 5 then newB (sg s 0 6) p l j else if a = -1 ∧ j = sg s 0 6 then p else s.1 a j) 0 5 (sg s 0 5 + 1)) 0 6 (sg s 0 6 + 1) a i = _
    rw [ms_a h1, ms_a h1]
    by_cases g : a = 2 + sg s 0 5
    · rw [if_pos g, if_pos g]
    · rw [if_neg g, if_neg g, if_neg (fun hh => h2 hh.1)]
  have s05 : (sBegin p l s).1 0 5 = sg s 0 5 + 1 := by rw [sg0, if_neg (by decide), if_pos rfl]
  refine ⟨fx17 hF1 (by decide), (hM.ms hF hm (by decide) (by omega)).ms hF1 hm (by decide) (by omega), ⟨fun i g1 g2 => ?_, fun i g1 g2 => ?_, fun i g1 g2 => ?_⟩, ⟨by rw [s05]; omega, fun k g1 g2 => by rw [e17 _ _ (by decide)]; exact b2 k g1 g2, fun k k' g1 g2 g3 g4 => by rw [e17 _ _ (by decide), e17 _ _ (by decide)]; exact b3 k k' g1 g2 g3 g4, fun k' i g1 g2 g3 g4 => ?_⟩, L, (hR.ms hF hm (by decide)).ms hF1 hm (by decide), ⟨l1, l2, ?_, fun k' g1 g2 => ?_, ?_, l6⟩, (lC.ms (s' := s) hR hF hm (by decide) rfl rfl).ms (hR.ms hF hm (by decide)) hF1 hm (by decide) (by rw [sg0, if_neg (by decide), if_neg (by decide)]) (by rw [sg0, if_neg (by decide), if_neg (by decide)])⟩
  · rw [i17, sg0]
    split
    · rfl
    · split
      · rfl
      · exact c1 i g1 g2
  · rw [e17 _ _ (by decide), sg0, if_neg (by omega), if_neg (by omega)]
    exact c2 i g1 g2
  · rw [e17 _ _ (by decide), sga _ _ (by decide) (by decide), if_neg (by omega)]
    exact c3 i g1 g2
  · rw [s05] at g2
    have hb := b2 k' g1 (by omega)
    rw [e17 19 _ (by decide), e17 _ _ (by omega), sga _ _ (by omega) (by omega)]
    by_cases g : k' = sg s 0 5
    · rw [if_pos (by omega), g]
      exact hj i g3 g4
    · rw [if_neg (by omega)]
      exact b4 k' i g1 (by unfold sg at g2 g; omega) g3 g4
  · rw [i17, if_neg (by decide), if_neg (by decide)]
    exact l3
  · rw [s05] at g2
    have hb := b2 k' g1 (by omega)
    rw [e17 19 _ (by decide), e17 _ _ (by omega)]
    show Stk (L 21) (if k' = sg s 0 5 then [] else s.2.1 k') _
    by_cases g : k' = sg s 0 5
    · rw [if_pos g, g]
      exact h10
    · rw [if_neg g]
      exact l4 k' g1 (by unfold sg at g2 g; omega)
  · rw [e17 _ _ (by decide)]
    exact l5
theorem begin_e (hC : CR m0 m s B) (hW : SW x s B) (hB : B < 268435456) (h1 : sg s 0 5 < 12) : ∃ m', fm_X8_beginBranch p l m = some (sg s 0 6, m') ∧ CR m0 m' (sBegin p l s) B ∧ ∀ i, m' 19 i = m 19 i := by
  have ht := hC.th
  have ho := hC.ob ht.2.1 h1
  have hg := hW.2.2.2.2.2.1
  have hF := hC.1
  generalize hoo : m 19 (sg s 0 5) = o at ho
  have step : ∀ {m1 : MM} (j v : Int), CR m0 m1 s B → m1 19 (sg s 0 5) = o → 0 ≤ j → CR m0 (mset m1 o j v) s B ∧ mset m1 o j v 19 (sg s 0 5) = o := by
    intro m1 j v g1 g2 g3
    have := g1.free (v := v) (Int.le_refl _) h1 g3
    rw [g2] at this
    exact ⟨this, by rw [ms_a (by omega)]; exact g2⟩
  have s0 := step 0 (sg s 0 6) hC hoo (by decide)
  have s1 := step 1 p s0.1 s0.2 (by decide)
  have s2 := step 2 p s1.1 s1.2 (by decide)
  have s3 := step 3 (-1) s2.1 s2.2 (by decide)
  have s4 := step 4 l s3.1 s3.2 (by decide)
  have s5 := step 5 0 s4.1 s4.2 (by decide)
  have s6 := step 6 0 s5.1 s5.2 (by decide)
  have s7 := step 7 0 s6.1 s6.2 (by decide)
  have s8 := step 8 0 s7.1 s7.2 (by decide)
  have s9 := step 9 0 s8.1 s8.2 (by decide)
  have s10 := step 10 0 s9.1 s9.2 (by decide)
  generalize hM : mset (mset (mset (mset (mset (mset (mset (mset (mset (mset (mset m o 0 (sg s 0 6)) o 1 p) o 2 p) o 3 (-1)) o 4 l) o 5 0) o 6 0) o 7 0) o 8 0) o 9 0) o 10 0 = M at s10
  have e19 : ∀ i, M 19 i = m 19 i := fun i => by
    subst hM
    repeat rw [ms_a (show (19 : Int) ≠ o by omega)]
  have hr : ∀ i : Int, M o i = if i = 10 then 0 else if i = 9 then 0 else if i = 8 then 0 else if i = 7 then 0 else if i = 6 then 0 else if i = 5 then 0 else if i = 4 then l else if i = 3 then -1 else if i = 2 then p else if i = 1 then p else if i = 0 then sg s 0 6 else m o i := by
    intro i
    subst hM
    simp only [ms_i]
  have hfin := s10.1.grow (p := p) (l := l) h1 (fun j g1 g2 => by
    rw [s10.2, hr]
    have : j = 0 ∨ j = 1 ∨ j = 2 ∨ j = 3 ∨ j = 4 ∨ j = 5 ∨ j = 6 ∨ j = 7 ∨ j = 8 ∨ j = 9 := by omega
    rcases this with rfl | rfl | rfl | rfl | rfl | rfl | rfl | rfl | rfl | rfl <;> rfl) (by rw [s10.2, hr]; rfl)
  refine ⟨_, ?_, hfin, fun i => by rw [ms_a (by decide), ms_a (by decide)]; exact e19 i⟩
  have m5 : M 17 5 = sg s 0 5 := s10.1.th.1
  have m6 : mset M 17 5 (sg s 0 5 + 1) 17 6 = sg s 0 6 := by
    rw [ms_j (by decide)]
    exact s10.1.c17 (by decide) (by decide)
  unfold fm_X8_beginBranch fm_X1_start
  simp only [lx_p]
  rw [hC.c17 (j := 6) (by decide) (by decide), ht.1, if_pos h1, gd_t ⟨ht.2.1, h1⟩, hoo, gd_t ho.2.2]
  simp only [up_t]
  rw [bd_t rfl, hM, m5, w32_id (by omega) (by omega), m6, w32_id (by omega) (by omega)]
end NOT
