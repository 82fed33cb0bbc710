/-! THE TELLING: a branch is there no more; a branch ends. -/
section REM
variable {m0 m m' M : MM} {x : CX} {s : TS} {B : Int} {a b c e j v k h n l w p g t : Int} {L : Int → List Int}
theorem mem_17 (hF : Fix m) (hM : FrM m0 m) (hR : MRows m0 m L) (h : ∀ a j : Int, ¬ (a = 17 ∧ 4 ≤ j) → ¬ (a = 19 ∧ 0 ≤ j) → M a j = m a j) : Fix M ∧ FrM m0 M ∧ MRows m0 M L ∧ ∀ r, Mrow r → SmT m M r := by
  have hx : Ext m M := ⟨by rw [h 0 0 (by omega) (by omega)]; exact Int.le_refl _, fun a _ _ => ⟨h _ _ (by omega) (by omega), h _ _ (by omega) (by omega)⟩⟩
  have k17 : ∀ q ∈ fixk, q.1 = 17 → ∀ p ∈ q.2.2.2, p.1 < 4 := by decide +kernel
  have k19 : ∀ q ∈ fixk, q.1 = 19 → ∀ p ∈ q.2.2.2, False := by decide +kernel
  refine ⟨⟨by rw [h 0 0 (by omega) (by omega)]; exact hF.1, fun q hq => ?_⟩, ⟨hM.1.tr hx, fun a j g1 g2 g3 => ?_, fun j hj => ?_⟩, hR.fr hx fun r hr a j ha hj => h a j (fun hh => ?_) (fun hh => ?_), fun r hr => SmT.fr (hR r hr).1 hx fun a j ha hj => h a j (fun hh => ?_) (fun hh => ?_)⟩
  · obtain ⟨h1, h2, h3⟩ := hF.2 q hq
    refine ⟨by rw [h _ _ (by omega) (by omega)]; exact h1, by rw [h _ _ (by omega) (by omega)]; exact h2, fun p hp => ?_⟩
    rw [h _ _ (fun hh => by have := k17 q hq hh.1 p hp; omega) (fun hh => k19 q hq hh.1 p hp)]
    exact h3 p hp
  · have m17 : Mfp m0 17 := Or.inl (Or.inr (Or.inl rfl))
    have m19 : Mfp m0 19 := Or.inl (Or.inr (Or.inr (Or.inr (Or.inl rfl))))
    rw [h a j (fun hh => g3 (by rw [hh.1]; exact m17)) (fun hh => g3 (by rw [hh.1]; exact m19))]
    exact hM.2.1 a j g1 g2 g3
  · rw [h 16 j (by omega) (by omega)]
    exact hM.2.2 j hj
  · have m17 : Mcel 17 := Or.inr (Or.inl rfl)
    exact m17.nfp hF (hR r hr).1.1 (by rw [← hh.1]; exact ha)
  · have m19 : Mcel 19 := Or.inr (Or.inr (Or.inr (Or.inl rfl)))
    exact m19.nfp hF (hR r hr).1.1 (by rw [← hh.1]; exact ha)
  · have m17 : Mcel 17 := Or.inr (Or.inl rfl)
    exact m17.nfp hF (hR r hr).1.1 (by rw [← hh.1]; exact ha)
  · have m19 : Mcel 19 := Or.inr (Or.inr (Or.inr (Or.inl rfl)))
    exact m19.nfp hF (hR r hr).1.1 (by rw [← hh.1]; exact ha)
/-- the row of branches without one place -/
def shf (m : MM) (k i : Int) : MM := fun a j => if a = 19 ∧ k ≤ j ∧ j < i - 1 then m 19 (j + 1) else m a j
theorem rem_2 {K : Int → Option (Int × MM)} (ht : m 17 5 = t) (h0 : 0 ≤ k) (h1 : k < t) (h2 : t ≤ 12) (ho : ∀ i : Int, 0 ≤ i → i < 12 → 4 ≤ m 19 i) (hi : ∀ i : Int, 0 ≤ i → i < 12 → m 19 i = m 19 k → i = k) : ∀ (n f : Nat) (i : Int), 0 ≤ i → i ≤ k → k - i = n → n < f → fl_X8_remove_2 (m 19 k) m K f i = K k := by
  intro n
  induction n with
  | zero =>
    intro f i g0 g1 g2 g3
    obtain ⟨f, rfl⟩ : ∃ g, f = g + 1 := ⟨f - 1, by omega⟩
    have : i = k := by omega
    subst this
    have := ho i g0 (by omega)
    unfold fl_X8_remove_2
    simp only [lx_p]
    rw [ht, if_pos h1, if_pos (by omega), gd_t ⟨g0, by omega⟩, gd_t (by omega), gd_t (by omega), if_pos trivial]
  | succ n ih =>
    intro f i g0 g1 g2 g3
    obtain ⟨f, rfl⟩ : ∃ g, f = g + 1 := ⟨f - 1, by omega⟩
    have := ho i g0 (by omega)
    have := ho k h0 (by omega)
    unfold fl_X8_remove_2
    simp only [lx_p]
    rw [ht, if_pos (by omega), if_pos (by omega), gd_t ⟨g0, by omega⟩, gd_t (by omega), gd_t (by omega), if_neg (fun hh => by have := hi i g0 (by omega) hh; omega), w32_id (by omega) (by omega)]
    exact ih f (i + 1) (by omega) (by omega) (by omega) (by omega)
theorem rem_57 {K : MM → Option (Int × MM)} (hF : Fix m) (ht : m 17 5 = t) (h0 : 0 ≤ k) (h2 : t ≤ 12) (ho : ∀ i : Int, 0 ≤ i → i < 12 → 23 ≤ m 19 i ∧ m 19 i ≤ 34) : ∀ (n f : Nat) (i : Int), k + 1 ≤ i → i ≤ t → t - i = n → n < f → fl_X8_remove_57 b K f i (shf m k i) = K (shf m k t) := by
  intro n
  induction n with
  | zero =>
    intro f i g0 g1 g2 g3
    obtain ⟨f, rfl⟩ : ∃ g, f = g + 1 := ⟨f - 1, by omega⟩
    have : i = t := by omega
    have e : shf m k i 17 5 = t := by unfold shf; rw [if_neg (by omega)]; exact ht
    unfold fl_X8_remove_57
    simp only [lx_p]
    rw [e, if_neg (by omega), this]
  | succ n ih =>
    intro f i g0 g1 g2 g3
    obtain ⟨f, rfl⟩ : ∃ g, f = g + 1 := ⟨f - 1, by omega⟩
    have e : shf m k i 17 5 = t := by unfold shf; rw [if_neg (by omega)]; exact ht
    have e19 : shf m k i 19 i = m 19 i := by unfold shf; rw [if_neg (by omega)]
    have hoo := ho i (by omega) (by omega)
    have ok := hF.k2 hoo.1 hoo.2
    have ok2 : okc (shf m k i) (m 19 i) 2 := by
      refine ⟨ok.1, ?_, ?_⟩
      · unfold shf; rw [if_neg (by omega)]; exact ok.2.1
      · unfold shf; rw [if_neg (by omega)]; exact ok.2.2
    unfold fl_X8_remove_57
    simp only [lx_p]
    rw [e, if_pos (by omega), if_pos (by omega), gd_t ⟨by omega, by omega⟩, e19, w32_id (z := i - 1) (by omega) (by omega), gd_t ⟨by omega, by omega⟩, gd_t (Or.inr ok2), up_t, w32_id (z := i + 1) (by omega) (by omega)]
    have es : mset (shf m k i) 19 (i - 1) (m 19 i) = shf m k (i + 1) := by
      funext a j
      unfold mset shf
      by_cases c : a = 19 ∧ j = i - 1
      · rw [if_pos c, if_pos (by omega)]
        congr 1
        omega
      · rw [if_neg c]
        by_cases c2 : a = 19 ∧ k ≤ j ∧ j < i - 1
        · rw [if_pos c2, if_pos (by omega)]
        · rw [if_neg c2, if_neg (by omega)]
    rw [es]
    exact ih f (i + 1) (by omega) (by omega) (by omega) (by omega)
def sRem0 (k : Int) (s : TS) : TS := (fun a j => if a = 0 ∧ j = 5 then s.1 0 5 - 1 else if 2 ≤ a ∧ a < 2 + (s.1 0 5 - 1) then s.1 (if a < 2 + k then a else a + 1) j else s.1 a j, fun i => if i < k then s.2.1 i else s.2.1 (i + 1), s.2.2)
def sFixR (u g w : Int) (s : TS) : TS := (fun a j => if j = 2 ∧ 2 ≤ a ∧ a < 2 + u ∧ s.1 a 2 = g then w else s.1 a j, s.2)
theorem rem0_5 : sg (sRem0 k s) 0 5 = sg s 0 5 - 1 := by
  have e : sg (sRem0 k s) 0 5 = (if (0 : Int) = 0 ∧ (5 : Int) = 5 then s.1 0 5 - 1 else if (2 : Int) ≤ 0 ∧ (0 : Int) < 2 + (s.1 0 5 - 1) then s.1 (if (0 : Int) < 2 + k then 0 else 0 + 1) 5 else s.1 0 5) := rfl
  rw [e, if_pos ⟨rfl, rfl⟩]
  rfl
theorem rem0_g {i q : Int} (h0 : 0 ≤ i) (h1 : i < sg s 0 5 - 1) : (sRem0 k s).1 (2 + i) q = s.1 (2 + (if i < k then i else i + 1)) q := by
  have e : (sRem0 k s).1 (2 + i) q = (if 2 + i = 0 ∧ q = 5 then s.1 0 5 - 1 else if 2 ≤ 2 + i ∧ 2 + i < 2 + (s.1 0 5 - 1) then s.1 (if 2 + i < 2 + k then 2 + i else 2 + i + 1) q else s.1 (2 + i) q) := rfl
  have hs5 : s.1 0 5 = sg s 0 5 := rfl
  rw [e, if_neg (show ¬ (2 + i = 0 ∧ q = 5) by omega), if_pos (show 2 ≤ 2 + i ∧ 2 + i < 2 + (s.1 0 5 - 1) by omega)]
  by_cases c : i < k
  · rw [if_pos c, if_pos (show 2 + i < 2 + k by omega)]
  · rw [if_neg c, if_neg (show ¬ 2 + i < 2 + k by omega), Int.add_assoc]
theorem rem_all : sFixR (sg s 0 5 - 1) (sg s (2 + k) 0) (sg s (2 + k) 2) (sRem0 k s) = sRem k s := by
  unfold sFixR sRem sRem0 sg
  refine Prod.ext ?_ rfl
  funext a j
  simp only
  by_cases c1 : a = 0 ∧ j = 5
  · rw [if_pos c1, if_neg (by omega), if_pos c1]
  · rw [if_neg c1]
    by_cases c2 : 2 ≤ a ∧ a < 2 + (s.1 0 5 - 1)
    · rw [if_pos c2, if_neg (show ¬ (a = 0 ∧ (2 : Int) = 5) by omega), if_pos c2, if_neg c1, if_pos c2]
      generalize (if a < 2 + k then a else a + 1) = q
      by_cases c3 : j = 2 ∧ s.1 q 2 = s.1 (2 + k) 0
      · rw [if_pos c3, if_pos ⟨c3.1, c2.1, c2.2, c3.2⟩]
      · rw [if_neg c3, if_neg (fun hh => c3 ⟨hh.1, hh.2.2.2⟩)]
    · rw [if_neg c2, if_neg (fun hh => c2 ⟨hh.2.1, hh.2.2.1⟩), if_neg c1, if_neg c2, if_neg c2]
theorem CR.rem0 (hC : CR m0 m s B) (h0 : 0 ≤ k) (h1 : k < sg s 0 5) : CR m0 (mset (mset (shf m k (sg s 0 5)) 17 5 (sg s 0 5 - 1)) 19 (sg s 0 5 - 1) (m 19 k)) (sRem0 k s) B := by
  have ht := hC.th
  obtain ⟨hF, hM, ⟨c1, c2, c3⟩, ⟨b1, b2, b3, b4⟩, L, hR, ⟨l1, l2, l3, l4, l5, l6⟩, lC⟩ := hC
  generalize hMM : mset (mset (shf m k (sg s 0 5)) 17 5 (sg s 0 5 - 1)) 19 (sg s 0 5 - 1) (m 19 k) = M
  have e17 : ∀ i, M 17 i = if i = 5 then sg s 0 5 - 1 else m 17 i := fun i => by
    subst hMM
    rw [ms_a (by decide), ms_i]
    unfold shf
    rw [if_neg (show ¬ ((17 : Int) = 19 ∧ _) by omega)]
  have e19 : ∀ i, M 19 i = m 19 (if i = sg s 0 5 - 1 then k else if k ≤ i ∧ i < sg s 0 5 - 1 then i + 1 else i) := fun i => by
    subst hMM
    rw [ms_i, ms_a (by decide)]
    unfold shf
    by_cases q : i = sg s 0 5 - 1
    · rw [if_pos q, if_pos q]
    · rw [if_neg q, if_neg q]
      by_cases q2 : k ≤ i ∧ i < sg s 0 5 - 1
      · rw [if_pos ⟨rfl, q2⟩, if_pos q2]
      · rw [if_neg (fun hh => q2 hh.2), if_neg q2]
  have eo : ∀ a i : Int, a ≠ 17 → a ≠ 19 → M a i = m a i := fun a i q1 q2 => by
    subst hMM
    rw [ms_a q2, ms_a q1]
    unfold shf
    rw [if_neg (fun hh => q2 hh.1)]
  obtain ⟨f1, f2, f3, f4⟩ := mem_17 (M := M) hF hM hR (fun a j q1 q2 => by
    by_cases w1 : a = 17
    · subst w1
      rw [e17, if_neg (by omega)]
    · by_cases w2 : a = 19
      · subst w2
        rw [e19, if_neg (by omega), if_neg (by omega)]
      · exact eo a j w1 w2)
  have s05 : (sRem0 k s).1 0 5 = sg s 0 5 - 1 := rem0_5
  have s0 : ∀ i, i ≠ 5 → (sRem0 k s).1 0 i = s.1 0 i := fun i hi => by
    show (if (0 : Int) = 0 ∧ i = 5 then s.1 0 5 - 1 else if (2 : Int) ≤ 0 ∧ (0 : Int) < 2 + (s.1 0 5 - 1) then s.1 (if (0 : Int) < 2 + k then 0 else 0 + 1) i else s.1 0 i) = _
    rw [if_neg (by omega), if_neg (by omega)]
  have hs5 : s.1 0 5 = sg s 0 5 := rfl
  refine ⟨f1, f2, ⟨fun i g1 g2 => ?_, fun i g1 g2 => ?_, fun i g1 g2 => ?_⟩, ⟨by rw [s05]; omega, fun i g1 g2 => ?_, fun i i' g1 g2 g3 g4 hh => ?_, fun i q g1 g2 g3 g4 => ?_⟩, L, f3, ⟨l1, l2, ?_, fun i g1 g2 => ?_, ?_, l6⟩, lC.to f4 (Int.le_of_eq (s0 40 (by decide)).symm) (Int.le_of_eq (s0 41 (by decide)).symm)⟩
  · rw [e17]
    by_cases q : i = 5
    · rw [if_pos q, q, s05]
    · rw [if_neg q, s0 i q]
      exact c1 i g1 g2
  · rw [eo _ _ (by decide) (by decide), s0 _ (by omega)]
    exact c2 i g1 g2
  · rw [eo _ _ (by decide) (by decide), c3 i g1 g2]
    show s.1 1 i = (if (1 : Int) = 0 ∧ i = 5 then s.1 0 5 - 1 else if (2 : Int) ≤ 1 ∧ (1 : Int) < 2 + (s.1 0 5 - 1) then s.1 (if (1 : Int) < 2 + k then 1 else 1 + 1) i else s.1 1 i)
    rw [if_neg (by omega), if_neg (by omega)]
  · rw [e19]
    refine b2 _ ?_ ?_
    · split
      · exact h0
      · split <;> omega
    · split
      · omega
      · split <;> omega
  · rw [e19, e19] at hh
    have := b3 _ _ (by split; omega; split <;> omega) (by split; omega; split <;> omega) (by split; omega; split <;> omega) (by split; omega; split <;> omega) hh
    split at this
    · split at this
      · omega
      · split at this <;> omega
    · split at this
      · split at this
        · omega
        · split at this <;> omega
      · split at this
        · omega
        · split at this <;> omega
  · rw [s05] at g2
    have hb := b2 (if i < k then i else i + 1) (by split <;> omega) (by split <;> omega)
    have ep : (if i = sg s 0 5 - 1 then k else if k ≤ i ∧ i < sg s 0 5 - 1 then i + 1 else i) = if i < k then i else i + 1 := by
      rw [if_neg (by omega)]
      by_cases q : i < k
      · rw [if_pos q, if_neg (by omega)]
      · rw [if_neg q, if_pos (by omega)]
    rw [e19, ep, eo _ _ (by omega) (by omega), b4 _ _ (by split <;> omega) (by split <;> omega) g3 g4]
    exact (rem0_g g1 g2).symm
  · rw [e17, if_neg (by decide)]
    exact l3
  · rw [s05] at g2
    have hb := b2 (if i < k then i else i + 1) (by split <;> omega) (by split <;> omega)
    have ep : (if i = sg s 0 5 - 1 then k else if k ≤ i ∧ i < sg s 0 5 - 1 then i + 1 else i) = if i < k then i else i + 1 := by
      rw [if_neg (by omega)]
      by_cases q : i < k
      · rw [if_pos q, if_neg (by omega)]
      · rw [if_neg q, if_pos (by omega)]
    rw [e19, ep, eo _ _ (by omega) (by omega)]
    have h4 := l4 (if i < k then i else i + 1) (by split <;> omega) (by split <;> omega)
    have es : (sRem0 k s).2.1 i = s.2.1 (if i < k then i else i + 1) := by
      show (if i < k then s.2.1 i else s.2.1 (i + 1)) = _
      split <;> rfl
    rw [es]
    exact h4
  · rw [eo _ _ (by decide) (by decide)]
    exact l5
theorem rem_116 (hC : CR m0 M s B) (hb : 23 ≤ b ∧ b ≤ 34) (hfree : M 19 (sg s 0 5) = b) (h12 : sg s 0 5 < 12) (hg : M b 0 = g) (hw : M b 2 = w) : ∀ (n f : Nat) (i : Int) (m : MM), 0 ≤ i → i ≤ sg s 0 5 → sg s 0 5 - i = n → n < f → CR m0 m (sFixR i g w s) B → (∀ j, m 19 j = M 19 j) → m b 0 = g → m b 2 = w → ∃ m', fl_X8_remove_116 b f i m = some (0, m') ∧ CR m0 m' (sFixR (sg s 0 5) g w s) B ∧ ∀ j, m' 19 j = M 19 j := by
  have e05 : ∀ u : Int, sg (sFixR u g w s) 0 5 = sg s 0 5 := fun u => by
    show (if (5 : Int) = 2 ∧ 2 ≤ (0 : Int) ∧ (0 : Int) < 2 + u ∧ s.1 0 2 = g then w else s.1 0 5) = _
    rw [if_neg (fun hh => by have := hh.1; omega)]
    rfl
  intro n
  induction n with
  | zero =>
    intro f i m g0 g1 g2 g3 hm h19 hm0 hm2
    obtain ⟨f, rfl⟩ : ∃ g, f = g + 1 := ⟨f - 1, by omega⟩
    have : i = sg s 0 5 := by omega
    subst this
    have ht := hm.th
    unfold fl_X8_remove_116
    simp only [lx_p]
    rw [ht.1, e05, if_neg (by omega)]
    exact ⟨m, rfl, hm, h19⟩
  | succ n ih =>
    intro f i m g0 g1 g2 g3 hm h19 hm0 hm2
    obtain ⟨f, rfl⟩ : ∃ g, f = g + 1 := ⟨f - 1, by omega⟩
    have ht := hm.th
    have ho := hm.ob g0 (by omega)
    have okb := hm.1.k2 hb.1 hb.2
    have hne : m 19 i ≠ b := fun hh => by
      rw [h19] at hh
      have := hC.inj g0 (by omega) (by omega) h12 (hh.trans hfree.symm)
      omega
    have e2 : m (m 19 i) 2 = sg s (2 + i) 2 := by
      rw [hm.br g0 (by rw [e05]; omega) (by decide) (by decide)]
      exact if_neg (by omega)
    unfold fl_X8_remove_116
    simp only [lx_p]
    rw [ht.1, e05, if_pos (by omega), gd_t ⟨g0, by omega⟩, gd_t ho.2.2, e2, gd_t okb, hm0, w32_id (by omega) (by omega)]
    by_cases c : sg s (2 + i) 2 = g
    · rw [if_pos c, hm2, up_t]
      have hst : st (sFixR i g w s) (2 + i) 2 w = sFixR (i + 1) g w s := by
        refine Prod.ext ?_ rfl
        funext a j
        show mset (sFixR i g w s).1 (2 + i) 2 w a j = (if j = 2 ∧ 2 ≤ a ∧ a < 2 + (i + 1) ∧ s.1 a 2 = g then w else s.1 a j)
        unfold mset
        by_cases q : a = 2 + i ∧ j = 2
        · rw [if_pos q, if_pos ⟨q.2, by omega, by omega, by rw [q.1]; exact c⟩]
        · rw [if_neg q]
          show (if j = 2 ∧ 2 ≤ a ∧ a < 2 + i ∧ s.1 a 2 = g then w else s.1 a j) = _
          by_cases q2 : j = 2 ∧ 2 ≤ a ∧ a < 2 + i ∧ s.1 a 2 = g
          · rw [if_pos q2, if_pos ⟨q2.1, q2.2.1, by omega, q2.2.2.2⟩]
          · rw [if_neg q2, if_neg (fun hh => q2 ⟨hh.1, hh.2.1, by omega, hh.2.2.2⟩)]
      have hm' := hm.pB (k := i) (j := 2) (v := w) g0 (by rw [e05]; omega) (by decide) (by decide)
      rw [hst] at hm'
      exact ih f (i + 1) _ (by omega) (by omega) (by omega) (by omega) hm' (fun j => by rw [ms_a (by omega)]; exact h19 j) (by rw [ms_a (Ne.symm hne)]; exact hm0) (by rw [ms_a (Ne.symm hne)]; exact hm2)
    · rw [if_neg c]
      have hst : sFixR i g w s = sFixR (i + 1) g w s := by
        refine Prod.ext ?_ rfl
        funext a j
        show (if j = 2 ∧ 2 ≤ a ∧ a < 2 + i ∧ s.1 a 2 = g then w else s.1 a j) = (if j = 2 ∧ 2 ≤ a ∧ a < 2 + (i + 1) ∧ s.1 a 2 = g then w else s.1 a j)
        by_cases q2 : j = 2 ∧ 2 ≤ a ∧ a < 2 + i ∧ s.1 a 2 = g
        · rw [if_pos q2, if_pos ⟨q2.1, q2.2.1, by omega, q2.2.2.2⟩]
        · rw [if_neg q2, if_neg (fun hh => q2 ⟨hh.1, hh.2.1, by
            by_cases h9 : a = 2 + i
            · exfalso
              rw [h9] at hh
              exact c hh.2.2.2
            · omega, hh.2.2.2⟩)]
      rw [hst] at hm
      exact ih f (i + 1) m (by omega) (by omega) (by omega) (by omega) hm h19 hm0 hm2
theorem remove_e (hC : CR m0 m s B) (h0 : 0 ≤ k) (h1 : k < sg s 0 5) : ∃ m', fm_X8_remove (m 19 k) m = some (0, m') ∧ CR m0 m' (sRem k s) B ∧ (∀ i : Int, 0 ≤ i → i < k → m' 19 i = m 19 i) := by
  have ht := hC.th
  have ho := hC.ob h0 (by omega)
  have hr0 := hC.rem0 h0 h1
  generalize hMM : mset (mset (shf m k (sg s 0 5)) 17 5 (sg s 0 5 - 1)) 19 (sg s 0 5 - 1) (m 19 k) = M at hr0
  have s05 : sg (sRem0 k s) 0 5 = sg s 0 5 - 1 := rem0_5
  have mb : ∀ i, M (m 19 k) i = m (m 19 k) i := fun i => by
    subst hMM
    rw [ms_a (by omega), ms_a (by omega)]
    unfold shf
    rw [if_neg (by omega)]
  have hfix0 : sFixR 0 (sg s (2 + k) 0) (sg s (2 + k) 2) (sRem0 k s) = sRem0 k s := by
    refine Prod.ext ?_ rfl
    funext a j
    exact if_neg (by omega)
  obtain ⟨m', g1, g2, g3⟩ := rem_116 (b := m 19 k) (g := sg s (2 + k) 0) (w := sg s (2 + k) 2) hr0 ⟨ho.1, ho.2.1⟩ (by rw [s05]; subst hMM; exact ms_e) (by omega) (by rw [mb]; exact hC.br h0 h1 (by decide) (by decide)) (by rw [mb]; exact hC.br h0 h1 (by decide) (by decide)) (sg s 0 5 - 1).toNat BIG 0 M (by decide) (by omega) (by omega) (BIG_g (by omega)) (by rw [hfix0]; exact hr0) (fun _ => rfl) (by rw [mb]; exact hC.br h0 h1 (by decide) (by decide)) (by rw [mb]; exact hC.br h0 h1 (by decide) (by decide))
  rw [s05, rem_all] at g2
  have hshf : shf m k (k + 1) = m := by
    funext a j
    unfold shf
    rw [if_neg (by omega)]
  have e2 := rem_2 (m := m) (t := sg s 0 5) (k := k) (K := fun x_43 => (if x_43 < m 17 5 then if x_43 < 12 then fl_X8_remove_57 (m 19 k) (fun m_138 => up m_138 17 5 (w32 (m_138 17 5 - 1)) fun m_152 => gd (0 ≤ m_152 17 5 ∧ m_152 17 5 < 12) <| gd (m 19 k = 0 ∨ okc m_152 (m 19 k) 2) <| up m_152 19 (m_152 17 5) (m 19 k) fun m_168 => fl_X8_remove_116 (m 19 k) BIG 0 m_168) BIG (w32 (x_43 + 1)) m else some (0, m) else some (0, m))) ht.1 h0 h1 ht.2.2 (fun i q1 q2 => by have := hC.ob q1 q2; omega) (fun i q1 q2 hh => hC.inj q1 q2 h0 (by omega) hh) k.toNat BIG 0 (by decide) h0 (by omega) (BIG_g (by omega))
  have e57 := rem_57 (m := m) (t := sg s 0 5) (k := k) (b := m 19 k) (K := fun m_138 => up m_138 17 5 (w32 (m_138 17 5 - 1)) fun m_152 => gd (0 ≤ m_152 17 5 ∧ m_152 17 5 < 12) <| gd (m 19 k = 0 ∨ okc m_152 (m 19 k) 2) <| up m_152 19 (m_152 17 5) (m 19 k) fun m_168 => fl_X8_remove_116 (m 19 k) BIG 0 m_168) hC.1 ht.1 h0 ht.2.2 (fun i q1 q2 => by have := hC.ob q1 q2; omega) (sg s 0 5 - (k + 1)).toNat BIG (k + 1) (by omega) (by omega) (by omega) (BIG_g (by omega))
  rw [hshf] at e57
  have es5 : shf m k (sg s 0 5) 17 5 = sg s 0 5 := by unfold shf; rw [if_neg (by omega)]; exact ht.1
  have hok : okc (mset (shf m k (sg s 0 5)) 17 5 (sg s 0 5 - 1)) (m 19 k) 2 := by
    have ok := ho.2.2
    refine ⟨ok.1, ?_, ?_⟩
    · rw [ms_a (by decide)]; unfold shf; rw [if_neg (by omega)]; exact ok.2.1
    · rw [ms_a (by omega)]; unfold shf; rw [if_neg (by omega)]; exact ok.2.2
  refine ⟨m', ?_, g2, fun i q1 q2 => ?_⟩
  · have hd : fm_X8_remove (m 19 k) m = fl_X8_remove_2 (m 19 k) m (fun x_43 => (if x_43 < m 17 5 then if x_43 < 12 then fl_X8_remove_57 (m 19 k) (fun m_138 => up m_138 17 5 (w32 (m_138 17 5 - 1)) fun m_152 => gd (0 ≤ m_152 17 5 ∧ m_152 17 5 < 12) <| gd (m 19 k = 0 ∨ okc m_152 (m 19 k) 2) <| up m_152 19 (m_152 17 5) (m 19 k) fun m_168 => fl_X8_remove_116 (m 19 k) BIG 0 m_168) BIG (w32 (x_43 + 1)) m else some (0, m) else some (0, m))) BIG 0 := by
      unfold fm_X8_remove
      simp only [lx_p]
    rw [hd, e2, ht.1, if_pos h1, if_pos (by omega), w32_id (by omega) (by omega), e57, up_t, es5, w32_id (by omega) (by omega), ms_e, gd_t ⟨by omega, by omega⟩, gd_t (Or.inr hok), up_t, hMM]
    exact g1
  · rw [g3]
    subst hMM
    rw [ms_j (by omega), ms_a (by decide)]
    unfold shf
    rw [if_neg (by omega)]
end REM
