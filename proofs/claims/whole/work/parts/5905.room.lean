/-! THE ROOM: how many parts a row has of its own, and where its parts end. -/
section ROM
variable {m m' M : MM} {r a b i j k v n s z P K h x y t o T : Int} {l L : List Int}
def sm (f : Int → Int) : Nat → Int
  | 0 => 0
  | n + 1 => sm f n + f (n : Int)
/-- the parts of its own -/
def OpP (m : MM) (r a : Int) : Prop := ∃ i : Int, m r 1 ≤ i ∧ i < m (m r 0) (-2) ∧ m (m r 0) i ≠ 0 ∧ a = m (m r 0) i
def HP (m : MM) (r : Int) (L : List Int) : Prop := ∀ a, OpP m r a → a ∈ L
/-- what is wanting to a full part -/
def md (s : Int) : Int := (-s) % 64
/-- no part lies beyond K -/
def Cap (m : MM) (r K : Int) : Prop := m (m r 0) (-2) ≤ 2 * K ∧ ∀ k : Int, 0 ≤ k → K ≤ k → k < m (m r 0) (-2) → m (m r 0) k = 0
/-- the array of parts is the same -/
def SmT (m m' : MM) (r : Int) : Prop := m' r 0 = m r 0 ∧ m' r 1 = m r 1 ∧ (∀ i : Int, 0 ≤ i → m' (m r 0) i = m (m r 0) i) ∧ m' (m r 0) (-2) = m (m r 0) (-2)
theorem SmT.cap (h : SmT m m' r) (c : Cap m r K) : Cap m' r K := by
  obtain ⟨h1, -, h3, h4⟩ := h
  unfold Cap
  rw [h1, h4]
  exact ⟨c.1, fun k k0 k1 k2 => by rw [h3 k k0]; exact c.2 k k0 k1 k2⟩
theorem SmT.hp (h : SmT m m' r) (s0 : 0 ≤ m r 1) (c : HP m r L) : HP m' r L := by
  obtain ⟨h1, h2, h3, h4⟩ := h
  intro a ha
  refine c a ?_
  obtain ⟨i, i0, i1, i2, i3⟩ := ha
  rw [h2] at i0
  rw [h1, h4] at i1
  rw [h1, h3 i (by omega)] at i2 i3
  exact ⟨i, i0, i1, i2, i3⟩
theorem SmT.len (h : SmT m m' r) : m' (m' r 0) (-2) = m (m r 0) (-2) := by rw [h.1]; exact h.2.2.2
theorem SmT.rf : SmT m m r := ⟨rfl, rfl, fun _ _ => rfl, rfl⟩
theorem SmT.of (hr : RowIs m r l) (hx : Ext m m') (h0 : ∀ j : Int, 0 ≤ j → m' r j = m r j) (h1 : ∀ j : Int, 0 ≤ j → m' (m r 0) j = m (m r 0) j) : SmT m m' r := ⟨h0 0 (by decide), h0 1 (by decide), h1, (hx.2 _ hr.1.2.1.1 hr.1.2.1.2.1).2⟩
theorem SmT.fr (hr : RowIs m r l) (hx : Ext m m') (hf : ∀ a j : Int, Fp m r a → 0 ≤ j → m' a j = m a j) : SmT m m' r := SmT.of hr hx (fun j j0 => hf r j (Or.inl rfl) j0) fun j j0 => hf _ j (Or.inr (Or.inl rfl)) j0
theorem SmT.tr (h : SmT m m' r) (k : SmT m' M r) : SmT m M r := by
  obtain ⟨h1, h2, h3, h4⟩ := h
  obtain ⟨k1, k2, k3, k4⟩ := k
  rw [h1] at k1 k3 k4
  exact ⟨k1, k2.trans h2, fun i i0 => (k3 i i0).trans (h3 i i0), k4.trans h4⟩
/-- what add makes of the parts -/
def AdR (m m' : MM) (r : Int) : Prop := (∀ K : Int, m r 2 < 64 * K → Cap m r K → Cap m' r K) ∧ (∀ L : List Int, HP m r L → ∃ L' : List Int, HP m' r L' ∧ 64 * (L'.length : Int) + md (m r 2) ≤ 64 * (L.length : Int) + 1 + md (m r 2 + 1)) ∧ (m' (m' r 0) (-2) = m (m r 0) (-2) ∨ (m' (m' r 0) (-2) = 2 * m (m r 0) (-2) ∧ m (m r 0) (-2) ≤ m r 2 / 64))
theorem addA_rm (h : RowIs m r l) (hpt : m r 2 / 64 < m (m r 0) (-2)) (hq : m (m r 0) (m r 2 / 64) ≠ 0) : SmT m (addA m r v (m (m r 0) (m r 2 / 64))) r := by
  have hs := h.1.sz
  have hP := ((h.1.2.2.2.2.2.2.2.2 _ (by omega) hpt).resolve_left (fun hh => hq hh.1)).2
  obtain ⟨g1, g2, g3, g4, g5⟩ := addA_ok (v := v) h.1 hpt hq
  exact ⟨g4, g3, fun i _ => g5 i, ((addA_ext (v := v) h.1.1 hP).2 _ h.1.2.1.1 h.1.2.1.2.1).2⟩
theorem SmT.adr (h : SmT m m' r) (s0 : 0 ≤ m r 1) : AdR m m' r := ⟨fun K _ c => h.cap c, fun L c => ⟨L, h.hp s0 c, by unfold md; omega⟩, Or.inl h.len⟩
theorem addB_rm (h0 : 163 ≤ m 0 0) (h : RowIs m r l) (hpt : m r 2 / 64 < m (m r 0) (-2)) (hq : m (m r 0) (m r 2 / 64) = 0) : (∀ K : Int, m r 2 < 64 * K → Cap m r K → Cap (addB m r v) r K) ∧ (∀ L : List Int, HP m r L → HP (addB m r v) r (m 0 0 :: L)) ∧ addB m r v (addB m r v r 0) (-2) = m (m r 0) (-2) ∧ m r 2 % 64 = 0 := by
  obtain ⟨q1, q2, q3, q4, q5⟩ := h.r4
  have hs := h.1.sz
  have hsh := h.1.2.2.2.2.1
  obtain ⟨s1, s2, s3, s4, s5, s6, s7, s8, s9⟩ := stB_is h0 h hpt hq
  have e : addB m r v = addA (stB m r) r v (stB m r (stB m r r 0) (stB m r r 2 / 64)) := by
    rw [s6, s5, s8]
    rfl
  have e3 : ∀ i : Int, i ≠ m r 2 / 64 → stB m r (m r 0) i = m (m r 0) i := fun i hi => by
    unfold stB
    rw [ms_j hi, mn_o (by omega) (by omega)]
  have sm := addA_rm (v := v) s1 (by rw [s5, s6, s9]; exact hpt) (by rw [s5, s6, s8]; omega)
  rw [← e] at sm
  refine ⟨fun K hK c => sm.cap ?_, fun L c => sm.hp (by rw [s7]; exact hsh) ?_, by rw [sm.len, s6, s9], ?_⟩
  · unfold Cap
    rw [s6, s9]
    refine ⟨c.1, fun k k0 k1 k2 => ?_⟩
    rw [e3 k (by omega)]
    exact c.2 k k0 k1 k2
  · intro a ha
    obtain ⟨i, i0, i1, i2, i3⟩ := ha
    rw [s7] at i0
    rw [s6, s9] at i1
    rw [s6] at i2 i3
    by_cases hi : i = m r 2 / 64
    · rw [hi, s8] at i3
      rw [i3]
      exact List.mem_cons_self
    · rw [e3 i hi] at i2 i3
      exact List.mem_cons_of_mem _ (c a ⟨i, i0, i1, i2, i3⟩)
  · rcases h.1.2.2.2.2.2.2.2.2 _ (by omega) hpt with g | g
    · have := g.2
      omega
    · exact absurd hq g.1
theorem add_rm (h0 : 163 ≤ m 0 0) (h : RowIs m r l) (hl : l.length < 268435456) : AdR m (addM m r v) r := by
  have hs := h.1.sz
  have h26 := h.1.2.2.2.2.2.2.2.1
  have h9 := h.2.2.1
  have hsh := h.1.2.2.2.2.1
  unfold addM
  by_cases c1 : m r 2 / 64 < m (m r 0) (-2)
  · rw [if_pos c1]
    by_cases c2 : m (m r 0) (m r 2 / 64) = 0
    · rw [if_pos c2]
      obtain ⟨u1, u2, u3, u4⟩ := addB_rm (v := v) h0 h c1 c2
      exact ⟨u1, fun L c => ⟨_, u2 L c, by rw [List.length_cons]; unfold md; omega⟩, Or.inl u3⟩
    · rw [if_neg c2]
      exact (addA_rm (v := v) h c1 c2).adr hsh
  · rw [if_neg c1]
    obtain ⟨s1, s2, s3, s4, s5, s6, s7, s8, s9⟩ := addG_is h0 h (by omega)
    have g1 := h.1.2.2.1
    have hx := s3.1
    have a3 : ∀ j : Int, 0 ≤ j → j < m (m r 0) (-2) → addG m r (m 0 0) j = m (m r 0) j := by
      intro j h1 h2
      obtain ⟨q1, q2, q3, q4, q5⟩ := h.r4
      unfold addG
      rw [ms_a (by omega)]
      unfold cpR
      rw [if_pos ⟨rfl, h1, h2⟩, mn_o (by omega) (by omega)]
    obtain ⟨u1, u2, u3, u4⟩ := addB_rm (v := v) (by omega) s1 (by rw [s5, s6, s8]; omega) (by rw [s5, s6]; exact s9 _ (by omega))
    rw [s5] at u1 u4
    rw [s6, s8] at u3
    refine ⟨fun K hK c => u1 K hK ?_, fun L c => ⟨_, u2 L ?_, by rw [List.length_cons]; unfold md; omega⟩, Or.inr ⟨u3, by omega⟩⟩
    · unfold Cap
      rw [s6, s8]
      refine ⟨by omega, fun k k0 k1 k2 => ?_⟩
      by_cases ck : k < m (m r 0) (-2)
      · rw [a3 k k0 ck]
        exact c.2 k k0 k1 ck
      · exact s9 k (by omega)
    · intro a ha
      obtain ⟨i, i0, i1, i2, i3⟩ := ha
      rw [s7] at i0
      rw [s6] at i2 i3
      by_cases ck : i < m (m r 0) (-2)
      · rw [a3 i (by omega) ck] at i2 i3
        exact c a ⟨i, i0, ck, i2, i3⟩
      · exact absurd (s9 i (by omega)) i2
/-- a row that shares nothing is cut: only its size is written -/
theorem cut_0 (h : RowIs m r l) (hs1 : m r 1 = 0) (n0 : 0 ≤ n) (hc : fm_X5_cut r n m = some (z, m')) : SmT m m' r := by
  have h9 := h.2.2.1
  have hs := h.1.sz
  obtain ⟨q1, q2, q3, q4, q5⟩ := h.r4
  have eM : fm_J9_max_7cf53 0 n m = some n := by
    unfold fm_J9_max_7cf53
    split
    · rfl
    · congr 1; omega
  have eN : fm_J9_min_7cf53 (m r 2) n m = some (if n < m r 2 then n else m r 2) := by
    unfold fm_J9_min_7cf53
    split <;> rfl
  generalize ez : (if n < m r 2 then n else m r 2) = y at eN
  have hz : 0 ≤ y ∧ y ≤ m r 2 := by
    subst ez
    split <;> omega
  have e1 : mset m r 2 y r 1 = 0 := (ms_j (by decide)).trans hs1
  have e2 : mset m r 2 y r 2 = y := ms_e
  have eQ : fm_J9_min_7cf53 0 (y / 64) (mset m r 2 y) = some 0 := by
    unfold fm_J9_min_7cf53
    rw [if_neg (by omega)]
  have e0 : fm_X5_cut r n m = some (0, mset (mset m r 2 y) r 1 0) := by
    unfold fm_X5_cut
    simp only [lx_p]
    rw [bp_t eM, bp_t eN, up_t, e2, iShr_6 hz.1 (by omega)]
    obtain ⟨N, hN⟩ := BIG_s
    rw [hN]
    unfold fl_X5_cut_26
    simp only [lx_t]
    rw [e1, if_neg (by omega), bp_t eQ, up_t]
  rw [e0] at hc
  cases hc
  refine ⟨by rw [ms_j (by decide), ms_j (by decide)], by rw [ms_e, hs1], fun i _ => by rw [ms_a (Ne.symm q5), ms_a (Ne.symm q5)], by rw [ms_a (Ne.symm q5), ms_a (Ne.symm q5)]⟩
/-- removeAt leaves the array of parts as it is -/
theorem rem_rm (hF : Fix m) (h : RowIs m r l) (hc : fm_X5_removeAt r n m = some (z, m')) : SmT m m' r := by
  have f := fw_X5_removeAt hF h.1.1 hc
  have key : ∀ {c : Nat} {b : Int} (i : Int), okc m b c → (c = 108 ∨ (c = 6 ∧ i ≠ 2)) → 0 ≤ i → m' b i = m b i := fun {c b} i ok hc hi => f.2.2.2.1 b i ok.1 ok.2.1 hi fun hw => by
    rcases hw with hw | ⟨w, w1, w2, w3⟩
    · have := ok.1
      omega
    · have h1 : (fW_X5_removeAt.all fun w => (decide (w.1 = 1) && (decide (w.2.1 = 6) && decide (w.2.2 = 2))) || (decide (w.1 = 3) && decide (w.2.1 = 101))) = true := by decide +kernel
      have h2 := List.all_eq_true.mp h1 w w1
      simp only [Bool.or_eq_true, Bool.and_eq_true, decide_eq_true_eq] at h2
      have h3 := ok.2.2
      rcases w2 with w2 | w2 | w2
      · omega
      · have h4 := w2.2
        rw [h3] at h4
        omega
      · have h4 := w2.2.1
        rw [h3] at h4
        omega
  exact ⟨key 0 h.1.1 (Or.inr ⟨rfl, by decide⟩) (by decide), key 1 h.1.1 (Or.inr ⟨rfl, by decide⟩) (by decide), fun i i0 => key i h.1.2.1 (Or.inl rfl) i0, (f.ext.2 _ h.1.2.1.1 h.1.2.1.2.1).2⟩
/-- a method that writes none of it leaves the array of parts as it is -/
theorem fr_rm {W : List (Int × Int × Int)} (h : RowIs m r l) (f : Fr W 0 m m') (hW : (W.all fun w => decide (w.1 = 9) || (decide (w.1 = 1) && (decide (w.2.1 ≠ 6) && decide (w.2.1 ≠ 108)))) = true) : SmT m m' r := by
  have key : ∀ {c : Nat} {b : Int} (i : Int), okc m b c → (c = 108 ∨ c = 6) → 0 ≤ i → m' b i = m b i := fun {c b} i ok hc hi => f.2.2.2.1 b i ok.1 ok.2.1 hi fun hw => by
    rcases hw with hw | ⟨w, w1, w2, w3⟩
    · have := ok.1
      omega
    · have h2 := List.all_eq_true.mp hW w w1
      simp only [Bool.or_eq_true, Bool.and_eq_true, decide_eq_true_eq] at h2
      have h3 := ok.2.2
      rcases w2 with w2 | w2 | w2
      · omega
      · have h4 := w2.2
        rw [h3] at h4
        omega
      · omega
  exact ⟨key 0 h.1.1 (Or.inr rfl) (by decide), key 1 h.1.1 (Or.inr rfl) (by decide), fun i i0 => key i h.1.2.1 (Or.inl rfl) i0, (f.ext.2 _ h.1.2.1.1 h.1.2.1.2.1).2⟩
/-- a row as it was made -/
def FR (m : MM) (r : Int) : Prop := m (m r 0) (-2) = 1 ∧ ∀ i : Int, 0 ≤ i → m (m r 0) i = 0
theorem FR.cap (h : FR m r) (hK : 1 ≤ K) : Cap m r K := ⟨by rw [h.1]; omega, fun k k0 _ _ => h.2 k k0⟩
theorem FR.hp (h : FR m r) (s0 : 0 ≤ m r 1) : HP m r [] := fun a ha => by
  obtain ⟨i, i0, i1, i2, i3⟩ := ha
  exact absurd (h.2 i (by omega)) i2
end ROM
section ROM2
variable {m m' M : MM} {r : Int}
theorem AdR.sm (h : AdR m m' r) (k : SmT m' M r) (s0 : 0 ≤ m' r 1) : AdR m M r := by
  obtain ⟨h1, h2, h3⟩ := h
  refine ⟨fun K hK c => k.cap (h1 K hK c), fun L c => ?_, by rw [k.len]; exact h3⟩
  obtain ⟨L', g1, g2⟩ := h2 L c
  exact ⟨L', k.hp s0 g1, g2⟩
end ROM2
section ROM3
variable {f g : Int → Int} {r d : Int}
theorem sm_i1 : ∀ {n : Nat}, 0 ≤ r → r < (n : Int) → sm (fun j => if j = r then f r + d else f j) n = sm f n + d := by
  have key : ∀ n : Nat, sm (fun j => if j = r then f r + d else f j) n = sm f n + if 0 ≤ r ∧ r < (n : Int) then d else 0 := by
    intro n
    induction n with
    | zero =>
      show (0 : Int) = 0 + _
      rw [if_neg (by omega)]
      rfl
    | succ n ih =>
      show sm (fun j => if j = r then f r + d else f j) n + (if (n : Int) = r then f r + d else f n) = sm f n + f n + _
      rw [ih]
      by_cases c : (n : Int) = r
      · rw [if_pos c, if_neg (by omega), if_pos (by omega), c]
        omega
      · rw [if_neg c]
        by_cases c2 : 0 ≤ r ∧ r < (n : Int)
        · rw [if_pos c2, if_pos (by omega)]
          omega
        · rw [if_neg c2, if_neg (by omega)]
          omega
  intro n r0 r1
  rw [key n, if_pos ⟨r0, r1⟩]
theorem sm_i0 (h : ∀ i, 0 ≤ f i) : ∀ n : Nat, sm (fun j => if j = r then 0 else f j) n ≤ sm f n := by
  intro n
  induction n with
  | zero => exact Int.le_refl _
  | succ n ih =>
    show sm _ n + (if (n : Int) = r then 0 else f n) ≤ sm f n + f n
    have := h n
    split <;> omega
end ROM3
/-! A row of the machine: its parts reach no further than what it ever held. -/
section ROM4
variable {m m' M : MM} {r s t K : Int} {l : List Int}
def mcK (r : Int) : Int := if r = 21 then 3126 else if r = 44 then 8192 else 33
def CpS (m m' : MM) (r s : Int) : Prop := ∀ K : Int, 1 ≤ K → s ≤ 64 * K → Cap m r K → Cap m' r K
theorem CpS.rf : CpS m m r s := fun _ _ _ h => h
theorem CpS.mono (h : CpS m m' r s) (hs : s ≤ t) : CpS m m' r t := fun K k0 k1 c => h K k0 (by omega) c
theorem CpS.sm (h : CpS m m' r s) (k : SmT m' M r) : CpS m M r s := fun K k0 k1 c => k.cap (h K k0 k1 c)
theorem CpS.add (h : CpS m m' r s) (hs : s ≤ t) (k : AdR m' M r) (ht : m' r 2 < t) : CpS m M r t := fun K k0 k1 c => k.1 K (by omega) (h K k0 (by omega) c)
theorem CpS.tr (h : CpS m m' r s) (k : CpS m' M r s) : CpS m M r s := fun K k0 k1 c => k K k0 k1 (h K k0 k1 c)
end ROM4
