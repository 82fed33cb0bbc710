/-! THE TELLING: what the class reads of a history and of a code. -/
section HST
variable {m m0 : MM} {h i j k a b : Int} {x : CX} {E : Int → Ev} {l : List Int}
def EvOk (e : Ev) : Prop := e.1 ≤ 17 ∧ e.2.1 < 524288 ∧ e.2.2.1 < 1024 ∧ e.2.2.2 < 1073741824
def EvIs (l : List Int) (E : Int → Ev) : Prop := ∀ (n : Nat) (v : Int), l[n]? = some v → EvOk (E (n : Int)) ∧ PK v (kpk (E (n : Int)).1 (E (n : Int)).2.1 (E (n : Int)).2.2.1 (E (n : Int)).2.2.2)
def HC (m : MM) (h N : Int) (E : Int → Ev) : Prop := okc m h 3 ∧ m h 1 = N ∧ ∃ l, RowIs m (m h 0) l ∧ (l.length : Int) = N ∧ EvIs l E
theorem HC.n (H : HC m h (x.1 0) E) : 0 ≤ x.1 0 ∧ x.1 0 < 536870912 := by
  obtain ⟨-, -, l, h1, h2, -⟩ := H
  have := h1.len
  omega
theorem HC.get (H : HC m h (x.1 0) E) (h0 : 0 ≤ i) (h1 : i < x.1 0) : okc m (m h 0) 6 ∧ EvOk (E i) ∧ ∃ v, fm_X5_wide (m h 0) i m = some v ∧ PK v (kpk (E i).1 (E i).2.1 (E i).2.2.1 (E i).2.2.2) := by
  obtain ⟨g1, g2, l, g3, g4, g5⟩ := H
  have hi : i.toNat < l.length := by omega
  have e : ((i.toNat : Nat) : Int) = i := by omega
  have hv := List.getElem?_eq_getElem hi
  have := g5 i.toNat _ hv
  rw [e] at this
  refine ⟨g3.1.1, this.1, _, ?_, this.2⟩
  have := wide_get g3 hv
  rw [e] at this
  exact this
theorem HC.sz (H : HC m h (x.1 0) E) : m h 1 = x.1 0 := H.2.1
theorem kind_e (H : HC m h (x.1 0) E) (h0 : 0 ≤ i) (h1 : i < x.1 0) : fm_X2_kind h i m = some (ek (E i)) := by
  obtain ⟨g1, ⟨k1, k2, k3, k4⟩, v, g2, g3⟩ := H.get h0 h1
  unfold fm_X2_kind
  simp only [lx_p]
  rw [gd_t g1, bp_t g2, c_kind g3 k1 k2 k3 k4]
  rfl
theorem up_e (H : HC m h (x.1 0) E) (h0 : 0 ≤ i) (h1 : i < x.1 0) : ∃ v, fm_X5_wide (m h 0) i m = some v ∧ lUshr v 59 = ek (E i) ∧ iAnd (w32 (lUshr v 40)) 524287 = ex (E i) := by
  obtain ⟨g1, ⟨k1, k2, k3, k4⟩, v, g2, g3⟩ := H.get h0 h1
  exact ⟨v, g2, c_up g3 k1 k2 k3 k4, c_x g3 k1 k2 k3 k4⟩
theorem x_e (H : HC m h (x.1 0) E) (h0 : 0 ≤ i) (h1 : i < x.1 0) : fm_X2_x h i m = some (ex (E i)) := by
  obtain ⟨g1, ⟨k1, k2, k3, k4⟩, v, g2, g3⟩ := H.get h0 h1
  unfold fm_X2_x
  simp only [lx_p]
  rw [gd_t g1, bp_t g2, c_x g3 k1 k2 k3 k4]
  rfl
theorem y_e (H : HC m h (x.1 0) E) (h0 : 0 ≤ i) (h1 : i < x.1 0) : fm_X2_y h i m = some (ey (E i)) := by
  obtain ⟨g1, ⟨k1, k2, k3, k4⟩, v, g2, g3⟩ := H.get h0 h1
  unfold fm_X2_y
  simp only [lx_p]
  rw [gd_t g1, bp_t g2, c_y g3 k1 k2 k3 k4]
  rfl
theorem clock_e (H : HC m h (x.1 0) E) (h0 : 0 ≤ i) (h1 : i < x.1 0) : fm_X2_clockOfArrival h i m = some (ew (E i) % 1024) := by
  obtain ⟨g1, ⟨k1, k2, k3, k4⟩, v, g2, g3⟩ := H.get h0 h1
  unfold fm_X2_clockOfArrival
  simp only [lx_p]
  rw [gd_t g1, bp_t g2, c_clock g3 k1 k2 k3 k4]
  unfold ew
  congr 1
theorem max0 (h0 : 0 ≤ i) : fm_J9_max_7cf53 0 i m = some i := by
  unfold fm_J9_max_7cf53
  split
  · rfl
  · congr 1; omega
theorem nextCmd_e (H : HC m h (x.1 0) x.2.1) (h0 : 0 ≤ i) : fm_X2_nextCommand h i m = some (nc x i) := by
  have hn := H.n
  have key : ∀ (n f : Nat) (i : Int), 0 ≤ i → (x.1 0 - i).toNat = n → n < f → fl_X2_nextCommand_6 h m f i = some (nxc x n i) := by
    intro n
    induction n with
    | zero =>
      intro f i h0 h1 h2
      obtain ⟨f, rfl⟩ : ∃ g, f = g + 1 := ⟨f - 1, by omega⟩
      unfold fl_X2_nextCommand_6 nxc
      simp only [lx_p]
      rw [H.sz, if_neg (by omega)]
    | succ n ih =>
      intro f i h0 h1 h2
      obtain ⟨f, rfl⟩ : ∃ g, f = g + 1 := ⟨f - 1, by omega⟩
      have hi : i < x.1 0 := by omega
      obtain ⟨v, g1, g2, g3⟩ := up_e H h0 hi
      unfold fl_X2_nextCommand_6 nxc
      simp only [lx_p]
      rw [H.sz, if_pos hi, if_pos hi, gd_t (H.get h0 hi).1, bp_t g1, g2, w32_id (by omega) (by omega)]
      by_cases c1 : 7 < ek (x.2.1 i)
      · rw [if_pos c1, if_pos c1, bp_t g1, g2]
        by_cases c2 : ek (x.2.1 i) = 17
        · rw [if_pos c2, if_pos c2]
          exact ih f (i + 1) (by omega) (by omega) (by omega)
        · rw [if_neg c2, if_neg c2]
      · rw [if_neg c1, if_neg c1]
        exact ih f (i + 1) (by omega) (by omega) (by omega)
  unfold fm_X2_nextCommand
  rw [bp_t (max0 h0)]
  exact key _ BIG i h0 rfl (BIG_g (by omega))
theorem nextArr_e (H : HC m h (x.1 0) x.2.1) (h0 : 0 ≤ i) : fm_X2_nextArrival h i m = some (na x i) := by
  have hn := H.n
  have key : ∀ (n f : Nat) (i : Int), 0 ≤ i → (x.1 0 - i).toNat = n → n < f → fl_X2_nextArrival_6 h m f i = some (nxa x n i) := by
    intro n
    induction n with
    | zero =>
      intro f i h0 h1 h2
      obtain ⟨f, rfl⟩ : ∃ g, f = g + 1 := ⟨f - 1, by omega⟩
      unfold fl_X2_nextArrival_6 nxa
      simp only [lx_p]
      rw [H.sz, if_neg (by omega)]
    | succ n ih =>
      intro f i h0 h1 h2
      obtain ⟨f, rfl⟩ : ∃ g, f = g + 1 := ⟨f - 1, by omega⟩
      have hi : i < x.1 0 := by omega
      obtain ⟨v, g1, g2, g3⟩ := up_e H h0 hi
      unfold fl_X2_nextArrival_6 nxa
      simp only [lx_p]
      rw [H.sz, if_pos hi, if_pos hi, gd_t (H.get h0 hi).1, bp_t g1, g2, w32_id (by omega) (by omega)]
      by_cases c1 : 7 < ek (x.2.1 i)
      · rw [if_pos c1, if_pos c1]
        exact ih f (i + 1) (by omega) (by omega) (by omega)
      · rw [if_neg c1, if_neg c1]
  unfold fm_X2_nextArrival
  rw [bp_t (max0 h0)]
  exact key _ BIG i h0 rfl (BIG_g (by omega))
theorem taskB_e (H : HC m h (x.1 0) x.2.1) : fm_X2_taskBeyond h j m = some (tb x j) := by
  have hn := H.n
  have key : ∀ (n f : Nat) (i : Int), 0 ≤ i → (x.1 0 - i).toNat = n → n < f → fl_X2_taskBeyond_2 h j m f i = some (nxt x j n i) := by
    intro n
    induction n with
    | zero =>
      intro f i h0 h1 h2
      obtain ⟨f, rfl⟩ : ∃ g, f = g + 1 := ⟨f - 1, by omega⟩
      unfold fl_X2_taskBeyond_2 nxt
      simp only [lx_p]
      rw [H.sz, if_neg (by omega)]
    | succ n ih =>
      intro f i h0 h1 h2
      obtain ⟨f, rfl⟩ : ∃ g, f = g + 1 := ⟨f - 1, by omega⟩
      have hi : i < x.1 0 := by omega
      obtain ⟨v, g1, g2, g3⟩ := up_e H h0 hi
      unfold fl_X2_taskBeyond_2 nxt
      simp only [lx_p]
      rw [H.sz, if_pos hi, if_pos hi, gd_t (H.get h0 hi).1, bp_t g1, g2, w32_id (by omega) (by omega)]
      by_cases c1 : ek (x.2.1 i) = 17
      · rw [if_pos c1, if_pos c1, bp_t g1, g3]
        by_cases c2 : j < ex (x.2.1 i)
        · rw [if_pos c2, if_pos c2]
        · rw [if_neg c2, if_neg c2]
          exact ih f (i + 1) (by omega) (by omega) (by omega)
      · rw [if_neg c1, if_neg c1]
        exact ih f (i + 1) (by omega) (by omega) (by omega)
  unfold fm_X2_taskBeyond tb
  have e : (x.1 0 - 0).toNat = (x.1 0).toNat := by rw [Int.sub_zero]
  exact key _ BIG 0 (by decide) e (BIG_g (by omega))
theorem is_e (H : HC m h (x.1 0) E) (h0 : 0 ≤ i) (h1 : i < x.1 0) (k0 : 0 ≤ k) (k1 : k ≤ 17) (a0 : 0 ≤ a) (a1 : a < 524288) (b0 : 0 ≤ b) (b1 : b < 1024) : fm_X2_is h i k a b m = some (if eis (E i) k a b = true then 1 else 0) := by
  obtain ⟨g1, ⟨q1, q2, q3, q4⟩, v, g2, g3⟩ := H.get h0 h1
  have hv := (g3.ushr (k := 30) (n := 30) (by decide) (by decide)).vUshr (by unfold kpk; omega)
  have e1 : iAnd a 524287 = ((a.toNat : Nat) : Int) := by
    rw [iAnd_mask 19 (by decide) (by decide) a0 (by omega)]
    omega
  have e2 : iAnd b 1023 = ((b.toNat : Nat) : Int) := by
    rw [iAnd_mask 10 (by decide) (by decide) b0 (by omega)]
    omega
  have p0 : PK k k.toNat := PK.n k0 (by omega)
  have p1 : PK ((a.toNat : Nat) : Int) a.toNat := PK.n (Int.natCast_nonneg _) (by omega)
  have p2 : PK ((b.toNat : Nat) : Int) b.toNat := PK.n (Int.natCast_nonneg _) (by omega)
  have q := ((p0.shl (k := 29) (n := 29) (by decide) (by decide) (by omega)).or (p1.shl (k := 10) (n := 10) (by decide) (by decide) (by omega))).or p2
  have en : (k.toNat * 2 ^ 29 ||| a.toNat * 2 ^ 10) ||| b.toNat = k.toNat * 2 ^ 29 + (a.toNat * 2 ^ 10 + b.toNat) := by
    rw [Nat.or_assoc, or_add (show b.toNat < 2 ^ 10 by omega), or_add (show a.toNat * 2 ^ 10 + b.toNat < 2 ^ 29 by omega)]
  rw [en] at q
  have qv := q.vOr (by omega)
  have hs := H.sz
  unfold fm_X2_is
  simp only [lx_p]
  rw [e1, e2, qv, if_neg (by omega), hs, if_pos h1, gd_t g1, bp_t g2, hv]
  unfold eis ek ex ey
  by_cases c : (E i).1 = k.toNat ∧ (E i).2.1 = a.toNat ∧ (E i).2.2.1 = b.toNat
  · rw [if_pos (by unfold kpk; omega), if_pos (by
      simp only [Bool.and_eq_true, decide_eq_true_eq]
      omega)]
  · rw [if_neg (by unfold kpk; omega), if_neg (by
      simp only [Bool.and_eq_true, decide_eq_true_eq]
      omega)]
/-- a code: lines in one number each -/
def CodeIs (l : List Int) (C : Int → Int × Int × Int) : Prop := ∀ (n : Nat) (v : Int), l[n]? = some v → v = 1000000 * (C (n : Int)).1 + 1000 * (C (n : Int)).2.1 + (C (n : Int)).2.2 ∧ 0 ≤ (C (n : Int)).1 ∧ (C (n : Int)).1 ≤ 23 ∧ 0 ≤ (C (n : Int)).2.1 ∧ (C (n : Int)).2.1 ≤ 100 ∧ 0 ≤ (C (n : Int)).2.2 ∧ (C (n : Int)).2.2 ≤ 999
/-- what is fixed in a telling, in the memory behind load -/
def XC (m0 : MM) (x : CX) : Prop := HC m0 (m0 16 2) (x.1 0) x.2.1 ∧ ¬ Mfp m0 (m0 16 2) ∧ (∀ a, Fp m0 (m0 (m0 16 2) 0) a → ¬ Mfp m0 a) ∧ m0 16 4 = x.1 4 ∧ m0 16 5 = x.1 2 ∧ (0 < x.1 2 → m0 16 6 = x.1 3) ∧ m0 (m0 16 2) 4 = x.1 1 ∧ (∃ lc, RowIs m0 (m0 16 3) lc ∧ (lc.length : Int) = x.1 5 ∧ x.1 5 ≤ 24 ∧ CodeIs lc x.2.2) ∧ ∀ a, Fp m0 (m0 16 3) a → ¬ Mfp m0 a
theorem XC.hc (X : XC m0 x) (hM : FrM m0 m) : m 16 2 = m0 16 2 ∧ HC m (m0 16 2) (x.1 0) x.2.1 ∧ m (m0 16 2) 4 = x.1 1 ∧ okc m (m0 16 2) 3 := by
  obtain ⟨⟨k1, k2, l, k3, k4, k5⟩, k6, k7, -, -, -, k8, -⟩ := X
  have e : ∀ j, m (m0 16 2) j = m0 (m0 16 2) j := fun j => hM.2.1 _ j (by have := k1.1; omega) k1.2.1 k6
  have hok := hM.1.ok k1
  refine ⟨hM.2.2 2 (by decide), ⟨hok, by rw [e]; exact k2, l, ?_, k4, k5⟩, by rw [e]; exact k8, hok⟩
  rw [e]
  exact (k3.fr hM.1 fun a j ha _ => hM.2.1 a j (by have := (ha.lt k3.1).1; omega) (ha.lt k3.1).2 (k7 a ha)).1
theorem XC.code (X : XC m0 x) (hM : FrM m0 m) : m 16 3 = m0 16 3 ∧ okc m (m0 16 3) 6 ∧ m (m0 16 3) 2 = x.1 5 ∧ (0 ≤ x.1 5 ∧ x.1 5 ≤ 24) ∧ ∀ i : Int, 0 ≤ i → i < x.1 5 → fm_X5_at (m0 16 3) i m = some (1000000 * (x.2.2 i).1 + 1000 * (x.2.2 i).2.1 + (x.2.2 i).2.2) ∧ 0 ≤ (x.2.2 i).1 ∧ (x.2.2 i).1 ≤ 23 ∧ 0 ≤ (x.2.2 i).2.1 ∧ (x.2.2 i).2.1 ≤ 100 ∧ 0 ≤ (x.2.2 i).2.2 ∧ (x.2.2 i).2.2 ≤ 999 := by
  obtain ⟨-, -, -, -, -, -, -, ⟨lc, k1, k2, k3, k4⟩, k5⟩ := X
  have hr := (k1.fr hM.1 fun a j ha _ => hM.2.1 a j (by have := (ha.lt k1.1).1; omega) (ha.lt k1.1).2 (k5 a ha)).1
  refine ⟨hM.2.2 3 (by decide), hr.1.1, by rw [hr.2.2.1]; exact k2, ⟨by omega, k3⟩, fun i g1 g2 => ?_⟩
  have hi : i.toNat < lc.length := by omega
  have hv := List.getElem?_eq_getElem hi
  have e : ((i.toNat : Nat) : Int) = i := by omega
  have hw := wide_get hr hv
  have hc := k4 _ _ hv
  rw [e] at hw hc
  refine ⟨?_, hc.2⟩
  unfold fm_X5_at
  rw [bp_t hw, hc.1, w32_id (by omega) (by omega)]
end HST
