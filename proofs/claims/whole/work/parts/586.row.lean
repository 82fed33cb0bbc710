/-! LAYER 2: rows as lists: put, removeAt, cut (of rows that share nothing), wide. -/
section ROW4
variable {m m' : MM} {r v a i : Int} {l : List Int}
theorem lx_p {β : Type} {z : Int} {k : Int → Option β} : lx z k = k z := Eq.trans (Eq.refl (lx z k)) (Eq.symm (Eq.symm rfl))
theorem BIG_s : ∃ n, BIG = n + 1 := ⟨999999999, rfl⟩
theorem BIG_g {n : Nat} (h : n < 1000000000) : n < BIG := h
theorem wide_get {n : Nat} (h : RowIs m r l) (hv : l[n]? = some v) : fm_X5_wide r (n : Int) m = some v := by
  have hi : (n : Int) < m r 2 := by
    have := (List.getElem?_eq_some_iff.mp hv).1
    have := h.2.2.1
    omega
  rw [wide_in h.1 (Int.natCast_nonneg n) hi, h.2.2.2 n v hv]
theorem wide_none (h : RowIs m r l) (h1 : i < 0 ∨ (l.length : Int) ≤ i) : fm_X5_wide r i m = some 0 := wide_out h.1 (by have := h.2.2.1; omega)
theorem wide_getD (h : RowIs m r l) (h0 : 0 ≤ i) : fm_X5_wide r i m = some (l.getD i.toNat 0) := by
  by_cases hi : i.toNat < l.length
  · have e : i = (i.toNat : Int) := by omega
    rw [e, wide_get h (List.getElem?_eq_getElem hi), Int.toNat_natCast, List.getD_eq_getElem?_getD, List.getElem?_eq_getElem hi]
    rfl
  · rw [wide_none h (Or.inr (by omega)), List.getD_eq_getElem?_getD, List.getElem?_eq_none (by omega)]
    rfl
/-- what a change of a row leaves -/
def RFr (m m' : MM) (r : Int) : Prop := Ext m m' ∧ (∀ a, Fp m' r a → Fp m r a ∨ m 0 0 ≤ a) ∧ (∀ a j : Int, a < m 0 0 → a ≠ 0 → ¬ Fp m r a → m' a j = m a j)
theorem RFr.rf : RFr m m r := ⟨Ext.rf m, fun _ h => Or.inl h, fun _ _ _ _ _ => rfl⟩
theorem RFr.tr {m2 : MM} (h : RFr m m' r) (k : RFr m' m2 r) : RFr m m2 r := by
  refine ⟨h.1.tr k.1, fun a ha => ?_, fun a j h1 h2 h3 => ?_⟩
  · rcases k.2.1 a ha with g | g
    · exact h.2.1 a g
    · have := h.1.1
      exact Or.inr (by omega)
  · rw [k.2.2 a j (by have := h.1.1; omega) h2 fun hh => (h.2.1 a hh).elim h3 fun g => by omega]
    exact h.2.2 a j h1 h2 h3
/-- a number into a place -/
theorem put_is (h : RowIs m r l) (h0 : 0 ≤ i) (h1 : i < (l.length : Int)) : ∃ m', fm_X5_put r i v m = some (0, m') ∧ RowIs m' r (l.set i.toNat v) ∧ RFr m m' r ∧ m' r 1 = m r 1 ∧ m' 0 0 = m 0 0 ∧ m' 0 1 = m 0 1 := by
  have h9 := h.2.2.1
  have hs := h.1.sz
  obtain ⟨p1, p2, p3, p4, p5, p6⟩ := h.1.pt h0 (by omega)
  have hl := h.1.2.2.2.1
  have hP : PtOk m (m (m r 0) (i / 64)) := ⟨p4, p5, p6⟩
  obtain ⟨q1, q2, q3, q4, q5⟩ := h.r4
  have hx : Ext m (mset m (m (m r 0) (i / 64)) (i % 64) v) := mset_ext p4.1 (by omega)
  have nr : r ≠ m (m r 0) (i / 64) := okc_ap h.1.1 p4 (by decide)
  have np : m r 0 ≠ m (m r 0) (i / 64) := okc_ap h.1.2.1 p4 (by decide)
  have er : ∀ j, mset m (m (m r 0) (i / 64)) (i % 64) v r j = m r j := fun j => ms_a nr
  have ep : ∀ j, mset m (m (m r 0) (i / 64)) (i % 64) v (m r 0) j = m (m r 0) j := fun j => ms_a np
  refine ⟨mset m (m (m r 0) (i / 64)) (i % 64) v, ?_, ⟨h.1.mk2 hx (er 0) (er 1) (er 2) fun j _ _ => Or.inl (ep j), ?_, by rw [er, List.length_set]; exact h9, fun n w hw => ?_⟩, ⟨hx, fun a ha => ?_, fun a j b1 b2 b3 => ms_a fun hh => b3 (Or.inr (Or.inr ⟨_, p1, p2, p3, hh⟩))⟩, er 1, ms_a (by have := p4.1; omega), ms_a (by have := p4.1; omega)⟩
  · unfold fm_X5_put
    simp only [lx_t]
    rw [iShr_6 h0 (by omega), iAnd_63 h0 (by omega), if_neg (by omega), if_pos (by omega), gd_t h.1.2.1, w32_id (by omega) (by omega), if_pos p2, gd_t ⟨p1, p2⟩, if_neg p3, gd_t p4, w32_id (by omega) (by omega), if_pos (by omega), gd_t ⟨by omega, by omega⟩, gd_t p5, up_t]
  · intro j j' g1 g2 g3 g4 g5 g6
    rw [er, ep] at g2 g4
    rw [er, ep] at g5
    rw [er, ep, ep] at g6
    exact h.2.1 j j' g1 g2 g3 g4 g5 g6
  · unfold rv
    rw [er, ep]
    rw [List.getElem?_set] at hw
    split at hw
    · rename_i hn
      split at hw
      · cases hw
        have : (n : Int) = i := by omega
        rw [this, ms_e]
      · cases hw
    · rename_i hn
      rw [← h.2.2.2 n w hw]
      unfold rv
      have hn2 : (n : Int) < m r 2 := by
        have := (List.getElem?_eq_some_iff.mp hw).1
        omega
      obtain ⟨g1, g2, g3, g4⟩ := h.1.pt (Int.natCast_nonneg n) hn2
      by_cases hh : m (m r 0) ((n : Int) / 64) = m (m r 0) (i / 64)
      · have := h.2.1 _ _ g1 g2 p1 p2 g3 hh
        rw [hh]
        exact ms_j (by omega)
      · exact ms_a hh
  · unfold Fp at ha ⊢
    rw [er, ep] at ha
    simp only [ep] at ha
    exact Or.inl ha
/-- the size alone -/
theorem size_is {n : Int} (h : RowIs m r l) (h0 : 0 ≤ n) (h1 : n ≤ (l.length : Int)) (hs : 64 * m r 1 ≤ n) : RowIs (mset m r 2 n) r (l.take n.toNat) ∧ RFr m (mset m r 2 n) r ∧ mset m r 2 n r 1 = m r 1 ∧ mset m r 2 n 0 0 = m 0 0 ∧ mset m r 2 n 0 1 = m 0 1 := by
  have h9 := h.2.2.1
  obtain ⟨q1, q2, q3, q4, q5⟩ := h.r4
  have hx : Ext m (mset m r 2 n) := mset_ext q1 (by decide)
  have e0 : mset m r 2 n r 0 = m r 0 := ms_j (by decide)
  have e1 : mset m r 2 n r 1 = m r 1 := ms_j (by decide)
  have e2 : mset m r 2 n r 2 = n := ms_e
  have ep : ∀ j, mset m r 2 n (m r 0) j = m (m r 0) j := fun j => ms_a (Ne.symm q5)
  obtain ⟨okr, okp, g1, g2, g3, g4, g5, g6, g7⟩ := h.1
  refine ⟨⟨?_, ?_, by rw [e2, List.length_take]; omega, fun k w hw => ?_⟩, ⟨hx, fun a ha => ?_, fun a j b1 b2 b3 => ms_a fun hh => b3 (Or.inl hh)⟩, e1, ms_a (by omega), ms_a (by omega)⟩
  · unfold RowOk
    rw [e0, e1, e2, ep]
    refine ⟨hx.ok okr, hx.ok okp, g1, g2, g3, g4, hs, by omega, fun i h1 h2 => ?_⟩
    rw [ep]
    rcases g7 i h1 h2 with ⟨k1, k2⟩ | ⟨k1, k2, k3, k4⟩
    · exact Or.inl ⟨k1, by omega⟩
    · exact Or.inr ⟨k1, hx.ok k2, k3, by rw [(hx.2 _ k2.1 k2.2.1).2]; exact k4⟩
  · intro j j' b1 b2 b3 b4 b5 b6
    rw [e0, ep] at b2 b4
    rw [e0, ep] at b5
    rw [e0, ep, ep] at b6
    exact h.2.1 j j' b1 b2 b3 b4 b5 b6
  · rw [List.getElem?_take] at hw
    split at hw
    · rw [← h.2.2.2 k w hw]
      unfold rv
      rw [e0, ep]
      have hk : (k : Int) < m r 2 := by
        have := (List.getElem?_eq_some_iff.mp hw).1
        omega
      obtain ⟨k1, k2, k3, k4⟩ := h.1.pt (Int.natCast_nonneg k) hk
      exact ms_a (okc_ap k4.1 okr (by decide))
    · cases hw
  · unfold Fp at ha ⊢
    rw [e0, ep] at ha
    simp only [ep] at ha
    exact Or.inl ha
theorem rem_17 {k : MM → Option (Int × MM)} {p : Nat} {l0 : List Int} : ∀ (n : Nat) (i : Nat) (m : MM) (l : List Int), RowIs m r l → l.length = l0.length → p + 1 ≤ i → i ≤ l0.length → (∀ j, l[j]? = if j < p then l0[j]? else if j + 1 < i then l0[j + 1]? else l0[j]?) → l0.length - i < n → ∃ m', fl_X5_removeAt_17 r k n (i : Int) m = k m' ∧ RFr m m' r ∧ m' r 1 = m r 1 ∧ m' 0 0 = m 0 0 ∧ m' 0 1 = m 0 1 ∧ ∃ l', RowIs m' r l' ∧ l'.length = l0.length ∧ ∀ j, j + 1 < l0.length → l'[j]? = if j < p then l0[j]? else l0[j + 1]? := by
  intro n
  induction n with
  | zero => intro i m l h1 h2 h3 h4 h5 h6; omega
  | succ n ih =>
    intro i m l h1 h2 h3 h4 h5 h6
    have h9 := h1.2.2.1
    have hs := h1.1.sz
    unfold fl_X5_removeAt_17
    simp only [lx_t]
    by_cases hi : i < l0.length
    · have hv : l[i]? = some (l0[i]) := by
        rw [h5, if_neg (by omega), if_neg (by omega), List.getElem?_eq_getElem hi]
      rw [if_pos (by omega), bp_t (wide_get h1 hv), w32_id (by omega) (by omega)]
      obtain ⟨m1, e1, e2, e3, e4, e5, e6⟩ := put_is (v := l0[i]) (i := (i : Int) - 1) h1 (by omega) (by omega)
      rw [bd_t e1, w32_id (by omega) (by omega)]
      have et : ((i : Int) - 1).toNat = i - 1 := by omega
      rw [et] at e2
      obtain ⟨m2, f1, f2, f3, f4, f5, f6⟩ := ih (i + 1) m1 (l.set (i - 1) l0[i]) e2 (by rw [List.length_set]; exact h2) (by omega) (by omega) (fun j => by
        rw [List.getElem?_set]
        by_cases hj : i - 1 = j
        · rw [if_pos hj, if_pos (by omega), if_neg (by omega), if_pos (by omega), show j + 1 = i by omega, List.getElem?_eq_getElem hi]
        · rw [if_neg hj, h5]
          by_cases c1 : j < p
          · rw [if_pos c1, if_pos c1]
          · rw [if_neg c1, if_neg c1]
            by_cases c2 : j + 1 < i
            · rw [if_pos c2, if_pos (by omega)]
            · rw [if_neg c2, if_neg (by omega)]) (by omega)
      refine ⟨m2, ?_, e3.tr f2, f3.trans e4, f4.trans e5, f5.trans e6, f6⟩
      rw [← f1]
      rfl
    · rw [if_neg (by omega)]
      refine ⟨m, rfl, RFr.rf, rfl, rfl, rfl, l, h1, h2, fun j hj => ?_⟩
      rw [h5]
      by_cases c1 : j < p
      · rw [if_pos c1, if_pos c1]
      · rw [if_neg c1, if_neg c1, if_pos (by omega)]
theorem rem_is {p : Nat} (h : RowIs m r l) (hp : p < l.length) (hs1 : m r 1 = 0) : ∃ m', fm_X5_removeAt r (p : Int) m = some (0, m') ∧ RowIs m' r (l.eraseIdx p) ∧ RFr m m' r ∧ m' r 1 = 0 ∧ m' 0 0 = m 0 0 ∧ m' 0 1 = m 0 1 := by
  have h9 := h.2.2.1
  have hs := h.1.sz
  have e0 : fm_X5_removeAt r (p : Int) m = fl_X5_removeAt_17 r (fun m_65 => up m_65 r 2 (w32 (m_65 r 2 - 1)) fun m_80 => some (0, m_80)) BIG ((p : Int) + 1) m := by
    unfold fm_X5_removeAt
    simp only [lx_p]
    rw [if_neg (by omega), if_pos (by omega), w32_id (by omega) (by omega)]
  rw [e0]
  obtain ⟨m1, e1, e2, e3, e4, e5, l', e6, e7, e8⟩ := rem_17 (k := fun m_65 => up m_65 r 2 (w32 (m_65 r 2 - 1)) fun m_80 => some (0, m_80)) (p := p) (l0 := l) BIG (p + 1) m l h rfl (by omega) (by omega) (fun j => by
    by_cases c1 : j < p
    · rw [if_pos c1]
    · rw [if_neg c1, if_neg (by omega)]) (BIG_g (by omega))
  rw [show ((p + 1 : Nat) : Int) = (p : Int) + 1 by omega] at e1
  rw [e1, up_t]
  have g9 := e6.2.2.1
  obtain ⟨f1, f2, f3, f4, f5⟩ := size_is (n := m1 r 2 - 1) e6 (by omega) (by omega) (by rw [e3, hs1]; omega)
  rw [w32_id (by omega) (by omega)]
  refine ⟨_, rfl, ?_, e2.tr f2, by rw [f3, e3, hs1], f4.trans e4, f5.trans e5⟩
  have el : l'.take (m1 r 2 - 1).toNat = l.eraseIdx p := by
    apply List.ext_getElem?
    intro j
    rw [List.getElem?_take, List.getElem?_eraseIdx]
    have et : (m1 r 2 - 1).toNat = l.length - 1 := by omega
    rw [et]
    by_cases c : j < l.length - 1
    · rw [if_pos c, e8 j (by omega)]
    · rw [if_neg c, if_neg (by omega)]
      exact (List.getElem?_eq_none (by omega)).symm
  rw [← el]
  exact f1
/-- cut, of a row that shares nothing -/
theorem cut_is {n : Int} (h : RowIs m r l) (h0 : 0 ≤ n) (hs1 : m r 1 = 0) : ∃ m', fm_X5_cut r n m = some (0, m') ∧ RowIs m' r (l.take n.toNat) ∧ RFr m m' r ∧ m' r 1 = 0 ∧ m' 0 0 = m 0 0 ∧ m' 0 1 = m 0 1 := by
  have h9 := h.2.2.1
  have hs := h.1.sz
  have eM : fm_J9_max_7cf53 0 n m = some n := by
    unfold fm_J9_max_7cf53
    split
    · rfl
    · congr 1; omega
  have eN : fm_J9_min_7cf53 (m r 2) n m = some (if n < m r 2 then n else m r 2) := by
    unfold fm_J9_min_7cf53
    split <;> rfl
  generalize ez : (if n < m r 2 then n else m r 2) = z
  rw [ez] at eN
  have hz : 0 ≤ z ∧ z ≤ m r 2 ∧ (z = n ∨ (z = m r 2 ∧ m r 2 ≤ n)) := by
    subst ez
    split <;> omega
  obtain ⟨f1, f2, f3, f4, f5⟩ := size_is (n := z) h hz.1 (by omega) (by rw [hs1]; omega)
  have el : l.take z.toNat = l.take n.toNat := by
    rcases hz.2.2 with h1 | ⟨h1, h2⟩
    · rw [h1]
    · rw [List.take_of_length_le (by omega), List.take_of_length_le (by omega)]
  rw [el] at f1
  have e2 : mset m r 2 z r 2 = z := ms_e
  have same : mset (mset m r 2 z) r 1 0 = mset m r 2 z := by
    funext b j
    by_cases hb : b = r ∧ j = 1
    · obtain ⟨rfl, rfl⟩ := hb
      rw [ms_e, f3, hs1]
    · exact if_neg hb
  have eQ : fm_J9_min_7cf53 0 (z / 64) (mset m r 2 z) = some 0 := by
    unfold fm_J9_min_7cf53
    rw [if_neg (by omega)]
  have e0 : fm_X5_cut r n m = some (0, mset m r 2 z) := by
    unfold fm_X5_cut
    simp only [lx_p]
    rw [bp_t eM, bp_t eN, up_t, e2, iShr_6 hz.1 (by omega)]
    obtain ⟨N, hN⟩ := BIG_s
    rw [hN]
    unfold fl_X5_cut_26
    simp only [lx_t]
    rw [f3, hs1, if_neg (by omega), bp_t eQ, up_t, same]
  exact ⟨_, e0, f1, f2, by rw [f3, hs1], f4, f5⟩
end ROW4
