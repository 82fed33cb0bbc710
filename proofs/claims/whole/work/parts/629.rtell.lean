/-! THE TELLING in the reference: CANCEL, all branches. -/
section RF10
variable {m0 m m' : MM} {x : CX} {s s' : TS} {B H : Int} {a b c e i j v k h n l w p r t o rh E ty ver rc : Int} {G : Int → Nat}
/-- between lines: none is doomed, and what is owed is shielded -/
def NDO (s : TS) (k : Int) : Prop := ∀ i : Int, k ≤ i → i < sg s 0 5 → sg s (2 + i) 9 = 0 ∧ (sg s (2 + i) 6 ≠ 0 → 0 < sg s (2 + i) 5)
theorem tells_r : ∀ (n f : Nat) (k : Int) (s : TS) (m : MM), 0 ≤ k → k + n = 13 → n < f → RE m0 m x s rh k H → RX m0 x G r ty ver rh rc s → SW x s B → A2 x s rh → KI x s (sTell x n k s) rc → NDO s k → nl (sTell x n k s) < 65536 → H ≤ 196608 → ∃ m' E', fl_X12_isCancelled_30 f k m = some (0, m') ∧ RG m0 m' x (sTell x n k s) rh E' H ∧ (goes (sTell x n k s) = true → 12 ≤ E') := by
  intro n
  induction n with
  | zero =>
    intro f k s m k0 k1 f0 h X hW hA hK hO hn hH
    obtain ⟨f, rfl⟩ : ∃ g, f = g + 1 := ⟨f - 1, by omega⟩
    have h91 : m 68 91 ≤ 12 := by
      rcases h with ⟨-, g⟩ | g
      · exact g.n91.2.1
      · exact g.2.2.2.2.2
    refine ⟨m, k, ?_, ⟨h, hA⟩, fun _ => by omega⟩
    unfold fl_X12_isCancelled_30
    simp only [lx_p]
    rw [if_neg (by omega)]
  | succ n ih =>
    intro f k s m k0 k1 f0 h X hW hA hK hO hn hH
    obtain ⟨f, rfl⟩ : ∃ g, f = g + 1 := ⟨f - 1, by omega⟩
    have h5 := hW.2.2.2.2.2.2.2.1
    have hs := X.2.2.2.1
    have hdef : fl_X12_isCancelled_30 (f + 1) k m = if k < m 68 91 then (bp (fm_X12_goes m) fun x_68 => if x_68 = 0 then some (0, m) else gd (0 ≤ k ∧ k < 12) <| lx (m 150 k) fun x_84 =>
if x_84 = 0 then
bd (fm_X12_cancelsBranch k m) fun x_97 m_98 =>
lx (w32 (k + 1)) fun x_113 =>
fl_X12_isCancelled_30 f x_113 m_98
else
lx (w32 (k + 1)) fun x_92 =>
fl_X12_isCancelled_30 f x_92 m) else some (0, m) := by
      conv => lhs; unfold fl_X12_isCancelled_30
      rw [lx_p]
    rw [hdef]
    by_cases hg : goes s = true
    · obtain ⟨h30, hov⟩ := goes_s hg
      have hR : RR m0 m x s rh k H := by
        rcases h with ⟨-, g⟩ | g
        · exact g
        · exfalso; have := g.2.1; omega
      have h91 := hR.n91
      rw [tell_u] at hK hn ⊢
      rw [h91.2.2]
      by_cases c1 : k < sg s 0 5
      · rw [if_pos c1, if_pos hg] at hK hn ⊢
        rw [if_pos c1, bp_t (goes_r h), if_pos hg, if_neg (by decide), gd_t ⟨k0, by omega⟩, lx_p]
        have hbr := hR.br k0 c1
        have hsh := (hW.br k0 c1).2.2.2.2.2.1
        rw [hbr.2.2.1]
        by_cases c2 : 0 < sg s (2 + k) 5
        · rw [if_pos c2] at hK hn ⊢
          rw [if_neg (by omega), lx_p, w32_id (by omega) (by omega)]
          have e1 := hR.sl (a := 151) (sl := 6) (v := 1) (w := 1) k0 c1 (Or.inr (Or.inl ⟨rfl, rfl, by rw [if_neg (by omega)]⟩))
          have em1 : m 151 k = 1 := by rw [hbr.2.2.2.1, if_neg (by omega)]
          have ems : mset m 151 k 1 = m := by
            have := mset_same (m := m) (a := 151) (j := k)
            rw [em1] at this
            exact this
          rw [ems] at e1
          have e2 := e1.e1 k0
          have e6 : sg (st s (2 + k) 6 1) (2 + k) 6 = 1 := by rw [st_g, if_pos ⟨rfl, rfl⟩]
          rw [e6, if_neg (by decide), ems] at e2
          have e10 : ∀ q, sg (st s (2 + k) 6 1) 0 q = sg s 0 q := fun q => by rw [st_g, if_neg (by omega)]
          exact ih f (k + 1) (st s (2 + k) 6 1) m (by omega) (by omega) (by omega) (Or.inl ⟨by rw [e10]; exact h30, e2⟩) (X.to (e10 _)) (hW.s6 k0 (Or.inl rfl)) (hA.st (by omega)) (fun g1 g2 => by rw [e10] at g1 g2; exact hK g1 g2) (fun i i1 i2 => by
            rw [e10] at i2
            rw [st_g, if_neg (by omega), st_g, if_neg (by omega), st_g, if_neg (by omega)]
            exact hO i (by omega) i2) hn hH
        · rw [if_neg c2] at hK hn ⊢
          rw [if_pos (by omega)]
          obtain ⟨o1, o2⟩ := hO k (Int.le_refl _) c1
          have o3 : sg s (2 + k) 6 = 0 := by
            by_cases q : sg s (2 + k) 6 = 0
            · exact q
            · exact absurd (o2 q) c2
          obtain ⟨m1, f1, f2, f3⟩ := cancels_r hR X hW hg hA (fun g1 g2 => u_tell _ _ _ (hK g1 g2)) k0 c1 o1 o3 (Int.lt_of_le_of_lt (nl_tell _ _ _) hn) hH
          rw [bd_t f1, lx_p, w32_id (by omega) (by omega)]
          have e5 : sg (sCan x k s) 0 5 = sg s 0 5 := can_g (by omega) (Or.inr (by decide))
          have e10 : sg (sCan x k s) 0 10 = sg s 0 10 := can_g (by omega) (Or.inr (by decide))
          exact ih f (k + 1) (sCan x k s) m1 (by omega) (by omega) (by omega) f2 (X.to e10) (w_can hs k0 c1 hW) f3 (fun g1 g2 => by rw [e10] at g1 g2; exact hK g1 g2) (fun i i1 i2 => by
            rw [e5] at i2
            rw [can_g (by omega) (Or.inl (by omega)), can_g (by omega) (Or.inl (by omega)), can_g (by omega) (Or.inl (by omega))]
            exact hO i (by omega) i2) hn hH
      · rw [if_neg c1, if_neg c1]
        exact ⟨m, 12, rfl, ⟨Or.inl ⟨h30, hR.eup (by omega) h5.2⟩, hA⟩, fun _ => Int.le_refl _⟩
    · have e : sTell x (n + 1) k s = s := by
        rw [tell_u]
        by_cases c1 : k < sg s 0 5
        · rw [if_pos c1, if_neg hg]
        · rw [if_neg c1]
      rw [e]
      refine ⟨m, k, ?_, ⟨h, hA⟩, fun q => absurd q hg⟩
      rw [bp_t (goes_r h), if_neg hg, if_pos rfl]
      split <;> rfl
def wrq (m : MM) (k : Int) : MM := fun a j => if a = 151 ∧ 0 ≤ j ∧ j < k then 1 else m a j
theorem wr1_l {K : MM → Option (Int × MM)} (ht : m 68 91 = t) (h2 : t ≤ 12) : ∀ (n f : Nat) (i : Int), 0 ≤ i → i ≤ t → t - i = n → n < f → fl_X12_isCancelled_7 K f i (wrq m i) = K (wrq m t) := by
  intro n
  induction n with
  | zero =>
    intro f i g0 g1 g2 g3
    obtain ⟨f, rfl⟩ : ∃ g, f = g + 1 := ⟨f - 1, by omega⟩
    have e : wrq m i 68 91 = t := by unfold wrq; rw [if_neg (by omega)]; exact ht
    unfold fl_X12_isCancelled_7
    simp only [lx_p]
    rw [e, if_neg (by omega), show i = t by omega]
  | succ n ih =>
    intro f i g0 g1 g2 g3
    obtain ⟨f, rfl⟩ : ∃ g, f = g + 1 := ⟨f - 1, by omega⟩
    have e : wrq m i 68 91 = t := by unfold wrq; rw [if_neg (by omega)]; exact ht
    have hst : mset (wrq m i) 151 i 1 = wrq m (i + 1) := by
      funext a j
      show (if a = 151 ∧ j = i then 1 else if a = 151 ∧ 0 ≤ j ∧ j < i then 1 else m a j) = (if a = 151 ∧ 0 ≤ j ∧ j < i + 1 then 1 else m a j)
      by_cases q : a = 151 ∧ 0 ≤ j ∧ j < i + 1
      · rw [if_pos q]
        split
        · rfl
        · rw [if_pos (by omega)]
      · rw [if_neg q, if_neg (by omega), if_neg (by omega)]
    unfold fl_X12_isCancelled_7
    simp only [lx_p, up_t]
    rw [e, if_pos (by omega), gd_t (by omega), w32_id (by omega) (by omega), hst]
    exact ih f (i + 1) (by omega) (by omega) (by omega) (by omega)
theorem RR.wr1 (h : RR m0 m x s rh E H) : RR m0 (wrq m (sg s 0 5)) x s rh 0 H := by
  have em : ∀ a j : Int, a ≠ 151 → wrq m (sg s 0 5) a j = m a j := fun a j q => if_neg (fun g => q g.1)
  obtain ⟨hT, hS, hV, hP, hB, hQ, hU, hN, hC, hH⟩ := h
  refine ⟨fun a j hh => ?_, ?_, fun a g1 g2 => by rw [em _ _ (by decide)]; exact hV a g1 g2, fun n g1 g2 => by rw [em _ _ (by decide)]; exact hP n g1 g2, ⟨hB.1, fun i g1 g2 => ?_⟩, fun n g1 g2 => ?_, ?_, fun q k a b hq => ?_, ?_, ?_⟩
  · have : ¬ (a = 151 ∧ 0 ≤ j ∧ j < sg s 0 5) := fun g => hh (by rw [g.1]; exact mtb1 (by decide) (by decide) g.2.1)
    exact (if_neg this).trans (hT a j hh)
  · unfold RS at hS ⊢
    simp only [em 68 _ (by decide)]
    exact hS
  · obtain ⟨b1, b2, b3, b4, b5, b6, b7, b8⟩ := hB.2 i g1 g2
    unfold BrR RivR at *
    rw [em 143 _ (by decide), em 144 _ (by decide), em 150 _ (by decide), em 148 _ (by decide), em 149 _ (by decide), em 145 _ (by decide), em 146 _ (by decide), em 147 _ (by decide)]
    refine ⟨b1, b2, b3, ?_, ChR.mono (m := m) (by rw [em _ _ (by decide)]; exact Int.le_refl _) (fun _ _ _ => em _ _ (by decide)) b5, b6, b7, b8⟩
    rw [if_neg (show ¬ (i < 0 ∧ sg s (2 + i) 6 = 0) by omega)]
    exact if_pos ⟨rfl, g1, g2⟩
  · rw [em _ _ (by decide), em _ _ (by decide)]
    obtain ⟨q1, q2, q3, q4⟩ := hQ n g1 g2
    exact ⟨q1, q2, q3, fun i v hv => by rw [em _ _ (by decide)]; exact q4 i v hv⟩
  · refine ⟨by rw [em _ _ (by decide)]; exact hU.1, fun i v hv => ?_⟩
    rw [em _ _ (by decide), em _ _ (by decide)]
    exact hU.2 i v hv
  · rw [em _ _ (by decide), em _ _ (by decide)]
    exact hN q k a b hq
  · unfold PT at hC ⊢
    rw [em _ _ (by decide), em _ _ (by decide)]
    exact hC
  · unfold RH at hH ⊢
    rw [em _ _ (by decide)]
    exact hH
/-- CANCEL came -/
theorem cancel_r (h : RR m0 m x s rh E H) (X : RX m0 x G r ty ver rh rc s) (hW : SW x s B) (h30 : sg s 0 30 = 0) (hA : A2 x s rh) (hK : KI x s (sTell x 13 0 (st s 0 8 1)) rc) (hO : NDO s 0) (hn : nl (sTell x 13 0 (st s 0 8 1)) < 65536) (hH : H ≤ 196608) : ∃ m' E', fm_X12_isCancelled m = some (0, m') ∧ RG m0 m' x (sTell x 13 0 (st s 0 8 1)) rh E' H ∧ (goes (sTell x 13 0 (st s 0 8 1)) = true → 12 ≤ E') := by
  have h1 := h.p0 (j := 111) (i := 8) (v := 1) (by omega)
  have e5 : sg (st s 0 8 1) 0 5 = sg s 0 5 := by rw [st_g, if_neg (by decide)]
  have e10 : sg (st s 0 8 1) 0 10 = sg s 0 10 := by rw [st_g, if_neg (by decide)]
  have e30 : sg (st s 0 8 1) 0 30 = 0 := by rw [st_g, if_neg (by decide)]; exact h30
  have h91 := h1.n91
  have h2 := h1.wr1
  obtain ⟨m', E', f1, f2, f3⟩ := tells_r 13 BIG 0 (st s 0 8 1) _ (by decide) rfl (BIG_g (by omega)) (Or.inl ⟨e30, h2⟩) (X.to e10) (hW.s0 (by decide) (by decide) (by decide) (by decide) (by decide) (Or.inl (by decide))) (hA.st (by omega)) (fun g1 g2 => by rw [e10] at g1 g2; exact hK g1 g2) (fun i i1 i2 => by
    rw [e5] at i2
    rw [st_g, if_neg (by omega), st_g, if_neg (by omega), st_g, if_neg (by omega)]
    exact hO i i1 i2) hn hH
  refine ⟨m', E', ?_, f2, f3⟩
  have hw0 : wrq (mset m 68 111 1) 0 = mset m 68 111 1 := by
    funext a j
    exact if_neg (by omega)
  have hl := wr1_l (K := fun m_50 => fl_X12_isCancelled_30 BIG 0 m_50) (m := mset m 68 111 1) (t := sg (st s 0 8 1) 0 5) h91.2.2 (by omega) (sg (st s 0 8 1) 0 5).toNat BIG 0 (by decide) (by omega) (by omega) (BIG_g (by omega))
  rw [hw0] at hl
  unfold fm_X12_isCancelled
  simp only [up_t]
  rw [hl]
  exact f1
end RF10
