/-! THE REFERENCE'S ENGINE: an event is put. -/
section RXQ
variable {m m' M : MM} {e e' : ES} {a b c i j k o r v w p t s x y n A B q G : Int} {l : List Int}
/-- an event of a run's own -/
theorem at_own (r0 : 0 ≤ r) (r1 : r < 30) (h0 : 0 ≤ m 88 r) (h : m 88 r ≤ i) (hb : i - m 88 r < 524288) (hi : i < 524288) (hv : 1 ≤ m 96 (2048 * r + (i - m 88 r) / 256) ∧ m 96 (2048 * r + (i - m 88 r) / 256) ≤ 5120) : fm_X12_at r i m = some (256 * (m 96 (2048 * r + (i - m 88 r) / 256) - 1) + (i - m 88 r) % 256) := by
  obtain ⟨N, hN⟩ := BIG_s
  have d : Int.tdiv (i - m 88 r) 256 = (i - m 88 r) / 256 := Int.tdiv_eq_ediv_of_nonneg (by omega)
  have t : Int.tmod (i - m 88 r) 256 = (i - m 88 r) % 256 := Int.tmod_eq_emod_of_nonneg (by omega)
  unfold fm_X12_at
  rw [hN]
  unfold fl_X12_at_2
  rw [gd_t ⟨r0, r1⟩, lx_p, if_neg (by omega), gd_t ⟨r0, r1⟩, lx_p, lx_p, w32_id (z := i - m 88 r) (by omega) (by omega), d, t, w32_id (z := 2048 * r) (by omega) (by omega), w32_id (z := (i - m 88 r) / 256) (by omega) (by omega), w32_id (z := 2048 * r + (i - m 88 r) / 256) (by omega) (by omega), gd_t (by omega), lx_p, w32_id (z := m 96 (2048 * r + (i - m 88 r) / 256) - 1) (by omega) (by omega), w32_id (z := 256 * (m 96 (2048 * r + (i - m 88 r) / 256) - 1)) (by omega) (by omega), w32_id (by omega) (by omega)]
/-- an event stays where it is when a piece is new -/
theorem at_up (h8 : ∀ j, m' 88 j = m 88 j) (h7 : ∀ j, m' 87 j = m 87 j) (h9 : ∀ j, m 96 j ≠ 0 → m' 96 j = m 96 j) (ha : fm_X12_at r i m = some A) (A0 : 0 ≤ A) : fm_X12_at r i m' = some A := by
  have key : ∀ (k k0 : Int → Option Int) (hk : ∀ z, k z = some A → k0 z = some A) (n : Nat) (y : Int), fl_X12_at_2 i m k n y = some A → fl_X12_at_2 i m' k0 n y = some A := by
    intro k k0 hk n
    induction n with
    | zero => intro y hh; exact absurd hh (by unfold fl_X12_at_2; simp)
    | succ n ih =>
      intro y hh
      unfold fl_X12_at_2 at hh ⊢
      obtain ⟨g1, g2⟩ := gd_s hh
      rw [lx_p] at g2
      rw [gd_t g1, lx_p, h8]
      by_cases c : i < m 88 y
      · rw [if_pos c, lx_p] at g2
        rw [if_pos c, lx_p, h7]
        exact ih _ g2
      · rw [if_neg c] at g2
        rw [if_neg c]
        exact hk _ g2
  unfold fm_X12_at at ha ⊢
  refine key _ _ (fun z hz => ?_) BIG r ha
  obtain ⟨g1, g2⟩ := gd_s hz
  rw [lx_p, lx_p] at g2
  obtain ⟨g3, g4⟩ := gd_s g2
  rw [lx_p] at g4
  rw [gd_t g1, lx_p, lx_p, h8, gd_t g3, lx_p]
  by_cases c : m 96 (w32 (w32 (2048 * z) + w32 (Int.tdiv (w32 (i - m 88 z)) 256))) = 0
  · exfalso
    rw [c] at g4
    have g5 := Option.some.inj g4
    have e1 : w32 ((0 : Int) - 1) = -1 := w32_id (by decide) (by decide)
    have e2 : w32 (256 * (-1 : Int)) = -256 := w32_id (by decide) (by decide)
    rw [e1, e2] at g5
    have t1 : Int.tmod (w32 (i - m 88 z)) 256 < 256 := Int.tmod_lt_of_pos _ (by decide)
    have t2 : -256 < Int.tmod (w32 (i - m 88 z)) 256 := by
      by_cases cw : 0 ≤ w32 (i - m 88 z)
      · have := Int.tmod_nonneg 256 cw
        omega
      · rw [show w32 (i - m 88 z) = -(-(w32 (i - m 88 z))) by omega, Int.neg_tmod]
        have := Int.tmod_lt_of_pos (-(w32 (i - m 88 z))) (b := 256) (by decide)
        omega
    rw [w32_id (by omega) (by omega)] at g5
    omega
  · rw [h9 _ c]
    exact g4
theorem x_counts (r0 : 0 ≤ r) (r1 : r < 30) (ba : 0 ≤ m 89 r ∧ m 89 r < 1000000) (bt : 0 ≤ m 90 r ∧ m 90 r < 1000000) (hk : k = 17 → m 91 r ≤ x) : fm_X12_counts r k x m = some (0, mset (mset (mset m 89 r (if k ≤ 7 then m 89 r + 1 else m 89 r)) 90 r (if k = 17 then m 90 r + 1 else m 90 r)) 91 r (if k = 17 then x else m 91 r)) := by
  have h38 : ∀ (z : Int) (M : MM), M 91 r = m 91 r → (k = 17 → z = 1) → (k ≠ 17 → z = 0) → fj_X12_counts_38 r k x z (m 90 r) r M = some (0, mset (mset M 90 r (if k = 17 then m 90 r + 1 else m 90 r)) 91 r (if k = 17 then x else m 91 r)) := fun z M h91 hz1 hz2 => by
    unfold fj_X12_counts_38
    by_cases c : k = 17
    · rw [gd_t ⟨r0, r1⟩, hz1 c, w32_id (by omega) (by omega), up_t, if_pos c, gd_t ⟨r0, r1⟩, lx_p, ms_a (by decide), h91, if_pos c, if_pos c]
      have hm : fm_X12_most (m 91 r) x (mset M 90 r (m 90 r + 1)) = some x := by
        have := hk c
        unfold fm_X12_most
        by_cases c2 : x < m 91 r
        · omega
        · rw [if_neg c2]
      rw [bp_t hm, up_t]
    · rw [gd_t ⟨r0, r1⟩, hz2 c, w32_id (by omega) (by omega), up_t, if_neg c, gd_t ⟨r0, r1⟩, lx_p, ms_a (by decide), h91, up_t, if_neg c, if_neg c, show m 90 r + 0 = m 90 r by omega]
  have h18 : ∀ z : Int, (k ≤ 7 → z = 1) → (¬ k ≤ 7 → z = 0) → fj_X12_counts_18 r k x z (m 89 r) r m = some (0, mset (mset (mset m 89 r (if k ≤ 7 then m 89 r + 1 else m 89 r)) 90 r (if k = 17 then m 90 r + 1 else m 90 r)) 91 r (if k = 17 then x else m 91 r)) := fun z hz1 hz2 => by
    have ez : w32 (m 89 r + z) = if k ≤ 7 then m 89 r + 1 else m 89 r := by
      by_cases c : k ≤ 7
      · rw [if_pos c, hz1 c, w32_id (by omega) (by omega)]
      · rw [if_neg c, hz2 c, w32_id (by omega) (by omega)]
        omega
    unfold fj_X12_counts_18
    rw [gd_t ⟨r0, r1⟩, ez, up_t, gd_t ⟨r0, r1⟩, lx_p, ms_a (by decide)]
    by_cases c : k = 17
    · rw [if_pos c]
      exact h38 1 _ (ms_a (by decide)) (fun _ => rfl) (fun hh => absurd c hh)
    · rw [if_neg c]
      exact h38 0 _ (ms_a (by decide)) (fun hh => absurd hh c) (fun _ => rfl)
  unfold fm_X12_counts
  rw [gd_t ⟨r0, r1⟩, lx_p]
  by_cases c : 7 < k
  · rw [if_pos c]
    exact h18 0 (fun hh => by omega) (fun _ => rfl)
  · rw [if_neg c]
    exact h18 1 (fun _ => rfl) (fun hh => by omega)
/-- its pieces, its orders, what is written -/
def xM1 (m : MM) (s : Int) : MM := if m 96 s = 0 then mset (mset m 68 32 (m 68 32 + 1)) 96 s (m 68 32 + 1) else m
def xM2 (M : MM) (r k : Int) : MM := if k ≤ 7 then mset (mset M 68 29 (if M 68 30 = r then M 68 29 else M 68 29 + 1)) 68 30 r else M
def xM3 (M : MM) (r k x y G A : Int) : MM := mset (mset (mset (mset (mset M 95 A (rpk k.toNat x.toNat y.toNat G.toNat : Int)) 86 r (M 86 r + 1)) 89 r (if k ≤ 7 then M 89 r + 1 else M 89 r)) 90 r (if k = 17 then M 90 r + 1 else M 90 r)) 91 r (if k = 17 then x else M 91 r)
def xG (M : MM) (k : Int) : Int := if k ≤ 7 then 1000 * M 68 29 + M 68 0 % 1000 else M 68 0
theorem x_put0 (r0 : 0 ≤ r) (r1 : r < 30) (hN : 0 ≤ m 86 r ∧ m 86 r < 524288) (hT : 0 ≤ m 88 r ∧ m 88 r ≤ m 86 r) (hp : 0 ≤ m 96 (2048 * r + (m 86 r - m 88 r) / 256) ∧ m 96 (2048 * r + (m 86 r - m 88 r) / 256) ≤ 5120) (hp2 : 0 ≤ m 68 32 ∧ m 68 32 < 5120) (k0 : 0 ≤ k) (k1 : k ≤ 17) (x0 : 0 ≤ x) (x1 : x < 524288) (y0 : 0 ≤ y) (y1 : y ≤ 999) (ht : 0 ≤ m 68 0 ∧ m 68 0 < 1000000) (ho : 0 ≤ m 68 29 ∧ m 68 29 < 536000) (ba : 0 ≤ m 89 r ∧ m 89 r < 1000000) (bt : 0 ≤ m 90 r ∧ m 90 r < 1000000) (hk : k = 17 → m 91 r ≤ x) {s A : Int} (hs : s = 2048 * r + (m 86 r - m 88 r) / 256) (hA : A = 256 * (xM1 m s 96 s - 1) + (m 86 r - m 88 r) % 256) : fm_X12_puts r k x y m = some (m 86 r, xM3 (xM2 (xM1 m s) r k) r k x y (xG (xM2 (xM1 m s) r k) k) A) := by
  have n256 : (m 86 r - m 88 r) / 256 < 2048 := by omega
  have f1 : ∀ a j : Int, a ≠ 96 → (a ≠ 68 ∨ j ≠ 32) → xM1 m s a j = m a j := fun a j h1 h2 => by
    unfold xM1
    split
    · rw [ms_a h1]
      rcases h2 with h2 | h2
      · exact ms_a h2
      · by_cases c : a = 68
        · rw [c]; exact ms_j h2
        · exact ms_a c
    · rfl
  have f96 : 1 ≤ xM1 m s 96 s ∧ xM1 m s 96 s ≤ 5120 := by
    unfold xM1
    by_cases c : m 96 s = 0
    · rw [if_pos c, ms_e]; omega
    · rw [if_neg c]
      rw [← hs] at hp
      omega
  have f2 : ∀ a j : Int, (a ≠ 68 ∨ (j ≠ 29 ∧ j ≠ 30)) → xM2 (xM1 m s) r k a j = xM1 m s a j := fun a j h2 => by
    unfold xM2
    split
    · rcases h2 with h2 | h2
      · rw [ms_a h2, ms_a h2]
      · by_cases c : a = 68
        · rw [c, ms_j h2.2, ms_j h2.1]
        · rw [ms_a c, ms_a c]
    · rfl
  have hg : ∀ M : MM, M = xM2 (xM1 m s) r k → fj_X12_puts_119 r k x y (xG M k) M = some (m 86 r, xM3 M r k x y (xG M k) A) := fun M hM => by
    have e86 : M 86 r = m 86 r := by rw [hM, f2 _ _ (by omega), f1 _ _ (by omega) (by omega)]
    have e88 : M 88 r = m 88 r := by rw [hM, f2 _ _ (by omega), f1 _ _ (by omega) (by omega)]
    have e96 : M 96 s = xM1 m s 96 s := by rw [hM, f2 _ _ (by omega)]
    have e89 : M 89 r = m 89 r := by rw [hM, f2 _ _ (by omega), f1 _ _ (by omega) (by omega)]
    have e90 : M 90 r = m 90 r := by rw [hM, f2 _ _ (by omega), f1 _ _ (by omega) (by omega)]
    have e91 : M 91 r = m 91 r := by rw [hM, f2 _ _ (by omega), f1 _ _ (by omega) (by omega)]
    have e0 : M 68 0 = m 68 0 := by rw [hM, f2 _ _ (by decide), f1 _ _ (by decide) (by decide)]
    have e29 : 0 ≤ M 68 29 ∧ M 68 29 ≤ 536000 := by
      rw [hM]
      unfold xM2
      have q29 : xM1 m s 68 29 = m 68 29 := f1 _ _ (by decide) (by decide)
      split
      · rw [ms_j (by decide), ms_e]
        split <;> omega
      · omega
    have hG : 0 ≤ xG M k ∧ xG M k < 536870912 := by
      unfold xG
      split <;> omega
    have ha : fm_X12_at r (m 86 r) M = some A := by
      have := at_own (m := M) (i := m 86 r) r0 r1 (by rw [e88]; exact hT.1) (by rw [e88]; exact hT.2) (by rw [e88]; omega) hN.2 (by rw [e88, ← hs, e96]; exact f96)
      rw [e88, ← hs, e96, ← hA] at this
      exact this
    have hpk : lOr (lOr (lShl (w32 ((w32 (1000 * k)) + y)) 48) (lShl x 29)) (xG M k) = (rpk k.toNat x.toNat y.toNat (xG M k).toNat : Int) := by
      have := r_pack (k := k.toNat) (x := x.toNat) (y := y.toNat) (w := (xG M k).toNat) (by omega) (by omega) (by omega) (by omega)
      rw [Int.toNat_of_nonneg k0, Int.toNat_of_nonneg x0, Int.toNat_of_nonneg y0, Int.toNat_of_nonneg hG.1] at this
      exact this
    have hct := x_counts (m := mset (mset M 95 A (rpk k.toNat x.toNat y.toNat (xG M k).toNat : Int)) 86 r (M 86 r + 1)) (k := k) (x := x) r0 r1 (by rw [ms_a (by decide), ms_a (by decide), e89]; exact ba) (by rw [ms_a (by decide), ms_a (by decide), e90]; exact bt) (by rw [ms_a (by decide), ms_a (by decide), e91]; exact hk)
    rw [ms_a (b := 89) (by decide), ms_a (b := 89) (by decide), ms_a (b := 90) (by decide), ms_a (b := 90) (by decide), ms_a (b := 91) (by decide), ms_a (b := 91) (by decide)] at hct
    unfold fj_X12_puts_119
    rw [gd_t ⟨r0, r1⟩, lx_p, e86, bp_t ha, gd_t (by omega), hpk, up_t, lx_p, ms_a (by decide), e86, w32_id (z := m 86 r + 1) (by omega) (by omega), up_t]
    rw [e86] at hct
    rw [bd_t hct, lx_p, ms_a (by decide), ms_a (by decide), ms_a (by decide), ms_e, w32_id (by omega) (by omega), show m 86 r + 1 - 1 = m 86 r by omega]
    unfold xM3
    rw [e86]
  have h89 : ∀ M : MM, M = xM2 (xM1 m s) r k → fj_X12_puts_89 r k x y M = some (m 86 r, xM3 M r k x y (xG M k) A) := fun M hM => by
    have e0 : M 68 0 = m 68 0 := by rw [hM, f2 _ _ (by decide), f1 _ _ (by decide) (by decide)]
    have e29 : 0 ≤ M 68 29 ∧ M 68 29 ≤ 536000 := by
      rw [hM]
      unfold xM2
      have q29 : xM1 m s 68 29 = m 68 29 := f1 _ _ (by decide) (by decide)
      split
      · rw [ms_j (by decide), ms_e]
        split <;> omega
      · omega
    have g := hg M hM
    unfold fj_X12_puts_89
    by_cases c : 7 < k
    · rw [if_pos c, lx_p]
      have eG : xG M k = M 68 0 := if_neg (by omega)
      rw [eG] at g ⊢
      exact g
    · rw [if_neg c, lx_p, lx_p]
      have eG : xG M k = 1000 * M 68 29 + M 68 0 % 1000 := if_pos (by omega)
      rw [w32_id (z := 1000 * M 68 29) (by omega) (by omega), show Int.tmod (M 68 0) 1000 = M 68 0 % 1000 from Int.tmod_eq_emod_of_nonneg (by omega), w32_id (by omega) (by omega), ← eG]
      exact g
  have h56 : fj_X12_puts_56 r k x y (xM1 m s) = some (m 86 r, xM3 (xM2 (xM1 m s) r k) r k x y (xG (xM2 (xM1 m s) r k) k) A) := by
    have q29 : xM1 m s 68 29 = m 68 29 := f1 _ _ (by decide) (by decide)
    have q30 : xM1 m s 68 30 = m 68 30 := f1 _ _ (by decide) (by decide)
    unfold fj_X12_puts_56
    by_cases c : 7 < k
    · rw [if_pos c]
      have : xM1 m s = xM2 (xM1 m s) r k := (if_neg (by omega)).symm
      have g := h89 (xM1 m s) this
      rw [← this]
      exact g
    · rw [if_neg c, lx_p, lx_p]
      have e2 : xM2 (xM1 m s) r k = mset (mset (xM1 m s) 68 29 (if xM1 m s 68 30 = r then xM1 m s 68 29 else xM1 m s 68 29 + 1)) 68 30 r := if_pos (by omega)
      by_cases c2 : xM1 m s 68 30 = r
      · rw [if_pos c2]
        unfold fj_X12_puts_80
        rw [w32_id (by omega) (by omega), up_t, up_t]
        rw [if_pos c2] at e2
        rw [show xM1 m s 68 29 + 0 = xM1 m s 68 29 by omega, ← e2]
        exact h89 _ rfl
      · rw [if_neg c2]
        unfold fj_X12_puts_80
        rw [w32_id (by omega) (by omega), up_t, up_t]
        rw [if_neg c2] at e2
        rw [← e2]
        exact h89 _ rfl
  have d : Int.tdiv (m 86 r - m 88 r) 256 = (m 86 r - m 88 r) / 256 := Int.tdiv_eq_ediv_of_nonneg (by omega)
  unfold fm_X12_puts
  rw [gd_t ⟨r0, r1⟩, lx_p, lx_p, lx_p, w32_id (z := m 86 r - m 88 r) (by omega) (by omega), d, w32_id (z := 2048 * r) (by omega) (by omega), w32_id (z := (m 86 r - m 88 r) / 256) (by omega) (by omega), w32_id (z := 2048 * r + (m 86 r - m 88 r) / 256) (by omega) (by omega), ← hs, gd_t (by omega), lx_p]
  by_cases c : m 96 s = 0
  · have e1 : xM1 m s = mset (mset m 68 32 (m 68 32 + 1)) 96 s (m 68 32 + 1) := if_pos c
    rw [if_pos c, lx_p, w32_id (z := m 68 32 + 1) (by omega) (by omega), up_t, lx_p, ms_e, up_t, ← e1]
    exact h56
  · have e1 : xM1 m s = m := if_neg c
    rw [if_neg c]
    rw [e1] at h56 ⊢
    exact h56
end RXQ
