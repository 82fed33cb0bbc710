/-! THE ENGINE: a row is cut. -/
section CUT2
variable {m m' M : MM} {r a b i j v n z y P T S2 q : Int} {l : List Int}
theorem mcl_o (h1 : b ≠ m 0 0) (h2 : b ≠ 0) : mcl m a b j = m b j := by
  unfold mcl
  rw [if_neg h1, if_neg h2]
theorem copy64 (hq : okc M q 101) (h64 : M q (-2) = 64) : fm_J7_copyOf_c38d5 q 64 M = some (M 0 0, mcl M q) := by
  unfold fm_J7_copyOf_c38d5
  rw [gd_t hq, h64, if_pos (by decide), cl_t]
theorem nulls_s (c : i < S2) : nulls (mset M T i 0) T (i + 1) S2 = nulls M T i S2 := by
  funext x j
  show (if x = T ∧ i + 1 ≤ j ∧ j < S2 then 0 else if x = T ∧ j = i then 0 else M x j) = if x = T ∧ i ≤ j ∧ j < S2 then 0 else M x j
  by_cases c1 : x = T ∧ i ≤ j ∧ j < S2
  · rw [if_pos c1]
    by_cases c2 : j = i
    · rw [if_neg (by omega), if_pos ⟨c1.1, c2⟩]
    · rw [if_pos ⟨c1.1, by omega, c1.2.2⟩]
  · rw [if_neg c1, if_neg (by omega), if_neg (by omega)]
theorem nulls_0 (c : S2 ≤ i) : nulls M T i S2 = M := by
  funext x j
  show (if x = T ∧ i ≤ j ∧ j < S2 then 0 else M x j) = M x j
  rw [if_neg (by omega)]
theorem nulls_f : ∀ (n : Nat) (i : Int) (M : MM), (S2 - i).toNat = n → 0 ≤ i → okc M T 108 → Fix M → Fix (nulls M T i S2) ∧ Ext M (nulls M T i S2) := by
  intro n
  induction n with
  | zero =>
    intro i M hn i0 ho hF
    rw [nulls_0 (by omega)]
    exact ⟨hF, Ext.rf M⟩
  | succ n ih =>
    intro i M hn i0 ho hF
    have hx : Ext M (mset M T i 0) := mset_ext ho.1 i0
    obtain ⟨g1, g2⟩ := ih (i + 1) (mset M T i 0) (by omega) (by omega) (hx.ok ho) (fx_a hF ho i0 (by decide))
    rw [nulls_s (by omega)] at g1 g2
    exact ⟨g1, hx.tr g2⟩
/-- a row is cut, whatever it shares -/
theorem cut_s (hF : Fix m) (h : RowIs m r l) (hr : 163 ≤ r) (h0 : 0 ≤ n) : ∃ m', fm_X5_cut r n m = some (0, m') ∧ RowIs m' r (l.take n.toNat) ∧ Ext m m' ∧ Fix m' ∧ (∀ a j : Int, a < m 0 0 → a ≠ 0 → ¬ Op m r a → m' a j = m a j) ∧ (∀ a, Op m' r a → Op m r a ∨ m 0 0 ≤ a) ∧ (∀ a, Sh m' r a → Sh m r a) ∧ (∀ a, OpP m' r a → OpP m r a ∨ a = m 0 0) ∧ m' (m' r 0) (-2) = m (m r 0) (-2) := by
  have h9 := h.2.2.1
  have hs := h.1.sz
  obtain ⟨q1, q2, q3, q4, q5⟩ := h.r4
  have hsh := h.1
  obtain ⟨g1, g2, g3, g4, g5, g6, g7, g8, g9⟩ := hsh
  have eM : fm_J9_max_7cf53 0 n m = some n := by
    unfold fm_J9_max_7cf53
    split
    · rfl
    · congr 1; omega
  have eN : fm_J9_min_7cf53 (m r 2) n m = some (if n < m r 2 then n else m r 2) := by
    unfold fm_J9_min_7cf53
    split <;> rfl
  generalize ez : (if n < m r 2 then n else m r 2) = z
  rw [ez] at eN
  have hz : 0 ≤ z ∧ z ≤ m r 2 ∧ (z = n ∨ (z = m r 2 ∧ m r 2 ≤ n)) := by
    subst ez
    split <;> omega
  have el : l.take z.toNat = l.take n.toNat := by
    rcases hz.2.2 with h1 | ⟨h1, h2⟩
    · rw [h1]
    · rw [List.take_of_length_le (by omega), List.take_of_length_le (by omega)]
  rw [← el]
  have x1 : Ext m (mset m r 2 z) := mset_ext q1 (by decide)
  have F1 : Fix (mset m r 2 z) := fx_new hF hr (by decide)
  have e0 : mset m r 2 z r 0 = m r 0 := ms_j (by decide)
  have e1 : mset m r 2 z r 1 = m r 1 := ms_j (by decide)
  have e2 : mset m r 2 z r 2 = z := ms_e
  have eT : ∀ j, mset m r 2 z (m r 0) j = m (m r 0) j := fun j => ms_a (Ne.symm q5)
  obtain ⟨N, hN⟩ := BIG_s
  have hNb : (100000000 : Nat) < N + 1 := by
    have := BIG_g (n := 100000000) (by omega)
    rw [hN] at this
    exact this
  have est : fm_X5_cut r n m = fl_X5_cut_26 r (z / 64) (fun m_185 => lx (m_185 r 1) fun x_194 => bp (fm_J9_min_7cf53 x_194 (z / 64) m_185) fun x_197 => up m_185 r 1 x_197 fun m_205 => some (0, m_205)) (N + 1) (z / 64) (mset m r 2 z) := by
    rw [← hN]
    unfold fm_X5_cut
    simp only [lx_p]
    rw [bp_t eM, bp_t eN, up_t, e2, iShr_6 hz.1 (by omega)]
  rw [est]
  generalize hK : (fun m_185 => lx (m_185 r 1) fun x_194 => bp (fm_J9_min_7cf53 x_194 (z / 64) m_185) fun x_197 => up m_185 r 1 x_197 fun m_205 => some ((0 : Int), m_205)) = K
  by_cases c : z / 64 < m r 1
  · have zl : z < m r 2 := by omega
    have hpt : 0 ≤ z / 64 ∧ z / 64 < m (m r 0) (-2) ∧ m (m r 0) (z / 64) ≠ 0 ∧ PtOk m (m (m r 0) (z / 64)) := h.1.pt hz.1 zl
    obtain ⟨p1, p2, p3, p4⟩ := hpt
    have hend : ∀ X : MM, X r 1 = m r 1 → K X = some (0, mset X r 1 (z / 64)) := by
      intro X hX
      have : fm_J9_min_7cf53 (m r 1) (z / 64) X = some (z / 64) := by
        unfold fm_J9_min_7cf53
        rw [if_pos c]
      rw [← hK]
      show (lx (X r 1) fun x_194 => bp (fm_J9_min_7cf53 x_194 (z / 64) X) fun x_197 => up X r 1 x_197 fun m_205 => some ((0 : Int), m_205)) = _
      rw [lx_p, hX, bp_t this, up_t]
    -- the rest of the loop, from the state behind the first round
    have rest : ∀ (Y : MM) (P : Int), Ext m Y → Fix Y → (∀ a j : Int, a < m 0 0 → a ≠ 0 → a ≠ r → a ≠ m r 0 → Y a j = m a j) → Y r 0 = m r 0 → Y r 1 = m r 1 → Y r 2 = z → (∀ i : Int, Y (m r 0) i = if i = z / 64 then P else m (m r 0) i) → ((P = 0 ∧ z % 64 = 0) ∨ (P = m 0 0 ∧ 163 ≤ m 0 0 ∧ okc Y P 101 ∧ Y P (-2) = 64 ∧ ∀ j : Int, 0 ≤ j → Y P j = m (m (m r 0) (z / 64)) j)) → ∃ m', fl_X5_cut_26 r (z / 64) K N (z / 64 + 1) Y = some (0, m') ∧ RowIs m' r (l.take z.toNat) ∧ Ext m m' ∧ Fix m' ∧ (∀ a j : Int, a < m 0 0 → a ≠ 0 → ¬ Op m r a → m' a j = m a j) ∧ (∀ a, Op m' r a → Op m r a ∨ m 0 0 ≤ a) ∧ (∀ a, Sh m' r a → Sh m r a) ∧ (∀ a, OpP m' r a → OpP m r a ∨ a = m 0 0) ∧ m' (m' r 0) (-2) = m (m r 0) (-2) := by
      intro Y P yx yF y1 y20 y21 y22 y3 y4
      have okT : okc Y (m r 0) 108 := yx.ok g2
      have hL : Y (m r 0) (-2) = m (m r 0) (-2) := (yx.2 _ q3 q4).2
      obtain ⟨nF, nX⟩ := nulls_f (S2 := m r 1) (T := m r 0) _ (z / 64 + 1) Y rfl (by omega) okT yF
      rw [cut_loop q5 q3 p1 N (z / 64 + 1) Y (by omega) (by omega) y21 y20 okT (by rw [hL]; exact g6) (by rw [hL]; exact g4) (by omega)]
      have nr : ∀ j, nulls Y (m r 0) (z / 64 + 1) (m r 1) r j = Y r j := fun j => if_neg fun g => q5 g.1
      have na : ∀ a j, a ≠ m r 0 → nulls Y (m r 0) (z / 64 + 1) (m r 1) a j = Y a j := fun a j ha => if_neg fun g => ha g.1
      rw [hend _ ((nr 1).trans y21)]
      have fx := (nX.tr (mset_ext (v := z / 64) (j := 1) (a := r) q1 (by decide)))
      have fin := cut_fin (M := mset (nulls Y (m r 0) (z / 64 + 1) (m r 1)) r 1 (z / 64)) (P := P) h hz.1 c (yx.tr fx) (fun a j b1 b2 b3 b4 => by rw [ms_a b3, na a j b4]; exact y1 a j b1 b2 b3 b4) ⟨by rw [ms_j (by decide), nr]; exact y20, ms_e, by rw [ms_j (by decide), nr]; exact y22⟩ (fun i => by
        rw [ms_a (Ne.symm q5)]
        show (if m r 0 = m r 0 ∧ z / 64 + 1 ≤ i ∧ i < m r 1 then 0 else Y (m r 0) i) = _
        rw [y3]
        by_cases c1 : i = z / 64
        · rw [if_pos c1, if_pos c1, if_neg (by omega)]
        · rw [if_neg c1, if_neg c1]
          by_cases c2 : z / 64 < i ∧ i < m r 1
          · rw [if_pos c2, if_pos ⟨rfl, by omega, c2.2⟩]
          · rw [if_neg c2, if_neg (by omega)]) (by
        rcases y4 with g | ⟨w1, w2, w3, w4, w5⟩
        · exact Or.inl g
        · refine Or.inr ⟨w1, w2, fx.ok w3, ?_, fun j j0 => ?_⟩
          · rw [ms_a (by omega), na _ _ (by omega)]; exact w4
          · rw [ms_a (by omega), na _ _ (by omega)]; exact w5 j j0)
      exact ⟨_, rfl, fin.1, yx.tr fx, fx_new nF hr (by decide), fin.2.1, fin.2.2.1, fin.2.2.2.1, fin.2.2.2.2⟩
    unfold fl_X5_cut_26
    simp only [lx_p]
    rw [e0, e1, if_pos c, gd_t (x1.ok g2), w32_id (z := mset m r 2 z (m r 0) (-2)) (by rw [eT]; omega) (by rw [eT]; omega), if_pos (show z / 64 < mset m r 2 z (m r 0) (-2) by rw [eT]; exact p2), if_pos trivial, e2, iAnd_63 hz.1 (by omega)]
    have okx1 : okx (mset m r 2 z) (m r 0) (z / 64) := ⟨p1, by rw [eT]; exact p2⟩
    have z00 : mset m r 2 z 0 0 = m 0 0 := ms_a (by omega)
    have eq : mset m r 2 z (m r 0) (z / 64) = m (m r 0) (z / 64) := eT _
    have m00 := hF.1
    by_cases c6 : 0 < z % 64
    · rw [if_pos c6, gd_t okx1, if_neg (show ¬ mset m r 2 z (m r 0) (z / 64) = 0 by rw [eq]; exact p3)]
      generalize hq : m (m r 0) (z / 64) = q at p3 p4 eq rest
      have okq : okc (mset m r 2 z) q 101 := x1.ok p4.1
      have qr : q ≠ r := okc_ap p4.1 g1 (by decide)
      have q64 : mset m r 2 z q (-2) = 64 := (ms_a qr).trans p4.2.2
      have okP : okc (mcl (mset m r 2 z) q) (mset m r 2 z 0 0) 101 := okc_clF F1 okq rfl rfl
      unfold fj_X5_cut_72
      simp only [lx_p]
      rw [if_neg (show ¬ ((1 : Int) = 0) by decide), e0, gd_t (x1.ok g2), gd_t okx1, eq, bd_t (copy64 okq q64), gd_t (Or.inr okP), up_t, w32_id (by omega) (by omega)]
      have xc : Ext (mset m r 2 z) (mcl (mset m r 2 z) q) := mcl_ext (by rw [z00]; omega)
      have okT2 : okc (mcl (mset m r 2 z) q) (m r 0) 108 := xc.ok (x1.ok g2)
      have xs : Ext (mcl (mset m r 2 z) q) (mset (mcl (mset m r 2 z) q) (m r 0) (z / 64) (mset m r 2 z 0 0)) := mset_ext q3 p1
      have mo : ∀ b j, b < m 0 0 → b ≠ 0 → mcl (mset m r 2 z) q b j = mset m r 2 z b j := fun b j b1 b2 => mcl_o (by rw [z00]; omega) b2
      have mn : ∀ j, 0 ≤ j ∨ j = -2 → mcl (mset m r 2 z) q (mset m r 2 z 0 0) j = mset m r 2 z q j := fun j hj => by
        unfold mcl
        rw [if_pos rfl, if_pos (by omega)]
      refine rest _ (m 0 0) ((x1.tr xc).tr xs) (fx_a (fx_mcl F1) okT2 p1 (by decide)) (fun a j b1 b2 b3 b4 => ?_) ?_ ?_ ?_ (fun i => ?_) (Or.inr ⟨rfl, m00, ?_, ?_, fun j j0 => ?_⟩)
      · rw [ms_a b4, mo _ _ b1 b2, ms_a b3]
      · rw [ms_a q5, mo _ _ q2 (by omega)]; exact e0
      · rw [ms_a q5, mo _ _ q2 (by omega)]; exact e1
      · rw [ms_a q5, mo _ _ q2 (by omega)]; exact e2
      · by_cases c1 : i = z / 64
        · rw [if_pos c1, c1, ms_e, z00]
        · rw [if_neg c1, ms_j c1, mo _ _ q4 (by omega), eT]
      · rw [← z00]; exact xs.ok okP
      · rw [ms_a (by omega), ← z00, mn _ (Or.inr rfl)]; exact q64
      · rw [ms_a (by omega), ← z00, mn _ (Or.inl j0)]; exact ms_a qr
    · rw [if_neg c6]
      unfold fj_X5_cut_72
      simp only [lx_p]
      rw [if_pos trivial, e0, gd_t (x1.ok g2), gd_t okx1, up_t, w32_id (by omega) (by omega)]
      have xs : Ext (mset m r 2 z) (mset (mset m r 2 z) (m r 0) (z / 64) 0) := mset_ext q3 p1
      refine rest _ 0 (x1.tr xs) (fx_a F1 (x1.ok g2) p1 (by decide)) (fun a j b1 b2 b3 b4 => ?_) ?_ ?_ ?_ (fun i => ?_) (Or.inl ⟨rfl, by omega⟩)
      · rw [ms_a b4, ms_a b3]
      · rw [ms_a q5]; exact e0
      · rw [ms_a q5]; exact e1
      · rw [ms_a q5]; exact e2
      · by_cases c1 : i = z / 64
        · rw [if_pos c1, c1, ms_e]
        · rw [if_neg c1, ms_j c1, eT]
  · obtain ⟨f1, f2, f3, f4, f5⟩ := size_is (n := z) h hz.1 (by omega) (by omega)
    have same : mset (mset m r 2 z) r 1 (m r 1) = mset m r 2 z := by
      funext b j
      by_cases hb : b = r ∧ j = 1
      · obtain ⟨rfl, rfl⟩ := hb
        rw [ms_e, e1]
      · exact if_neg hb
    have hmin : fm_J9_min_7cf53 (m r 1) (z / 64) (mset m r 2 z) = some (m r 1) := by
      unfold fm_J9_min_7cf53
      rw [if_neg c]
    have hend : K (mset m r 2 z) = some (0, mset m r 2 z) := by
      rw [← hK]
      show (lx (mset m r 2 z r 1) fun x_194 => bp (fm_J9_min_7cf53 x_194 (z / 64) (mset m r 2 z)) fun x_197 => up (mset m r 2 z) r 1 x_197 fun m_205 => some ((0 : Int), m_205)) = _
      rw [lx_p, e1, bp_t hmin, up_t, same]
    unfold fl_X5_cut_26
    rw [lx_p, e1, if_neg c, hend]
    have hO : ∀ a, Op (mset m r 2 z) r a ↔ Op m r a := fun a => by
      unfold Op
      rw [e0, e1]
      simp only [eT]
    have hSh : ∀ a, Sh (mset m r 2 z) r a ↔ Sh m r a := fun a => by
      unfold Sh
      rw [e0, e1]
      simp only [eT]
    exact ⟨_, rfl, f1, x1, F1, fun a j b1 b2 b3 => ms_a fun e => b3 (Or.inl e), fun a ha => Or.inl ((hO a).mp ha), fun a ha => (hSh a).mp ha, fun a ha => Or.inl (by
      unfold OpP at ha ⊢
      rw [e0, e1] at ha
      simp only [eT] at ha
      exact ha), by rw [e0, eT]⟩
end CUT2
