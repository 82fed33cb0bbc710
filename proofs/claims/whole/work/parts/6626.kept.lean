/-! THE TELLING in the reference: what it is told of stays (made from 6625). -/
section PKS
variable {m m' : MM} {k i r z v lim : Int}
variable {M0 : MM}
def PKS (M0 m : MM) : Prop := Fix m ∧ ∀ j : Int, (j = 88 ∨ j = 89 ∨ j = 119 ∨ j = 124) → m 68 j = M0 68 j
theorem PKS.fr {W : List (Int × Int × Int)} (h : PKS M0 m) (f : Fr W 0 m m') (hw : (W.all fun w => decide (w.1 = 0) && (decide (w.2.1 ≠ 68) || (decide (w.2.2 ≠ -9) && (decide (w.2.2 ≠ 88) && (decide (w.2.2 ≠ 89) && (decide (w.2.2 ≠ 119) && decide (w.2.2 ≠ 124))))))) = true) : PKS M0 m' := by
  refine ⟨f.fix, fun j hj => ?_⟩
  rw [← h.2 j hj]
  refine f.2.2.2.1 68 j (by decide) (by have := h.1.1; omega) (by omega) fun hh => ?_
  rcases hh with hh | ⟨w, h1, h2, h3⟩
  · exact absurd hh (by decide)
  · have := List.all_eq_true.mp hw w h1
    simp only [Bool.and_eq_true, Bool.or_eq_true, decide_eq_true_eq] at this
    omega
theorem PKS.ms {a j : Int} (h : PKS M0 m) (hF : Fix (mset m a j v)) (ha : a ≠ 68 ∨ (j ≠ 88 ∧ j ≠ 89 ∧ j ≠ 119 ∧ j ≠ 124)) : PKS M0 (mset m a j v) := by
  refine ⟨hF, fun i hi => ?_⟩
  rw [← h.2 i hi]
  exact if_neg (by omega)
theorem k_walks : ∀ (n : Nat) (k : Int) (m : MM) (its : Int), fl_X12_walks_6 its n k m = some (z, m') → PKS M0 m → PKS M0 m' := by
  intro n
  induction n with
  | zero => intro k m its h _; cases h
  | succ n ih =>
    intro k m its h hP
    have h96 : ∀ M : MM, fj_X12_walks_96 (fl_X12_walks_6 its n) its M = some (z, m') → PKS M0 M → PKS M0 m' := by
      intro M h hP
      unfold fj_X12_walks_96 at h
      obtain ⟨y, -, h⟩ := bp_s h
      rcases it_s h with ⟨-, h⟩ | ⟨-, h⟩
      · exact ih _ _ _ h hP
      · obtain ⟨y2, -, h⟩ := bp_s h
        rcases it_s h with ⟨-, h⟩ | ⟨-, h⟩
        · exact ih _ _ _ h hP
        · obtain ⟨-, h⟩ := gd_s h
          rw [lx_p] at h
          rcases it_s h with ⟨-, h⟩ | ⟨-, h⟩
          · exact ih _ _ _ h hP
          · obtain ⟨y3, M2, h2, h⟩ := bd_s h
            exact ih _ _ _ h (hP.fr (fw_X12_canGoOn hP.1 h2) (by decide +kernel))
    unfold fl_X12_walks_6 at h
    rcases it_s h with ⟨-, h⟩ | ⟨-, h⟩
    · cases h; exact hP
    · obtain ⟨y, -, h⟩ := bp_s h
      rcases it_s h with ⟨-, h⟩ | ⟨-, h⟩
      · cases h; exact hP
      · obtain ⟨-, h⟩ := gd_s h
        rw [lx_p] at h
        rcases it_s h with ⟨-, h⟩ | ⟨-, h⟩
        · simp only [lx_p] at h
          obtain ⟨-, h⟩ := gd_s h
          obtain ⟨-, h⟩ := gd_s h
          rcases it_s h with ⟨-, h⟩ | ⟨-, h⟩
          · rcases it_s h with ⟨-, h⟩ | ⟨c, h⟩
            · obtain ⟨y3, M2, h2, h⟩ := bd_s h
              exact h96 _ h (hP.fr (fw_X12_spins hP.1 h2) (by decide +kernel))
            · rw [up_t] at h
              obtain ⟨y3, M2, h2, h⟩ := bd_s h
              have hP2 : PKS M0 (mset m 68 113 (w32 (m 68 113 + 1))) := hP.ms (fx_f (j := 113) hP.1 (fx_kF (c := 13) hP.1 (by decide +kernel)) (by decide +kernel)) (Or.inr (by omega))
              exact h96 _ h (hP2.fr (fw_X12_does hP2.1 h2) (by decide +kernel))
          · obtain ⟨y3, M2, h2, h⟩ := bd_s h
            exact h96 _ h (hP.fr (fw_X12_endsBranch hP.1 h2) (by decide +kernel))
        · cases h; exact hP
theorem k_goOnL : ∀ (n : Nat) (k : Int) (m : MM), fl_X12_goOn_7 n k m = some (z, m') → PKS M0 m → PKS M0 m' := by
  intro n
  induction n with
  | zero => intro k m h _; cases h
  | succ n ih =>
    intro k m h hP
    unfold fl_X12_goOn_7 at h
    rw [lx_p] at h
    rcases it_s h with ⟨-, h⟩ | ⟨-, h⟩
    · obtain ⟨y, -, h⟩ := bp_s h
      rcases it_s h with ⟨-, h⟩ | ⟨-, h⟩
      · cases h; exact hP
      · obtain ⟨y2, M, h2, h⟩ := bd_s h
        have hP2 := hP.fr (fw_X12_canGoOn hP.1 h2) (by decide +kernel)
        rcases it_s h with ⟨-, h⟩ | ⟨-, h⟩
        · rw [lx_p] at h
          exact ih _ _ h hP2
        · obtain ⟨-, h⟩ := gd_s h
          rw [lx_p] at h
          obtain ⟨y3, M3, h3, h⟩ := bd_s h
          unfold fm_X12_walks at h3
          obtain ⟨y4, -, h3⟩ := bp_s h3
          exact ih _ _ h (k_walks _ _ _ _ h3 hP2)
    · cases h; exact hP
theorem k_takes (h : fm_X12_takes k m = some (z, m')) (hP : PKS M0 m) : PKS M0 m' := by
  have h126 : ∀ M : MM, fj_X12_takes_126 M = some (z, m') → PKS M0 M → PKS M0 m' := by
    intro M h hP
    unfold fj_X12_takes_126 at h
    obtain ⟨y, -, h⟩ := bp_s h
    rcases it_s h with ⟨-, h⟩ | ⟨-, h⟩
    · cases h; exact hP
    · obtain ⟨y2, M2, h2, h⟩ := bd_s h
      cases h
      unfold fm_X12_goOn at h2
      rw [up_t] at h2
      exact k_goOnL _ _ _ h2 (hP.ms (fx_f (j := 113) hP.1 (fx_kF (c := 13) hP.1 (by decide +kernel)) (by decide +kernel)) (Or.inr (by omega)))
  unfold fm_X12_takes at h
  rw [lx_p] at h
  obtain ⟨y1, -, h⟩ := bp_s h
  obtain ⟨y2, -, h⟩ := bp_s h
  obtain ⟨y3, -, h⟩ := bp_s h
  obtain ⟨y4, -, h⟩ := bp_s h
  rw [up_t] at h
  have hP1 : PKS M0 (mset m 68 118 (Int.tmod y4 1000)) := hP.ms (fx_f (j := 118) hP.1 (fx_kF (c := 13) hP.1 (by decide +kernel)) (by decide +kernel)) (Or.inr (by omega))
  have fx1 : ∀ (M : MM) (a j v : Int), Fix M → (a = 142 ∨ a = 155 ∨ a = 157) → 0 ≤ j → Fix (mset M a j v) := by
    intro M a j v hF ha hj
    have key : ∀ q ∈ fixk, (q.1 = 142 ∨ q.1 = 155 ∨ q.1 = 157) → ∀ p ∈ q.2.2.2, False := by decide +kernel
    exact fx_z hF (by omega) hj fun q g1 g2 p g3 g4 => key q g1 (by omega) p g3
  rcases it_s h with ⟨-, h⟩ | ⟨-, h⟩
  · rw [up_t] at h
    obtain ⟨y5, M2, h2, h⟩ := bd_s h
    have hP2 := hP1.ms (v := y2) (fx1 _ 142 0 y2 hP1.1 (Or.inl rfl) (by decide)) (Or.inl (by decide))
    exact h126 _ h (hP2.fr (fw_X12_begins hP2.1 h2) (by decide +kernel))
  · rcases it_s h with ⟨-, h⟩ | ⟨-, h⟩
    · obtain ⟨c1, h⟩ := gd_s h
      rw [lx_p] at h
      obtain ⟨c2, h⟩ := gd_s h
      rw [up_t, lx_p, up_t] at h
      have hP2 := hP1.ms (v := y3) (fx1 _ 157 _ y3 hP1.1 (Or.inr (Or.inr rfl)) c2.1) (Or.inl (by decide))
      exact h126 _ h (hP2.ms (fx1 _ 155 _ _ hP2.1 (Or.inr (Or.inl rfl)) c1.1) (Or.inl (by decide)))
    · rcases it_s h with ⟨-, h⟩ | ⟨-, h⟩
      · obtain ⟨y5, M2, h2, h⟩ := bd_s h
        exact h126 _ h (hP1.fr (fw_X12_isCancelled hP1.1 h2) (by decide +kernel))
      · obtain ⟨y5, M2, h2, h⟩ := bd_s h
        exact h126 _ h (hP1.fr (fw_X12_comesBack hP1.1 h2) (by decide +kernel))
theorem k_tellL : ∀ (n : Nat) (k : Int) (m : MM), fl_X12_tellsRun_151 r lim n k m = some (z, m') → PKS M0 m → PKS M0 m' := by
  intro n
  induction n with
  | zero => intro k m h _; cases h
  | succ n ih =>
    intro k m h hP
    have h222 : ∀ M : MM, fj_X12_tellsRun_222 (fl_X12_tellsRun_151 r lim n) r lim k M = some (z, m') → PKS M0 M → PKS M0 m' := by
      intro M h hP
      unfold fj_X12_tellsRun_222 at h
      rw [lx_p] at h
      rcases it_s h with ⟨-, h⟩ | ⟨-, h⟩
      · rw [lx_p] at h
        obtain ⟨y5, M2, h2, h⟩ := bd_s h
        rw [lx_p] at h
        exact ih _ _ h (hP.fr (fw_X12_goesBy hP.1 h2) (by decide +kernel))
      · rw [lx_p] at h
        exact ih _ _ h hP
    unfold fl_X12_tellsRun_151 at h
    obtain ⟨-, h⟩ := gd_s h
    rw [lx_p] at h
    rcases it_s h with ⟨-, h⟩ | ⟨-, h⟩
    · rw [lx_p] at h
      rcases it_s h with ⟨-, h⟩ | ⟨-, h⟩
      · rw [lx_p] at h
        rcases it_s h with ⟨-, h⟩ | ⟨-, h⟩
        · obtain ⟨y, -, h⟩ := bp_s h
          rcases it_s h with ⟨-, h⟩ | ⟨-, h⟩
          · rw [lx_p] at h
            exact ih _ _ h hP
          · rw [up_t, lx_p] at h
            have hP1 : PKS M0 (mset m 68 117 (w32 (m 68 117 + 1))) := hP.ms (fx_f (j := 117) hP.1 (fx_kF (c := 13) hP.1 (by decide +kernel)) (by decide +kernel)) (Or.inr (by omega))
            rcases it_s h with ⟨-, h⟩ | ⟨-, h⟩
            · rw [lx_p, up_t] at h
              obtain ⟨y5, M2, h2, h⟩ := bd_s h
              have hP2 := hP1.ms (a := 68) (j := 123) (v := w32 (mset m 68 117 (w32 (m 68 117 + 1)) 68 123 + 1)) (fx_f (j := 123) hP1.1 (fx_kF (c := 13) hP1.1 (by decide +kernel)) (by decide +kernel)) (Or.inr (by omega))
              exact h222 _ h (k_takes h2 hP2)
            · exact h222 _ h hP1
        · cases h; exact hP
      · cases h; exact hP
    · cases h; exact hP
end PKS
