/-! THE TELLING: UNDO, PATCH, BARE, and all lines. -/
section LIN
variable {m0 m m' M : MM} {x : CX} {s : TS} {B : Int} {a b c e j v k h n l w p g t : Int}
theorem undo_e (hC : CR m0 m s B) (X : XC m0 x) (hW : SW x s B) (hB : B < 268435456) (hs : x.1 3 ≤ x.1 0) (hk : 0 ≤ k) (hk2 : k < sg s 0 5) (hl : sg s (2 + k) 4 < x.1 5) : ∃ m', fm_X4_undo (m 19 k) m = some (0, m') ∧ CR m0 m' (sUndo x k s) (B + 1) ∧ SW x (sUndo x k s) (B + 1) := by
  have ht := hC.th
  have ho := hC.ob hk (by omega)
  have hC0 := hC
  obtain ⟨k1, k2, k3, k4, k5, k6, k7⟩ := hW.br hk hk2
  have h5 := (X.code hC.2.1).2.2.2.1
  obtain ⟨-, -, -, -, L, hR, hL, lC⟩ := hC0
  have hS := hL.2.2.1
  have hn := (X.hc hC.2.1).2.1.n
  unfold sUndo
  cases hu : su s with
  | nil =>
    unfold su at hu
    rw [hu] at hS
    have h0 : m 17 4 = 0 := hS
    obtain ⟨m', g1, g2, g3⟩ := go_e (l := sg s (2 + k) 4 + 1) hC hk hk2 rfl
    refine ⟨m', ?_, g2.mono (by omega), (hW.go hk (by omega) (by omega)).mono (by omega)⟩
    unfold fm_X4_undo
    simp only [lx_p]
    rw [h0, if_pos rfl, gd_t ho.2.2, hC.br hk hk2 (by decide) (by decide), w32_id (by omega) (by omega), bd_t g1]
  | cons v t =>
    have hv := hW.2.2.2.1 v (by rw [hu]; exact List.mem_cons_self)
    unfold su at hu
    rw [hu] at hS
    have hp := hS.1
    obtain ⟨t1, h', t2, t3⟩ := top_e hR hS
    have w1 := hC.pU hR hL lC t3
    have v1 : SW x (stu s t) B := by
      refine hW.to rfl rfl (Or.inl rfl) (Or.inl rfl) (Nat.le_refl _) (Or.inl rfl) (Or.inl rfl) (fun _ _ _ => Or.inl rfl) (fun v hv => ?_) hW.2.2.2.2.1 fun k _ _ => Or.inl ⟨fun _ => rfl, rfl⟩
      exact hW.2.2.2.1 v (by unfold su; rw [hu]; exact List.mem_cons_of_mem _ hv)
    obtain ⟨m1, f1, f2⟩ := command_e (k := 8) (a := v / 1000) (b := v % 1000) w1 X v1 hB hs (by decide) (by decide) (by omega) (by omega) (by omega) (by omega)
    have hc := v1.cmd (c := 8) (a := v / 1000) (b := v % 1000) hs
    have hcr := cmd_r (c := 8) (a := v / 1000) (b := v % 1000) v1 hs hn.1
    have h19 : ∀ i : Int, 0 ≤ i → m1 19 i = m 19 i := fun i hi => by rw [cmd19 w1.1 f1 hi, ms_a (by decide)]
    have g5 : ∀ p q : Int, p ≠ 0 ∨ (q ≠ 12 ∧ q ≠ 30 ∧ q ≠ 31) → sg (sCmd x 8 (v / 1000) (v % 1000) (stu s t)).2 p q = sg s p q := fun p q hh => cmd_g hh
    have hd : fm_X4_undo (m 19 k) m = gd (okc m1 (m 19 k) 2) (bd (fm_X1_waitFor (m 19 k) 2 (sCmd x 8 (v / 1000) (v % 1000) (stu s t)).1 m1) fun x_87 m_88 => some (0, m_88)) := by
      unfold fm_X4_undo
      simp only [lx_p, up_t]
      rw [if_neg (by omega), bp_t t1, bp_t t2, tdiv_e hv.1, tmod_e hv.1, w32_id (by omega) (by omega), bd_t f1]
    rw [hd]
    have e5 := g5 0 5 (Or.inr ⟨by decide, by decide, by decide⟩)
    have e4 := g5 (2 + k) 4 (Or.inl (by omega))
    have okb : okc m1 (m 19 k) 2 := f2.1.k2 ho.1 ho.2.1
    rw [gd_t okb]
    simp only
    generalize hr : sCmd x 8 (v / 1000) (v % 1000) (stu s t) = r at f2 hc hcr e5 e4
    obtain ⟨r, s1⟩ := r
    simp only at f2 hc hcr e5 e4 ⊢
    obtain ⟨m2, q1, q2, q3⟩ := wait_e (w := 2) (n := r) f2 hk (by rw [e5]; exact hk2) (h19 k hk)
    rw [bd_t q1]
    refine ⟨m2, rfl, q2, (hc.wait hk (fun _ => by rw [e4]; exact hl) (fun h => by omega) (fun _ h30 => ?_)).mono (by omega)⟩
    rcases hcr with ⟨z1, z2, z3⟩ | ⟨z1, z2, z3, z4⟩
    · omega
    · exact ⟨z1, z2⟩
theorem patch_e (hC : CR m0 m s B) (X : XC m0 x) (hW : SW x s B) (hB : B < 268435456) (hs : x.1 3 ≤ x.1 0) (p0 : 0 ≤ p) (p1 : p ≤ 9) : ∃ m', fm_X4_patch p m = some (if (sPatch x p s).1 = true then 1 else 0, m') ∧ CR m0 m' (sPatch x p s).2 (B + 1) ∧ SW x (sPatch x p s).2 (B + 1) ∧ ∀ i : Int, 0 ≤ i → m' 19 i = m 19 i := by
  obtain ⟨e2, H, e4, hk⟩ := X.hc hC.2.1
  have hn := H.n
  have hnc := nc_b hW.1.2
  have h12 := hW.1
  have hse := seen_b (s := s) hs
  have w1 := hC.p17 (j := 7) (v := iOr (sg s 0 7) (iShl 1 p)) (by decide) (by decide)
  have v1 := hW.s0 (j := 7) (v := iOr (sg s 0 7) (iShl 1 p)) (by decide) (by decide) (by decide) (by decide) (by decide) (Or.inl (by decide))
  obtain ⟨m1, f1, f2⟩ := command_e (k := 12) (a := p) (b := 0) w1 X v1 hB hs (by decide) (by decide) p0 (by omega) (by decide) (by decide)
  have hc := v1.cmd (c := 12) (a := p) (b := 0) hs
  have h19 : ∀ i : Int, 0 ≤ i → m1 19 i = m 19 i := fun i hi => by rw [cmd19 w1.1 f1 hi, ms_a (by decide)]
  have e7 : m 17 7 = sg s 0 7 := hC.c17 (by decide) (by decide)
  -- got
  have h101 : ∀ y3 y4 : Int, (y3 ≠ 0 ∨ y4 ≠ 0) → fj_X4_patch_101 p y3 y4 m = some (1, m1) := by
    intro y3 y4 hy
    unfold fj_X4_patch_101 fj_X4_patch_125
    simp only [lx_p, up_t]
    rw [e7, bd_t f1]
    by_cases q : y3 = 0
    · rw [if_pos q, if_neg (by omega)]
    · rw [if_neg q]
  have h90 : ∀ y3 y4 : Int, fj_X4_patch_90 p y3 y4 m = if y3 ≠ 0 ∨ y4 ≠ 0 then some (1, m1) else some (0, m) := by
    intro y3 y4
    unfold fj_X4_patch_90
    by_cases q : y3 = 0
    · by_cases q2 : y4 = 0
      · rw [if_pos q, if_pos q2, if_neg (by omega)]
        unfold fj_X4_patch_125
        rw [if_pos q, if_pos q2]
      · rw [if_pos q, if_neg q2, if_pos (Or.inr q2)]
        exact h101 _ _ (Or.inr q2)
    · rw [if_neg q, if_pos (Or.inl q)]
      exact h101 _ _ (Or.inl q)
  have h59 : ∀ y3 : Int, fj_X4_patch_59 p (nc x (sg s 0 12)) y3 m = if y3 ≠ 0 ∨ (¬ nc x (sg s 0 12) < sSeen x s ∧ ¬ sg s 0 10 < x.1 1) then some (1, m1) else some (0, m) := by
    intro y3
    unfold fj_X4_patch_59
    simp only [lx_p]
    rw [bp_t (seen_e hC X hW.2.2.2.2.2.2.2.2.2), hC.c17 (j := 10) (by decide) (by decide), e2, gd_t hk, e4, h90, h90]
    by_cases q1 : nc x (sg s 0 12) < sSeen x s
    · rw [if_pos q1]
      by_cases q3 : y3 = 0
      · rw [if_neg (by omega), if_neg (by omega)]
      · rw [if_pos (Or.inl q3), if_pos (Or.inl q3)]
    · rw [if_neg q1]
      by_cases q2 : sg s 0 10 < x.1 1
      · rw [if_pos q2]
        by_cases q3 : y3 = 0
        · rw [if_neg (by omega), if_neg (by omega)]
        · rw [if_pos (Or.inl q3), if_pos (Or.inl q3)]
      · rw [if_neg q2, if_pos (Or.inr (by decide)), if_pos (Or.inr ⟨q1, q2⟩)]
  have hd : fm_X4_patch p m = if iAnd (iShr (sg s 0 7) p) 1 = 0 then (if (nc x (sg s 0 12) < sSeen x s ∧ eis (x.2.1 (nc x (sg s 0 12))) 12 p 0 = true) ∨ (¬ nc x (sg s 0 12) < sSeen x s ∧ ¬ sg s 0 10 < x.1 1) then some (1, m1) else some (0, m)) else some (1, m) := by
    unfold fm_X4_patch
    simp only [lx_p]
    rw [e7, e2, hC.c17 (j := 12) (by decide) (by decide), gd_t hk, bp_t (nextCmd_e H h12.1), bp_t (seen_e hC X hW.2.2.2.2.2.2.2.2.2), h59, h59]
    by_cases q0 : iAnd (iShr (sg s 0 7) p) 1 = 0
    · rw [if_pos q0, if_pos q0]
      by_cases q1 : nc x (sg s 0 12) < sSeen x s
      · rw [if_pos q1, bp_t (is_e H (by omega) (by omega) (by decide) (by decide) p0 (by omega) (by decide) (by decide))]
        by_cases q2 : eis (x.2.1 (nc x (sg s 0 12))) 12 p 0 = true
        · rw [if_pos q2, if_neg (by decide), if_pos (Or.inl (by decide)), if_pos (Or.inl ⟨q1, q2⟩)]
        · rw [if_neg q2, if_pos rfl]
          rw [if_neg (by rintro (hh | hh); exact hh rfl; exact hh.1 q1), if_neg (by rintro (hh | hh); exact q2 hh.2; exact hh.1 q1)]
      · rw [if_neg q1]
        by_cases q2 : sg s 0 10 < x.1 1
        · rw [if_neg (by rintro (hh | hh); exact hh rfl; exact hh.2 q2), if_neg (by rintro (hh | hh); exact q1 hh.1; exact hh.2 q2)]
        · rw [if_pos (Or.inr ⟨q1, q2⟩), if_pos (Or.inr ⟨q1, q2⟩)]
    · rw [if_neg q0, if_neg q0]
  rw [hd]
  unfold sPatch
  by_cases q0 : iAnd (iShr (sg s 0 7) p) 1 = 0
  · rw [if_pos q0, if_pos q0]
    by_cases q1 : (nc x (sg s 0 12) < sSeen x s ∧ eis (x.2.1 (nc x (sg s 0 12))) 12 p 0 = true) ∨ (¬ nc x (sg s 0 12) < sSeen x s ∧ ¬ sg s 0 10 < x.1 1)
    · rw [if_pos q1, if_pos q1]
      exact ⟨m1, rfl, f2, hc.mono (by omega), h19⟩
    · rw [if_neg q1, if_neg q1]
      exact ⟨m, rfl, hC.mono (by omega), hW.mono (by omega), fun _ _ => rfl⟩
  · rw [if_neg q0, if_neg q0]
    exact ⟨m, rfl, hC.mono (by omega), hW.mono (by omega), fun _ _ => rfl⟩
theorem SW.s5 (hW : SW x s B) (hk : 0 ≤ k) (h0 : 0 ≤ v) (h1 : v ≤ B) : SW x (st s (2 + k) 5 v) B := by
  refine hW.b1 (k := k) (fun a i ha => by rw [st_g, if_neg (fun hh => ha hh.1)]) (fun _ _ => rfl) rfl hk fun g => ?_
  have e : ∀ i, i ≠ 5 → sg (st s (2 + k) 5 v) (2 + k) i = sg s (2 + k) i := fun i hi => by rw [st_g, if_neg (fun hh => hi hh.2)]
  have e0 : ∀ i, sg (st s (2 + k) 5 v) 0 i = sg s 0 i := fun i => by rw [st_g, if_neg (by omega)]
  have e5 : sg (st s (2 + k) 5 v) (2 + k) 5 = v := by rw [st_g, if_pos ⟨rfl, rfl⟩]
  obtain ⟨k1, k2, k3, k4, k5, k6, k7⟩ := hW.br hk g
  unfold BrW
  rw [e 0 (by omega), e 4 (by omega), e 7 (by omega), e 8 (by omega), e5, e0, e0]
  exact ⟨k1, k2, k3, k4, k5, ⟨h0, h1⟩, k7⟩
theorem bare_e (hC : CR m0 m s B) (hW : SW x s B) (hB : B < 268435456) (hk : 0 ≤ k) (hk2 : k < sg s 0 5) : ∃ m', fm_X1_isBare (m 19 k) m = some (if (sBare k s).1 = true then 1 else 0, m') ∧ CR m0 m' (sBare k s).2 B ∧ SW x (sBare k s).2 B ∧ (∀ i, m' 19 i = m 19 i) := by
  have ht := hC.th
  have ho := hC.ob hk (by omega)
  obtain ⟨k1, k2, k3, k4, k5, k6, k7⟩ := hW.br hk hk2
  unfold sBare
  simp only
  generalize hh : (if 0 < sg s (2 + k) 5 then sg s (2 + k) 5 - 1 else 0) = y
  have hy : 0 ≤ y ∧ y ≤ B := by
    subst hh
    split <;> omega
  have hmax : fm_J9_max_7cf53 0 (w32 (sg s (2 + k) 5 - 1)) m = some y := by
    rw [w32_id (by omega) (by omega)]
    unfold fm_J9_max_7cf53
    subst hh
    by_cases q : 0 < sg s (2 + k) 5 - 1
    · rw [if_pos q, if_pos (by omega)]
    · rw [if_neg q]
      split
      · congr 1; omega
      · rfl
  have w1 := hC.pB (j := 5) (v := y) hk hk2 (by decide) (by decide)
  have v1 := hW.s5 (v := y) hk hy.1 hy.2
  have e6 : mset m (m 19 k) 5 y (m 19 k) 6 = sg s (2 + k) 6 := by
    rw [ms_j (by decide)]
    exact hC.br hk hk2 (by decide) (by decide)
  have e19 : ∀ i, mset m (m 19 k) 5 y 19 i = m 19 i := fun i => ms_a (by omega)
  have e05 : sg (st s (2 + k) 5 y) 0 5 = sg s 0 5 := by rw [st_g, if_neg (by omega)]
  have w2 : ∀ v : Int, CR m0 (mset (mset m (m 19 k) 5 y) (m 19 k) 6 v) (st (st s (2 + k) 5 y) (2 + k) 6 v) B := fun v => by
    have := w1.pB (k := k) (j := 6) (v := v) hk (by rw [e05]; exact hk2) (by decide) (by decide)
    rw [e19] at this
    exact this
  have v2 : ∀ v : Int, SW x (st (st s (2 + k) 5 y) (2 + k) 6 v) B := fun v => v1.s6 hk (Or.inl rfl)
  have h33 : ∀ s0 : Int, s0 = 0 ∨ s0 = 1 → fj_X1_isBare_33 (m 19 k) s0 (mset m (m 19 k) 5 y) = some (s0, mset (mset m (m 19 k) 5 y) (m 19 k) 6 (if sg s (2 + k) 6 = 0 then 0 else if s0 = 0 then 1 else 0)) := by
    intro s0 hs0
    unfold fj_X1_isBare_33
    simp only [lx_p, up_t]
    rw [e6]
    by_cases q : sg s (2 + k) 6 = 0
    · rw [if_pos q, if_pos q, gd_t hs0]
    · rw [if_neg q, if_neg q]
      by_cases q2 : s0 = 0
      · rw [if_pos q2, if_pos q2, gd_t hs0]
      · rw [if_neg q2, if_neg q2, gd_t hs0]
  have hd : fm_X1_isBare (m 19 k) m = if sg s (2 + k) 6 = 0 then fj_X1_isBare_33 (m 19 k) 0 (mset m (m 19 k) 5 y) else if y = 0 then fj_X1_isBare_33 (m 19 k) 1 (mset m (m 19 k) 5 y) else fj_X1_isBare_33 (m 19 k) 0 (mset m (m 19 k) 5 y) := by
    unfold fm_X1_isBare
    simp only [lx_p, up_t]
    rw [hC.br hk hk2 (by decide) (by decide), bp_t hmax, e6, ms_e]
  rw [hd]
  have k19 : ∀ v i : Int, mset (mset m (m 19 k) 5 y) (m 19 k) 6 v 19 i = m 19 i := fun v i => by rw [ms_a (by omega), e19]
  by_cases q : sg s (2 + k) 6 = 0
  · rw [if_neg (show ¬ (sg s (2 + k) 6 ≠ 0 ∧ y = 0) from fun hh => hh.1 q), if_pos q, h33 0 (Or.inl rfl), if_pos q, if_pos q]
    exact ⟨_, rfl, w2 0, v2 0, k19 0⟩
  · by_cases q2 : y = 0
    · rw [if_pos (show sg s (2 + k) 6 ≠ 0 ∧ y = 0 from ⟨q, q2⟩), if_neg q, if_pos q2, h33 1 (Or.inr rfl), if_neg q, if_neg (show ¬ ((1 : Int) = 0) by decide)]
      exact ⟨_, rfl, w2 0, v2 0, k19 0⟩
    · rw [if_neg (show ¬ (sg s (2 + k) 6 ≠ 0 ∧ y = 0) from fun hh => q2 hh.2), if_neg q, if_neg q2, h33 0 (Or.inl rfl), if_neg q, if_pos (show (0 : Int) = 0 from rfl), if_neg q]
      exact ⟨_, rfl, w2 1, v2 1, k19 1⟩
end LIN
