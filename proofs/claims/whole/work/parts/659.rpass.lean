/-! THE TELLING in the reference: TASKs are gone by. -/
section RF25
variable {m0 m m' M : MM} {x : CX} {s s' s1 s2 : TS} {B H : Int} {a b c e i j v k h n l w p r t o q rh E ty ver rc : Int} {G : Int → Nat} {Q : TS → Prop}
theorem next_rr (h : RR m0 m x s rh E H) (R : RC m0 x G r ty ver rh rc) (h12 : 0 ≤ sg s 0 12 ∧ sg s 0 12 ≤ x.1 0) (h30 : sg s 0 30 = 0) : ∃ m1 z, fm_X12_nextCommand m = some (z, m1) ∧ RR m0 m1 x s rh E H ∧ (z < rh ↔ nc x (sg s 0 12) < rh) ∧ (z < rh → z = nc x (sg s 0 12)) ∧ (0 ≤ z ∧ z ≤ x.1 0) ∧ m1 = mset m 68 116 z := by
  obtain ⟨p1, p2, p3, p4, p5⟩ := h.2.2.2.2.2.2.2.2.1 h30
  obtain ⟨m1, z, f1, f2, f3, f4, f5⟩ := rnext R h.1 p1.1 p1.2
  have hb1 := nc_b (x := x) p1.2
  have hz : 0 ≤ z ∧ z ≤ x.1 0 := by
    rcases f3 with ⟨g1, g2⟩ | ⟨g1, g2, g3⟩ <;> omega
  have ss : st s 0 12 (sg s 0 12) = s := Prod.ext mset_same rfl
  have h1 : RR m0 m1 x s rh E H := by
    have := h.met (v := z) (w := sg s 0 12) (fun _ => by
      rw [ms_e, ms_j (by decide), ss, f4]
      exact ⟨hz, p2, p3, p4, p5⟩)
    rw [ss, ← f2] at this
    exact this
  refine ⟨m1, z, f1, h1, ?_, ?_, hz, f2⟩
  · constructor
    · intro g
      rcases f3 with ⟨g1, g2⟩ | ⟨g1, g2, g3⟩
      · by_cases q : nc x (sg s 0 12) < rh
        · exact q
        · have := p4 (by omega); omega
      · omega
    · intro g
      have := p3 g
      rcases f3 with ⟨g1, g2⟩ | ⟨g1, g2, g3⟩ <;> omega
  · intro g
    rcases f3 with ⟨g1, g2⟩ | ⟨g1, g2, g3⟩
    · by_cases q : nc x (sg s 0 12) < rh
      · rw [g2, p3 q]
      · have := p4 (by omega); omega
    · omega
theorem u_pass : ∀ (n : Nat) (i : Int) (s : TS), sg (sPass x n i s) 0 30 = 0 → sg s 0 30 = 0 := by
  intro n
  induction n with
  | zero => intro i s h; exact h
  | succ n ih =>
    intro i s h
    unfold sPass at h
    split at h
    · split at h
      · assumption
      · rw [u_st (Or.inr (by decide))] at h; exact h
    · rw [u_st (Or.inr (by decide))] at h; exact h
/-- where nothing is amiss, the pointer alone goes on -/
theorem pass_ok : ∀ (n : Nat) (i : Int) (s : TS), i ≤ x.1 0 → x.1 0 - i < n → sg (sPass x n i s) 0 30 = 0 → ∃ j, i ≤ j ∧ sPass x n i s = st s 0 13 j := by
  intro n
  induction n with
  | zero => intro i s hi h0 h; omega
  | succ n ih =>
    intro i s hi h0 h
    have h30 := u_pass _ _ _ h
    unfold sPass at h ⊢
    by_cases c1 : i < x.1 0
    · rw [if_pos c1, if_pos h30] at h ⊢
      by_cases c2 : ek (x.2.1 i) = 17
      · rw [if_pos c2] at h ⊢
        by_cases c3 : sg s 0 10 < ex (x.2.1 i)
        · rw [if_pos c3]
          exact ⟨i, Int.le_refl _, rfl⟩
        · rw [if_neg c3] at h ⊢
          by_cases c4 : nc x (sg s 0 12) < i
          · rw [if_pos c4] at h
            exact absurd (u_pass _ _ _ h) u_stuck
          · rw [if_neg c4] at h ⊢
            obtain ⟨j, j1, j2⟩ := ih (i + 1) s (by omega) (by omega) h
            exact ⟨j, by omega, j2⟩
      · rw [if_neg c2] at h ⊢
        obtain ⟨j, j1, j2⟩ := ih (i + 1) s (by omega) (by omega) h
        exact ⟨j, by omega, j2⟩
    · rw [if_neg c1]
      exact ⟨i, Int.le_refl _, rfl⟩
theorem pass_stuck {n : Nat} (h : sg s 0 30 ≠ 0) (hn : 0 < n) : sPass x n i s = st s 0 13 i := by
  obtain ⟨n, rfl⟩ : ∃ g, n = g + 1 := ⟨n - 1, by omega⟩
  unfold sPass
  by_cases c : i < x.1 0
  · rw [if_pos c, if_neg h]
  · rw [if_neg c]
theorem RE.s0 (h : RE m0 m x s rh E H) (hj : j = 10 ∨ j = 11 ∨ j = 13 ∨ j = 28 ∨ j = 40) : RE m0 m x (st s 0 j v) rh E H := by
  rcases h with ⟨g1, g2⟩ | ⟨g1, g2, g3, g4, g5, g6⟩
  · exact Or.inl ⟨by rw [u_st (Or.inr (by omega))]; exact g1, g2.s0 hj⟩
  · exact Or.inr ⟨g1, by rw [u_st (Or.inr (by omega))]; exact g2, g3, by rw [st_g, if_neg (by omega)]; exact g4, g5, g6⟩
theorem RE.p126 (h : RE m0 m x s rh E H) : RE m0 (mset m 68 126 v) x s rh E H := by
  rcases h with ⟨g1, g2⟩ | ⟨g1, g2, g3, g4, g5, g6⟩
  · refine Or.inl ⟨g1, ?_⟩
    obtain ⟨hT, hS, hV, hP, hB, hQ, hU, hN, hC, hH⟩ := g2
    have em : ∀ a i : Int, a ≠ 68 ∨ i ≠ 126 → mset m 68 126 v a i = m a i := fun a i ha => if_neg (by omega)
    refine ⟨hT.ms (mtb68 (by omega)), ?_, fun a g1 g2 => by rw [em _ _ (by omega)]; exact hV a g1 g2, fun n g1 g2 => by rw [em _ _ (by omega)]; exact hP n g1 g2, hB.cg rfl rfl (fun _ _ _ => rfl) (fun _ => rfl) (fun _ => rfl) (fun a j g1 g2 => em _ _ (by omega)) (fun i _ _ => em _ _ (by omega)) (by rw [em 68 103 (by omega)]; exact Int.le_refl _), fun n g1 g2 => ?_, ?_, fun q k a b hq => ?_, ?_, ?_⟩
    · unfold RS at hS ⊢
      rw [em 68 91 (by omega), em 68 92 (by omega), em 68 110 (by omega), em 68 111 (by omega), em 68 112 (by omega), em 68 113 (by omega), em 68 114 (by omega), em 68 120 (by omega), em 68 115 (by omega)]
      exact hS
    · rw [em _ _ (by omega), em _ _ (by omega)]
      obtain ⟨q1, q2, q3, q4⟩ := hQ n g1 g2
      exact ⟨q1, q2, q3, fun i v hv => by rw [em _ _ (by omega)]; exact q4 i v hv⟩
    · refine ⟨by rw [em 68 105 (by omega)]; exact hU.1, fun i v hv => ?_⟩
      rw [em 68 105 (by omega), em _ _ (by omega)]
      exact hU.2 i v hv
    · rw [em _ _ (by omega), em _ _ (by omega)]
      exact hN q k a b hq
    · unfold PT at hC ⊢
      rw [em 68 116 (by omega), em 68 125 (by omega)]
      exact hC
    · unfold RH at hH ⊢
      rw [em 68 103 (by omega)]
      exact hH
  · exact Or.inr ⟨g1.ms (mtb68 (by omega)), g2, by rw [ms_j (by decide)]; exact g3, by rw [ms_j (by decide)]; exact g4, by rw [ms_j (by decide)]; exact g5, by rw [ms_j (by decide)]; exact g6⟩
theorem gby_stop {f : Nat} (h : m 68 114 ≠ 0) : fl_X12_goesBy_0 p (f + 1) m = some (0, m) := by
  unfold fl_X12_goesBy_0
  simp only [lx_p]
  rw [if_neg h]
  split <;> rfl
theorem gby_r (R : RC m0 x G r ty ver rh rc) (hr : 0 ≤ rh ∧ rh ≤ x.1 0) : ∀ (n f : Nat) (i : Int) (s : TS) (m : MM), 0 ≤ i → i ≤ rh → x.1 0 - i < n → n ≤ f → RR m0 m x s rh E H → sg s 0 30 = 0 → (0 ≤ sg s 0 12 ∧ sg s 0 12 ≤ x.1 0) → m 68 126 = i → (rh < x.1 0 → sg (sPass x n i s) 0 30 = 0) → ∃ m', fl_X12_goesBy_0 (sg s 0 10) f m = some (0, m') ∧ RE m0 m' x (sPass x n i s) rh E H ∧ (sg (sPass x n i s) 0 30 = 0 → m' 68 126 = if sg (sPass x n i s) 0 13 < rh then sg (sPass x n i s) 0 13 else rh) := by
  intro n
  induction n with
  | zero => intro f i s m h0 h1 h2; omega
  | succ n ih =>
    intro f i s m h0 h1 h2 h3 h h30 h12 hi hns
    obtain ⟨f, rfl⟩ : ∃ g, f = g + 1 := ⟨f - 1, by omega⟩
    have R1 := R.to h.1
    have hNN := R.2.2.2.2.2.2.2.2.1
    have e13 : ∀ j : Int, sg (st s 0 13 j) 0 13 = j := fun j => by rw [st_g, if_pos ⟨rfl, rfl⟩]
    have e124 := R1.2.2.2.2.2.2.1.1
    have e114 : m 68 114 = 0 := by rw [h.2.1.2.2.2.2.2.2.1]; exact h30
    unfold fl_X12_goesBy_0
    simp only [lx_p]
    rw [hi, e124, e114, R1.1.1]
    by_cases c1 : i < rh
    · have hiN : i < x.1 0 := by omega
      rw [if_pos c1, if_pos rfl, bp_t (rkind R1 h0 hiN), bp_t (rx R1 h0 hiN)]
      have h87 : ∀ (M : MM) (S : TS), RR m0 M x S rh E H → sg S 0 30 = 0 → sg S 0 10 = sg s 0 10 → sg S 0 12 = sg s 0 12 → M 68 126 = i → (rh < x.1 0 → sg (sPass x n (i + 1) S) 0 30 = 0) → ∃ m', fj_X12_goesBy_87 (fl_X12_goesBy_0 (sg s 0 10) f) (sg s 0 10) M = some (0, m') ∧ RE m0 m' x (sPass x n (i + 1) S) rh E H ∧ (sg (sPass x n (i + 1) S) 0 30 = 0 → m' 68 126 = if sg (sPass x n (i + 1) S) 0 13 < rh then sg (sPass x n (i + 1) S) 0 13 else rh) := by
        intro M S q1 q2 q3 q4 q5 q6
        have hR2 : RR m0 (mset M 68 126 (i + 1)) x S rh E H := by
          rcases RE.p126 (v := i + 1) (Or.inl ⟨q2, q1⟩ : RE m0 M x S rh E H) with ⟨-, g⟩ | g
          · exact g
          · have := g.2.1; omega
        obtain ⟨m', z1, z2, z3⟩ := ih f (i + 1) S (mset M 68 126 (i + 1)) (by omega) (by omega) (by omega) (by omega) hR2 q2 (by rw [q4]; exact h12) ms_e q6
        rw [q3] at z1
        refine ⟨m', ?_, z2, z3⟩
        unfold fj_X12_goesBy_87
        rw [lx_p, q5, w32_id (by omega) (by omega), up_t]
        exact z1
      unfold sPass at hns ⊢
      rw [if_pos hiN, if_pos h30] at hns ⊢
      unfold fj_X12_goesBy_51
      simp only [lx_p]
      rw [R1.1.1, hi, bp_t (rkind R1 h0 hiN)]
      by_cases c2 : ek (x.2.1 i) = 17
      · rw [if_pos c2] at hns ⊢
        rw [if_pos c2, if_pos c2]
        by_cases c3 : sg s 0 10 < ex (x.2.1 i)
        · rw [if_pos c3]
          rw [if_pos c3]
          refine ⟨m, rfl, RE.s0 (Or.inl ⟨h30, h⟩) (by omega), fun _ => ?_⟩
          rw [e13, if_pos c1, hi]
        · rw [if_neg c3] at hns ⊢
          rw [if_neg c3]
          obtain ⟨m1, z, f1, f2, f3, f4, f5, f6⟩ := next_rr h R h12 h30
          have e126 : m1 68 126 = i := by rw [f6, ms_j (by decide)]; exact hi
          rw [bd_t f1, e126]
          by_cases c4 : nc x (sg s 0 12) < i
          · rw [if_pos c4] at hns ⊢
            have hzr : z < rh := f3.mpr (by omega)
            have hz := f4 hzr
            rw [if_pos (show z < i by omega)]
            obtain ⟨m2, z2, y1, y2, y3, y4, y5, y6⟩ := next_rr f2 R h12 h30
            have hz2 := y4 (y3.mpr (by omega))
            rw [bd_t y1]
            unfold fm_X12_differs
            rw [up_t, up_t, bd_t rfl]
            have hst := RE.stk (v := z2) y2
            have hst2 := RE.p126 (v := i + 1) hst
            rw [hz2] at hst2 ⊢
            have hps : sPass x n (i + 1) (sStuck s (nc x (sg s 0 12))) = st (sStuck s (nc x (sg s 0 12))) 0 13 (i + 1) := pass_stuck u_stuck (by omega)
            obtain ⟨f, rfl⟩ : ∃ g, f = g + 1 := ⟨f - 1, by omega⟩
            refine ⟨mset (mset (mset m2 68 114 1) 68 115 (nc x (sg s 0 12))) 68 126 (i + 1), ?_, ?_, fun g => absurd (u_pass _ _ _ g) u_stuck⟩
            · unfold fj_X12_goesBy_87
              rw [lx_p, show mset (mset m2 68 114 1) 68 115 (nc x (sg s 0 12)) 68 126 = i by rw [ms_j (by decide), ms_j (by decide), y6, ms_j (by decide)]; exact e126, w32_id (by omega) (by omega), up_t]
              exact gby_stop (by rw [ms_j (by decide), ms_j (by decide), ms_e]; decide)
            · rw [hps]
              exact hst2.s0 (by omega)
          · rw [if_neg c4] at hns ⊢
            have hnz : ¬ z < i := fun g => by
              have := f4 (by omega)
              omega
            rw [if_neg hnz]
            exact h87 m1 s f2 h30 rfl rfl e126 hns
      · rw [if_neg c2] at hns ⊢
        rw [if_neg c2, if_neg c2]
        exact h87 m s h h30 rfl rfl hi hns
    · rw [if_neg c1]
      have hie : i = rh := by omega
      by_cases cN : rh < x.1 0
      · obtain ⟨j, j1, j2⟩ := pass_ok (n + 1) i s (by omega) (by omega) (hns cN)
        rw [j2]
        refine ⟨m, rfl, RE.s0 (Or.inl ⟨h30, h⟩) (by omega), fun _ => ?_⟩
        rw [e13, if_neg (by omega), hi, hie]
      · have hp : sPass x (n + 1) i s = st s 0 13 i := by
          unfold sPass
          rw [if_neg (by omega)]
        rw [hp]
        refine ⟨m, rfl, RE.s0 (Or.inl ⟨h30, h⟩) (by omega), fun _ => ?_⟩
        rw [e13, if_neg (by omega), hi, hie]
end RF25
