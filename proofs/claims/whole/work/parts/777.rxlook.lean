/-! THE REFERENCE'S ENGINE: activities in a tick. -/
section RXU2
variable {m m' M : MM} {e e' e2 : ES} {a b i j k o r v w p t s x y n q A B N y3 y4 s0 : Int} {l : List Int} {c : Int → MM → Option (Int × MM)}
theorem mr_miss (hc : CN e) (p0 : 0 ≤ p) (p1 : p < e.1 8 2) (hr : 0 ≤ e.1 (8000 + p) 0 ∧ e.1 (8000 + p) 0 < e.1 7 2) : MR e (pMiss p v e) ∧ CN (pMiss p v e) := by
  have n8 := hc.2.1
  unfold pMiss
  split
  · exact ⟨(mr_eS (by omega) (by omega) (by omega) (by omega) (by omega)).tr (mr_eS (by omega) (by omega) (by omega) (by omega) (by omega)), cn_eS (cn_eS hc (by omega)) (by omega)⟩
  · have hc1 : CN (eS e (8000 + p) 5 2) := cn_eS hc (by omega)
    exact ⟨(mr_eS (by omega) (by omega) (by omega) (by omega) (by omega)).tr (mr_arr hc1 hr.1 (by rw [eS_a (by omega)]; exact hr.2)), hc1.arr hr.1⟩
theorem mr_lookA (hc : CN e) (p0 : 0 ≤ p) (p1 : p < e.1 8 2) (hr : 0 ≤ e.1 (8000 + p) 0 ∧ e.1 (8000 + p) 0 < e.1 7 2) : MR e (pLookA p e) ∧ CN (pLookA p e) := by
  have n8 := hc.2.1
  unfold pLookA
  split
  · split
    · have hc1 : CN (eS e (8000 + p) 5 2) := cn_eS hc (by omega)
      exact ⟨(mr_eS (by omega) (by omega) (by omega) (by omega) (by omega)).tr (mr_arr hc1 hr.1 (by rw [eS_a (by omega)]; exact hr.2)), hc1.arr hr.1⟩
    · exact ⟨MR.rf, hc⟩
  · split
    · exact mr_miss hc p0 p1 hr
    · exact ⟨MR.rf, hc⟩
theorem tms_eS (h : TmS e) (hc : CN e) (h7 : a ≠ 7) (h8 : a < 7000 ∨ 8000 ≤ a) : TmS (eS e a j v) := fun i i0 i1 => by
  have n7 := hc.1
  rw [eS_a (Ne.symm h7)] at i1
  obtain ⟨q1, q2, q3⟩ := h i i0 i1
  refine ⟨q1, q2, fun g hd => q3 g ?_⟩
  unfold Dead at hd ⊢
  rw [eS_a (by omega)] at hd
  exact hd
theorem tms_miss (h : TmS e) (hc : CN e) (p0 : 0 ≤ p) (p1 : p < e.1 8 2) (hr : 0 ≤ e.1 (8000 + p) 0) : TmS (pMiss p v e) := by
  have n8 := hc.2.1
  unfold pMiss
  split
  · exact tms_eS (tms_eS h hc (by omega) (by omega)) (cn_eS hc (by omega)) (by omega) (by omega)
  · exact (tms_eS h hc (by omega) (by omega)).arr (cn_eS hc (by omega)) hr
theorem tms_lookA (h : TmS e) (hc : CN e) (p0 : 0 ≤ p) (p1 : p < e.1 8 2) (hr : 0 ≤ e.1 (8000 + p) 0) : TmS (pLookA p e) := by
  have n8 := hc.2.1
  unfold pLookA
  split
  · split
    · exact (tms_eS h hc (by omega) (by omega)).arr (cn_eS hc (by omega)) hr
    · exact h
  · split
    · exact tms_miss h hc p0 p1 hr
    · exact h
theorem laStep (h : RXE m e) (hc : CN e) (hl : RLw e) (hA : AcW e p) (hG : WGlo e) (hf : RFw (pLookA p e)) (p0 : 0 ≤ p) (p1 : p < e.1 8 2) (f : Nat) : ∃ m', fl_X12_looksAtActivities_2 (f + 1) p m = fl_X12_looksAtActivities_2 f (p + 1) m' ∧ RXE m' (pLookA p e) ∧ SCR m m' := by
  have n8 := hc.2.1
  have n7 := hc.1
  have ht := hl.1
  obtain ⟨⟨k98, k99, k100, k101, k102, k103, k104, k108⟩, kd, kt⟩ := h.pa p p0 p1
  have hA0 := hA
  obtain ⟨⟨w1, wk, -, w4, w5, w6, -, w8, w9, -⟩, wr, wd⟩ := hA
  have e34 : m 68 34 = e.1 8 2 := h.ps.2.2.2.2.1
  have e0 := h.ps.1
  have k76 := h.pk _ wk.1 wk.2 2 (by decide) (by decide)
  have k77 := h.pk _ wk.1 wk.2 3 (by decide) (by decide)
  have k78 := h.pk _ wk.1 wk.2 4 (by decide) (by decide)
  rw [show (74 : Int) + 2 = 76 from rfl] at k76
  rw [show (74 : Int) + 3 = 77 from rfl] at k77
  rw [show (74 : Int) + 4 = 78 from rfl] at k78
  have gk := hG.2.2.2.2.2.1 _ wk.1 wk.2
  obtain ⟨K, hK⟩ : ∃ K, K = e.1 (8000 + p) 2 := ⟨_, rfl⟩
  rw [← hK] at k76 k77 k78 gk wk k100
  have wp : w32 (p + 1) = p + 1 := w32_id (by omega) (by omega)
  have wt4 : w32 (e.1 4 14 - e.1 (8000 + p) 4) = e.1 4 14 - e.1 (8000 + p) 4 := w32_id (by omega) (by omega)
  have wt8 : w32 (e.1 4 14 - e.1 (8000 + p) 8) = e.1 4 14 - e.1 (8000 + p) 8 := w32_id (by omega) (by omega)
  have wt9 : w32 (e.1 4 14 - e.1 (8000 + p) 9) = e.1 4 14 - e.1 (8000 + p) 9 := w32_id (by omega) (by omega)
  have p60 : 0 ≤ p ∧ p < 60 := by omega
  have w2x : e.1 (8000 + p) 5 = 0 → e.1 (8000 + p) 5 ≠ 2 := fun hh => by omega
  have n10 : e.1 (8000 + p) 5 = 1 → ¬ (e.1 (8000 + p) 5 = 0 ∧ e.1 (8000 + p) 6 = 0) := fun hh => by omega
  have e7g : (eS e (8000 + p) 5 2).1 7 2 = e.1 7 2 := eS_a (by omega)
  have hdg : e.1 (8000 + p) 5 ≠ 2 → ¬ Dead (eS e (8000 + p) 5 2) (e.1 (8000 + p) 0) := fun h5 hh => wd h5 (by
    unfold Dead at hh
    rw [eS_a (by omega)] at hh
    exact hh)
  have hcg : CN (eS e (8000 + p) 5 2) := cn_eS hc (by omega)
  have hlg : RLw (eS e (8000 + p) 5 2) := rl_eS hl (by omega) (by omega) (by omega) (by omega) (by omega)
  have lt9 : ¬ e.1 4 14 - e.1 (8000 + p) 9 < e.1 (64 + e.1 (8000 + p) 2) 4 → e.1 (64 + e.1 (8000 + p) 2) 4 ≤ e.1 4 14 - e.1 (8000 + p) 9 := fun hh => by omega
  have lt8 : ¬ e.1 4 14 - e.1 (8000 + p) 8 < e.1 (64 + e.1 (8000 + p) 2) 3 → e.1 (64 + e.1 (8000 + p) 2) 3 ≤ e.1 4 14 - e.1 (8000 + p) 8 := fun hh => by omega
  have lt4 : ¬ e.1 4 14 - e.1 (8000 + p) 4 < e.1 (64 + e.1 (8000 + p) 2) 2 → e.1 (64 + e.1 (8000 + p) 2) 2 ≤ e.1 4 14 - e.1 (8000 + p) 4 := fun hh => by omega
  rw [← hK] at lt9 lt8 lt4
  have hu : pLookA p e = if e.1 (8000 + p) 5 = 0 ∧ e.1 (8000 + p) 6 = 0 then (if late e (e.1 (64 + K) 2) (e.1 (8000 + p) 4) then pArr (e.1 (8000 + p) 0) 2 (e.1 (8000 + p) 1) 0 (eS e (8000 + p) 5 2) else e) else if e.1 (8000 + p) 5 = 1 ∧ (late e (e.1 (64 + K) 3) (e.1 (8000 + p) 8) ∨ late e (e.1 (64 + K) 4) (e.1 (8000 + p) 9)) then pMiss p 0 e else e := by rw [hK]; rfl
  rw [hu] at hf ⊢
  -- the end
  have h160 : ∀ y3 y4 s0 : Int, (y3 = 0 ∨ y3 = 1) → (y4 = 0 ∨ y4 = 1) → (s0 = 0 ∨ s0 = 1) → (y3 = 1 ↔ (e.1 (8000 + p) 5 = 0 ∧ e.1 (8000 + p) 6 = 0) ∧ late e (e.1 (64 + K) 2) (e.1 (8000 + p) 4)) → (y4 = 1 ↔ e.1 (8000 + p) 5 = 1 ∧ late e (e.1 (64 + K) 3) (e.1 (8000 + p) 8)) → (s0 = 1 ↔ e.1 (8000 + p) 5 = 1 ∧ late e (e.1 (64 + K) 4) (e.1 (8000 + p) 9)) → ∃ m', fj_X12_looksAtActivities_160 (fl_X12_looksAtActivities_2 f) p y3 y4 s0 m = fl_X12_looksAtActivities_2 f (p + 1) m' ∧ RXE m' (if e.1 (8000 + p) 5 = 0 ∧ e.1 (8000 + p) 6 = 0 then (if late e (e.1 (64 + K) 2) (e.1 (8000 + p) 4) then pArr (e.1 (8000 + p) 0) 2 (e.1 (8000 + p) 1) 0 (eS e (8000 + p) 5 2) else e) else if e.1 (8000 + p) 5 = 1 ∧ (late e (e.1 (64 + K) 3) (e.1 (8000 + p) 8) ∨ late e (e.1 (64 + K) 4) (e.1 (8000 + p) 9)) then pMiss p 0 e else e) ∧ SCR m m' := fun y3 y4 s0 hy3 hy4 hs0 i3 i4 i0 => by
    have h205 : e.1 (8000 + p) 5 = 1 → (late e (e.1 (64 + K) 3) (e.1 (8000 + p) 8) ∨ late e (e.1 (64 + K) 4) (e.1 (8000 + p) 9)) → ∃ m', fj_X12_looksAtActivities_205 (fl_X12_looksAtActivities_2 f) p m = fl_X12_looksAtActivities_2 f (p + 1) m' ∧ RXE m' (if e.1 (8000 + p) 5 = 0 ∧ e.1 (8000 + p) 6 = 0 then (if late e (e.1 (64 + K) 2) (e.1 (8000 + p) 4) then pArr (e.1 (8000 + p) 0) 2 (e.1 (8000 + p) 1) 0 (eS e (8000 + p) 5 2) else e) else if e.1 (8000 + p) 5 = 1 ∧ (late e (e.1 (64 + K) 3) (e.1 (8000 + p) 8) ∨ late e (e.1 (64 + K) 4) (e.1 (8000 + p) 9)) then pMiss p 0 e else e) ∧ SCR m m' := fun q1 q2 => by
      rw [if_neg (n10 q1), if_pos (show e.1 (8000 + p) 5 = 1 ∧ (late e (e.1 (64 + K) 3) (e.1 (8000 + p) 8) ∨ late e (e.1 (64 + K) 4) (e.1 (8000 + p) 9)) from ⟨q1, q2⟩)] at hf ⊢
      obtain ⟨m', g1, g2, g3⟩ := h.miss (v := 0) hc hl hf hA0 hG p0 p1 q1
      unfold fj_X12_looksAtActivities_205
      rw [bd_t g1, lx_p, wp]
      exact ⟨m', rfl, g2, g3⟩
    unfold fj_X12_looksAtActivities_160
    by_cases c3 : y3 = 0
    · rw [if_pos c3]
      have n3 : ¬ ((e.1 (8000 + p) 5 = 0 ∧ e.1 (8000 + p) 6 = 0) ∧ late e (e.1 (64 + K) 2) (e.1 (8000 + p) 4)) := fun hh => absurd (i3.mpr hh) (by rw [c3]; decide)
      by_cases c4 : y4 = 0
      · rw [if_pos c4]
        have n4 : ¬ (e.1 (8000 + p) 5 = 1 ∧ late e (e.1 (64 + K) 3) (e.1 (8000 + p) 8)) := fun hh => absurd (i4.mpr hh) (by rw [c4]; decide)
        by_cases c0 : s0 = 0
        · rw [if_pos c0, lx_p, wp]
          have n0 : ¬ (e.1 (8000 + p) 5 = 1 ∧ late e (e.1 (64 + K) 4) (e.1 (8000 + p) 9)) := fun hh => absurd (i0.mpr hh) (by rw [c0]; decide)
          refine ⟨m, rfl, ?_, SCR.rf⟩
          by_cases d1 : e.1 (8000 + p) 5 = 0 ∧ e.1 (8000 + p) 6 = 0
          · rw [if_pos d1, if_neg (fun hh => n3 ⟨d1, hh⟩)]
            exact h
          · rw [if_neg d1, if_neg (show ¬ (e.1 (8000 + p) 5 = 1 ∧ (late e (e.1 (64 + K) 3) (e.1 (8000 + p) 8) ∨ late e (e.1 (64 + K) 4) (e.1 (8000 + p) 9))) from fun hh => hh.2.elim (fun g => n4 ⟨hh.1, g⟩) fun g => n0 ⟨hh.1, g⟩)]
            exact h
        · rw [if_neg c0]
          have z := i0.mp (hs0.resolve_left c0)
          exact h205 z.1 (Or.inr z.2)
      · rw [if_neg c4]
        have z := i4.mp (hy4.resolve_left c4)
        exact h205 z.1 (Or.inl z.2)
    · rw [if_neg c3]
      have z := i3.mp (hy3.resolve_left c3)
      rw [if_pos z.1, if_pos z.2] at hf ⊢
      have h1 := h.ast (v := 2) hc p0 p1 (by decide)
      obtain ⟨m', g1, g2, g3⟩ := h1.arr2 hcg hlg hf wr.1 (by rw [e7g]; exact wr.2) (hdg (w2x z.1.1)) (by decide) (by decide) w1.1 w1.2 (by decide) (by decide)
      rw [gd_t p60, up_t, lx_p, ms_a (b := 98) (by decide), k98, lx_p, ms_a (b := 99) (by decide), k99, bd_t g1, lx_p, wp]
      exact ⟨m', rfl, g2, (SCR.ms (by decide) (by decide) (by decide) (by omega)).tr g3⟩
  have h114 : ∀ y3 s0 : Int, (y3 = 0 ∨ y3 = 1) → (s0 = 0 ∨ s0 = 1) → (y3 = 1 ↔ ((e.1 (8000 + p) 5 = 0 ∧ e.1 (8000 + p) 6 = 0) ∧ late e (e.1 (64 + K) 2) (e.1 (8000 + p) 4))) → (s0 = 1 ↔ (e.1 (8000 + p) 5 = 1 ∧ late e (e.1 (64 + K) 3) (e.1 (8000 + p) 8))) → ∃ m', fj_X12_looksAtActivities_114 (fl_X12_looksAtActivities_2 f) p K y3 s0 m = fl_X12_looksAtActivities_2 f (p + 1) m' ∧ RXE m' (if e.1 (8000 + p) 5 = 0 ∧ e.1 (8000 + p) 6 = 0 then (if late e (e.1 (64 + K) 2) (e.1 (8000 + p) 4) then pArr (e.1 (8000 + p) 0) 2 (e.1 (8000 + p) 1) 0 (eS e (8000 + p) 5 2) else e) else if e.1 (8000 + p) 5 = 1 ∧ (late e (e.1 (64 + K) 3) (e.1 (8000 + p) 8) ∨ late e (e.1 (64 + K) 4) (e.1 (8000 + p) 9)) then pMiss p 0 e else e) ∧ SCR m m' := fun y3 s0 hy3 hs0 i3 i4 => by
    unfold fj_X12_looksAtActivities_114
    rw [gd_t p60, lx_p, k102]
    by_cases d1 : e.1 (8000 + p) 5 = 1
    · rw [if_pos d1, gd_t wk, lx_p, k78]
      by_cases d2 : 0 < e.1 (64 + K) 4
      · rw [if_pos d2, lx_p, e0, lx_p, (kt d1).2, wt9]
        by_cases d3 : e.1 4 14 - e.1 (8000 + p) 9 < e.1 (64 + K) 4
        · rw [if_pos d3]
          exact h160 y3 s0 0 hy3 hs0 (Or.inl rfl) i3 i4 ⟨fun hh => absurd hh (by decide), fun hh => absurd d3 (Int.not_lt.mpr hh.2.2)⟩
        · rw [if_neg d3]
          exact h160 y3 s0 1 hy3 hs0 (Or.inr rfl) i3 i4 ⟨fun _ => ⟨d1, d2, lt9 d3⟩, fun _ => rfl⟩
      · rw [if_neg d2]
        exact h160 y3 s0 0 hy3 hs0 (Or.inl rfl) i3 i4 ⟨fun hh => absurd hh (by decide), fun hh => absurd hh.2.1 d2⟩
    · rw [if_neg d1]
      exact h160 y3 s0 0 hy3 hs0 (Or.inl rfl) i3 i4 ⟨fun hh => absurd hh (by decide), fun hh => absurd hh.1 d1⟩
  have h69 : ∀ s0 : Int, (s0 = 0 ∨ s0 = 1) → (s0 = 1 ↔ ((e.1 (8000 + p) 5 = 0 ∧ e.1 (8000 + p) 6 = 0) ∧ late e (e.1 (64 + K) 2) (e.1 (8000 + p) 4))) → ∃ m', fj_X12_looksAtActivities_69 (fl_X12_looksAtActivities_2 f) p K s0 m = fl_X12_looksAtActivities_2 f (p + 1) m' ∧ RXE m' (if e.1 (8000 + p) 5 = 0 ∧ e.1 (8000 + p) 6 = 0 then (if late e (e.1 (64 + K) 2) (e.1 (8000 + p) 4) then pArr (e.1 (8000 + p) 0) 2 (e.1 (8000 + p) 1) 0 (eS e (8000 + p) 5 2) else e) else if e.1 (8000 + p) 5 = 1 ∧ (late e (e.1 (64 + K) 3) (e.1 (8000 + p) 8) ∨ late e (e.1 (64 + K) 4) (e.1 (8000 + p) 9)) then pMiss p 0 e else e) ∧ SCR m m' := fun s0 hs0 i3 => by
    unfold fj_X12_looksAtActivities_69
    rw [gd_t p60, lx_p, k102]
    by_cases d1 : e.1 (8000 + p) 5 = 1
    · rw [if_pos d1, gd_t wk, lx_p, k77]
      by_cases d2 : 0 < e.1 (64 + K) 3
      · rw [if_pos d2, lx_p, e0, lx_p, (kt d1).1, wt8]
        by_cases d3 : e.1 4 14 - e.1 (8000 + p) 8 < e.1 (64 + K) 3
        · rw [if_pos d3]
          exact h114 s0 0 hs0 (Or.inl rfl) i3 ⟨fun hh => absurd hh (by decide), fun hh => absurd d3 (Int.not_lt.mpr hh.2.2)⟩
        · rw [if_neg d3]
          exact h114 s0 1 hs0 (Or.inr rfl) i3 ⟨fun _ => ⟨d1, d2, lt8 d3⟩, fun _ => rfl⟩
      · rw [if_neg d2]
        exact h114 s0 0 hs0 (Or.inl rfl) i3 ⟨fun hh => absurd hh (by decide), fun hh => absurd hh.2.1 d2⟩
    · rw [if_neg d1]
      exact h114 s0 0 hs0 (Or.inl rfl) i3 ⟨fun hh => absurd hh (by decide), fun hh => absurd hh.1 d1⟩
  have no : ¬ ((e.1 (8000 + p) 5 = 0 ∧ e.1 (8000 + p) 6 = 0) ∧ late e (e.1 (64 + K) 2) (e.1 (8000 + p) 4)) → ∃ m', fj_X12_looksAtActivities_69 (fl_X12_looksAtActivities_2 f) p K 0 m = fl_X12_looksAtActivities_2 f (p + 1) m' ∧ RXE m' (if e.1 (8000 + p) 5 = 0 ∧ e.1 (8000 + p) 6 = 0 then (if late e (e.1 (64 + K) 2) (e.1 (8000 + p) 4) then pArr (e.1 (8000 + p) 0) 2 (e.1 (8000 + p) 1) 0 (eS e (8000 + p) 5 2) else e) else if e.1 (8000 + p) 5 = 1 ∧ (late e (e.1 (64 + K) 3) (e.1 (8000 + p) 8) ∨ late e (e.1 (64 + K) 4) (e.1 (8000 + p) 9)) then pMiss p 0 e else e) ∧ SCR m m' := fun hh => h69 0 (Or.inl rfl) ⟨fun g => absurd g (by decide), fun g => absurd g hh⟩
  have u2 : fl_X12_looksAtActivities_2 (f + 1) p m = if e.1 (8000 + p) 5 = 0 then (if e.1 (8000 + p) 6 = 0 then (if 0 < e.1 (64 + K) 2 then (if e.1 4 14 - e.1 (8000 + p) 4 < e.1 (64 + K) 2 then fj_X12_looksAtActivities_69 (fl_X12_looksAtActivities_2 f) p K 0 m else fj_X12_looksAtActivities_69 (fl_X12_looksAtActivities_2 f) p K 1 m) else fj_X12_looksAtActivities_69 (fl_X12_looksAtActivities_2 f) p K 0 m) else fj_X12_looksAtActivities_69 (fl_X12_looksAtActivities_2 f) p K 0 m) else fj_X12_looksAtActivities_69 (fl_X12_looksAtActivities_2 f) p K 0 m := by
    conv => lhs; unfold fl_X12_looksAtActivities_2
    rw [lx_p, e34, if_pos p1, gd_t p60, lx_p, k100, lx_p, k102, lx_p, k103, gd_t wk, lx_p, k76, lx_p, e0, lx_p, k104, wt4]
  by_cases d1 : e.1 (8000 + p) 5 = 0
  · by_cases d2 : e.1 (8000 + p) 6 = 0
    · by_cases d3 : 0 < e.1 (64 + K) 2
      · by_cases d4 : e.1 4 14 - e.1 (8000 + p) 4 < e.1 (64 + K) 2
        · rw [u2, if_pos d1, if_pos d2, if_pos d3, if_pos d4]
          exact no fun hh => absurd d4 (Int.not_lt.mpr hh.2.2)
        · rw [u2, if_pos d1, if_pos d2, if_pos d3, if_neg d4]
          exact h69 1 (Or.inr rfl) ⟨fun _ => ⟨⟨d1, d2⟩, d3, lt4 d4⟩, fun _ => rfl⟩
      · rw [u2, if_pos d1, if_pos d2, if_neg d3]
        exact no fun hh => d3 hh.2.1
    · rw [u2, if_pos d1, if_neg d2]
      exact no fun hh => d2 hh.1.2
  · rw [u2, if_neg d1]
    exact no fun hh => d1 hh.1.1
theorem mr_laL : ∀ (n : Nat) (i : Int) (e : ES), PW e → 0 ≤ i → 0 ≤ e.1 4 14 ∧ e.1 4 14 < 1000000 → MR e (pLaL n i e) ∧ CN (pLaL n i e) ∧ (TmS e → TmS (pLaL n i e)) := by
  intro n
  induction n with
  | zero => intro i e h _ _; exact ⟨MR.rf, h.1.2, id⟩
  | succ n ih =>
    intro i e h i0 ht
    unfold pLaL
    by_cases cc : i < e.1 8 2
    · rw [if_pos cc]
      have hA := h.2.2.1 i i0 cc
      obtain ⟨g1, g2⟩ := mr_lookA h.1.2 i0 cc hA.2.1
      have st := lookA_st h i0 cc
      obtain ⟨u1, u2, u3⟩ := ih (i + 1) _ (h.lookA i0 cc ht) (by omega) (by rw [st.2.1]; exact ht)
      exact ⟨g1.tr u1, u2, fun hT => u3 (tms_lookA hT h.1.2 i0 cc hA.2.1.1)⟩
    · rw [if_neg cc]
      exact ⟨MR.rf, h.1.2, id⟩
theorem laLr : ∀ (n f : Nat) (i : Int) (m : MM) (e : ES), RXE m e → PW e → RLw e → RFw (pLaL n i e) → 0 ≤ i → e.1 8 2 < i + n → 0 < n → n ≤ f → ∃ m', fl_X12_looksAtActivities_2 f i m = some (0, m') ∧ RXE m' (pLaL n i e) ∧ SCR m m' := by
  intro n
  induction n with
  | zero => intro f i m e h hP hl hf i0 i1 hn; omega
  | succ n ih =>
    intro f i m e h hP hl hf i0 i1 hn h2
    obtain ⟨f, rfl⟩ : ∃ g, f = g + 1 := ⟨f - 1, by omega⟩
    have hu : pLaL (n + 1) i e = if i < e.1 8 2 then pLaL n (i + 1) (pLookA i e) else e := rfl
    rw [hu] at hf ⊢
    by_cases cc : i < e.1 8 2
    · rw [if_pos cc] at hf ⊢
      have hA := h.pa
      have hAc := hP.2.2.1 i i0 cc
      have st := lookA_st hP i0 cc
      have hP1 := hP.lookA i0 cc hl.1
      obtain ⟨g1, g2⟩ := mr_lookA hP.1.2 i0 cc hAc.2.1
      obtain ⟨u1, u2, u3⟩ := mr_laL n (i + 1) (pLookA i e) hP1 (by omega) (by rw [st.2.1]; exact hl.1)
      obtain ⟨m1, v1, v2, v3⟩ := laStep h hP.1.2 hl hAc hP.1.1 (hf.bk u1) i0 cc f
      obtain ⟨m', w1, w2, w3⟩ := ih f (i + 1) m1 _ v2 hP1 (g1.2.2 hl) hf (by omega) (by rw [st.2.2.1 8 (by decide) (by decide)]; omega) (by omega) (by omega)
      exact ⟨m', v1.trans w1, w2, v3.tr w3⟩
    · rw [if_neg cc]
      have e34 : m 68 34 = e.1 8 2 := h.ps.2.2.2.2.1
      unfold fl_X12_looksAtActivities_2
      rw [lx_p, e34, if_neg cc]
      exact ⟨m, rfl, h, SCR.rf⟩
end RXU2
