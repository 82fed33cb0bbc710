/-! THE ROOM: what addRun leaves: the new run's row is as it was made. -/
section FRS
variable {m m' m1 : MM} {a b e h j t v x z : Int} {W : List (Int × Int × Int)}
def FRE (z h x t : Int) (m : MM) : Prop := Fix m ∧ (okc m z 7 ∧ okc m h 3 ∧ okc m x 6 ∧ okc m t 108 ∧ 163 ≤ z) ∧ m z 16 = h ∧ m h 0 = x ∧ m x 0 = t ∧ m x 1 = 0 ∧ (∀ j, 0 ≤ j → m t j = 0) ∧ m t (-2) = 1
theorem FRE.up (F : FRE z h x t m) (em : m' = mset m z j v) (j0 : 0 ≤ j) (j1 : j ≠ 16) : FRE z h x t m' := by
  obtain ⟨f1, ⟨f2, f3, f4, f5, f6⟩, g1, g2, g3, g4, g5, g6⟩ := F
  have hx := ext_up em f2.1 j0
  have n1 : h ≠ z := okc_ap f3 f2 (by decide)
  have n2 : x ≠ z := okc_ap f4 f2 (by decide)
  have n3 : t ≠ z := okc_ap f5 f2 (by decide)
  refine ⟨by rw [em]; exact fx_new f1 f6 j0, ⟨hx.ok f2, hx.ok f3, hx.ok f4, hx.ok f5, f6⟩, ?_, ?_, ?_, ?_, fun i i0 => ?_, ?_⟩
  · rw [em, ms_j (Ne.symm j1)]; exact g1
  · rw [em, ms_a n1]; exact g2
  · rw [em, ms_a n2]; exact g3
  · rw [em, ms_a n2]; exact g4
  · rw [em, ms_a n3]; exact g5 i i0
  · rw [em, ms_a n3]; exact g6
theorem FRE.nw {kd ln : Int} (F : FRE z h x t m) (em : m' = mnew m kd ln) : FRE z h x t m' := by
  obtain ⟨f1, ⟨f2, f3, f4, f5, f6⟩, g1, g2, g3, g4, g5, g6⟩ := F
  have hx := ext_nw f1 em
  have k : ∀ b i : Int, b < m 0 0 → 4 ≤ b → m' b i = m b i := fun b i h1 h2 => by rw [em]; exact mn_o (by omega) (by omega)
  refine ⟨by rw [em]; exact fx_mnew f1, ⟨hx.ok f2, hx.ok f3, hx.ok f4, hx.ok f5, f6⟩, ?_, ?_, ?_, ?_, fun i i0 => ?_, ?_⟩
  · rw [k _ _ f2.2.1 f2.1]; exact g1
  · rw [k _ _ f3.2.1 f3.1]; exact g2
  · rw [k _ _ f4.2.1 f4.1]; exact g3
  · rw [k _ _ f4.2.1 f4.1]; exact g4
  · rw [k _ _ f5.2.1 f5.1]; exact g5 i i0
  · rw [k _ _ f5.2.1 f5.1]; exact g6
theorem FRE.fr (F : FRE z h x t m) (f : Fr W e m m') (he : e ≠ z ∧ e ≠ h ∧ e ≠ x ∧ e ≠ t) (hW : (W.all fun w => decide (w.1 = 9) || (decide (w.1 = 1) && decide (w.2.1 ≠ 7 ∧ w.2.1 ≠ 3 ∧ w.2.1 ≠ 6 ∧ w.2.1 ≠ 108))) = true) : FRE z h x t m' := by
  obtain ⟨f1, ⟨f2, f3, f4, f5, f6⟩, g1, g2, g3, g4, g5, g6⟩ := F
  have hx := f.ext
  have k : ∀ {c : Nat} {b : Int} (i : Int), okc m b c → (c = 7 ∨ c = 3 ∨ c = 6 ∨ c = 108) → b ≠ e → 0 ≤ i → m' b i = m b i := fun {c b} i ok hc hb hi => f.2.2.2.1 b i ok.1 ok.2.1 hi fun hw => by
    rcases hw with hw | ⟨w, w1, w2, w3⟩
    · exact hb hw
    · have h1 := List.all_eq_true.mp hW w w1
      simp only [Bool.or_eq_true, Bool.and_eq_true, decide_eq_true_eq] at h1
      have h2 := ok.2.2
      rcases w2 with w2 | w2 | w2
      · omega
      · have h3 := w2.2
        rw [h2] at h3
        omega
      · omega
  refine ⟨f.fix, ⟨hx.ok f2, hx.ok f3, hx.ok f4, hx.ok f5, f6⟩, ?_, ?_, ?_, ?_, fun i i0 => ?_, ?_⟩
  · rw [k _ f2 (by omega) (Ne.symm he.1) (by decide)]; exact g1
  · rw [k _ f3 (by omega) (Ne.symm he.2.1) (by decide)]; exact g2
  · rw [k _ f4 (by omega) (Ne.symm he.2.2.1) (by decide)]; exact g3
  · rw [k _ f4 (by omega) (Ne.symm he.2.2.1) (by decide)]; exact g4
  · rw [k _ f5 (by omega) (Ne.symm he.2.2.2) i0]; exact g5 i i0
  · rw [(hx.2 _ f5.1 f5.2.1).2]; exact g6
/-- another row -/
theorem FRE.row {y rz : Int} {m2 : MM} (F : FRE z h x t m) (ey : y = m 0 0) (em : m1 = mnew m 6 3) (hc : fm_X5_init y m1 = some (rz, m2)) : FRE z h x t m2 := by
  have F1 := F.nw em
  have f1 := F.1
  have ok := okc_nwF (c := 6) f1 ey em
  obtain ⟨-, ⟨f2, f3, f4, f5, -⟩, -⟩ := F
  exact F1.fr (fw_X5_init F1.1 ok hc) ⟨by have := f2.2.1; omega, by have := f3.2.1; omega, by have := f4.2.1; omega, by have := f5.2.1; omega⟩ (by decide +kernel)
end FRS
