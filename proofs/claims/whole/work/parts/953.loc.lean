/-! THE LAW: how many objects there are at its end. -/
section LOCC
variable {xs : List Int32} {g : Int → Int → Int}
theorem oc00 (hg : GOK g) : OWk g 0 mm0 := by
  obtain ⟨-, -, -, -, -, -, -, -, f9⟩ := mm0_f
  have hl := mm0_len
  have hs : ∀ q : Int, isLs q → mm0 q 2 = 0 := fun q hq => by
    unfold isLs at hq
    rcases hq with rfl | rfl | rfl | rfl | rfl | rfl | rfl | rfl
    · exact (f9 0).2.2.2.2.2
    · exact (f9 1).2.2.2.2.2
    · exact (f9 2).2.2.2.2.2
    · exact (f9 3).2.2.2.2.2
    · exact (f9 0).2.2.2.1
    · exact (f9 1).2.2.2.1
    · exact (f9 2).2.2.2.1
    · exact (f9 3).2.2.2.1
  refine Or.inr ⟨fun q hq => by rw [hs q hq]; decide, ?_⟩
  have h0 : sm (cwt g mm0) (mm0 0 0).toNat = sm (fun _ => 0) (mm0 0 0).toNat := sm_ext fun i i0 i1 => by
    unfold cwt
    rw [if_pos (by omega)]
  rw [h0, sm_0]
  have e1 : LSg g mm0 = 0 := by
    unfold LSg
    rw [hs 7 (by unfold isLs; omega), hs 8 (by unfold isLs; omega), hs 9 (by unfold isLs; omega), hs 10 (by unfold isLs; omega), hs 49 (by unfold isLs; omega), hs 53 (by unfold isLs; omega), hs 57 (by unfold isLs; omega), hs 61 (by unfold isLs; omega)]
    simp only [Int.mul_zero, Int.add_zero]
  rw [e1]
  decide
theorem law_oc (h : xs.length ≤ 3584) : ∃ rm : MM, fl_L_law_23 xs BIG 0 mm0 = some (1, rm) ∧ ∀ g : Int → Int → Int, GOK g → OWk g (512 * g 99 0) rm := by
  obtain ⟨k, rm, e, ⟨h1, h2, h3, h5⟩, h4⟩ := law_loop (xs := xs) (P := fun k m e => k ≤ 512 ∧ RLm m e ∧ PIv k e ∧ ∀ g : Int → Int → Int, GOK g → OWk g ((k : Int) * g 99 0) m) h (fun k f m e hP hk => by
    obtain ⟨p1, p2, p3, p4⟩ := hP
    obtain ⟨m', e', ⟨g1, g4⟩, g2, g3⟩ := sc_all (f := f) (y := 7 * (k : Int)) p2 p3 (by omega) h ⟨by omega, hk⟩
    refine ⟨m', e', g1, by omega, g2, g3, fun g hg => (g4 g _ hg (p4 g hg)).mono ?_⟩
    rw [show (((k + 1 : Nat)) : Int) = (k : Int) + 1 by omega, Int.add_mul, Int.one_mul]
    exact Int.le_refl _) 512 BIG 0 mm0 e00 ⟨by omega, ⟨ow00, ad00, ce00, rx00, p00⟩, pi00, fun g hg => (oc00 hg).mono (by
      rw [show (((0 : Nat)) : Int) = 0 from rfl, Int.zero_mul]
      exact Int.le_refl _)⟩ (by omega) (BIG_g (by decide)) (by decide)
  exact ⟨rm, h4, fun g hg => (h5 g hg).mono (Int.mul_le_mul_of_nonneg_right (by omega) (hg.1 99 0))⟩
/-- the law's function comes to 1, within the room that the statement gives -/
def LeftR (xs : List Int32) : Prop := ∃ rm : MM, fl_L_law_23 xs BIG 0 mm0 = some (1, rm) ∧ rm 0 0 ≤ 545024 ∧ rm 0 1 ≤ 7383750
/-- what is left: the sum of what is there, and how many there are is known -/
theorem left_oc (hr : ∀ (k : Nat) (rm : MM) (e : ES), k ≤ 512 → RLm rm e → PIv k e → (∀ g : Int → Int → Int, GOK g → OWk g (512 * g 99 0) rm) → GI 1 0 (3216562 + 512) rm → sm (wt 1 0 rm) (rm 0 0).toNat ≤ 4166676 ∧ sm (wt 0 1 rm) (rm 0 0).toNat ≤ 544349) (h : xs.length ≤ 3584) : LeftR xs := by
  obtain ⟨k, rm, e, h1, h2, h3, h4, h5, h6⟩ := law_gi (fun k m e p hk R hI => sbh R hI (by omega)) h
  obtain ⟨rm', q1, q2⟩ := law_oc h
  have er : rm' = rm := by
    rw [h1] at q1
    exact (congrArg Prod.snd (Option.some.inj q1)).symm
  rw [er] at q2
  obtain ⟨u1, u2⟩ := hr k rm e h2 h3 h4 q2 h5
  have v1 := h5.2
  have v2 := h6.2
  exact ⟨rm, h1, by omega, by omega⟩
end LOCC
