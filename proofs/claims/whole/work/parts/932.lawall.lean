/-! THE LAW, but for the room: every script is gone through to its end, and the answer is 1. -/
section LALL
variable {xs : List Int32}
theorem law_all (h : xs.length ≤ 3584) : ∃ (k : Nat) (rm : MM) (e : ES), fl_L_law_23 xs BIG 0 mm0 = some (1, rm) ∧ k ≤ 512 ∧ RLm rm e ∧ PIv k e := by
  obtain ⟨k, rm, e, ⟨h1, h2, h3⟩, h4⟩ := law_loop (xs := xs) (P := fun k m e => k ≤ 512 ∧ RLm m e ∧ PIv k e) h (fun k f m e hP hk => by
    obtain ⟨p1, p2, p3⟩ := hP
    obtain ⟨m', e', g1, g2, g3⟩ := st_all (f := f) (y := 7 * (k : Int)) p2 p3 (by omega) h ⟨by omega, hk⟩
    exact ⟨m', e', g1, by omega, g2, g3⟩) 512 BIG 0 mm0 e00 ⟨by omega, ⟨ow00, ad00, ce00, rx00, p00⟩, pi00⟩ (by omega) (BIG_g (by decide)) (by decide)
  exact ⟨k, rm, e, h4, h1, h2, h3⟩
/-- what is left is the room alone -/
theorem left_of (h : xs.length ≤ 3584) (hr : ∀ (k : Nat) (rm : MM) (e : ES), fl_L_law_23 xs BIG 0 mm0 = some (1, rm) → k ≤ 512 → RLm rm e → PIv k e → rm 0 0 ≤ 545024 ∧ rm 0 1 ≤ 7461044) : Left xs := by
  obtain ⟨k, rm, e, h1, h2, h3, h4⟩ := law_all h
  exact ⟨rm, h1, hr k rm e h1 h2 h3 h4⟩
end LALL
