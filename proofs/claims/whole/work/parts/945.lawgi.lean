/-! THE LAW, with the room's inequality at its end (setBack: with what is asked of addRun). -/
section LALG
variable {xs : List Int32}
theorem law_gi (hSB : ∀ (k : Nat) (m : MM) (e : ES) (p : Int), k ≤ 511 → RLm m e → PIv k e → SBh p m) (h : xs.length ≤ 3584) : ∃ (k : Nat) (rm : MM) (e : ES), fl_L_law_23 xs BIG 0 mm0 = some (1, rm) ∧ k ≤ 512 ∧ RLm rm e ∧ PIv k e ∧ GI 1 0 (3216562 + 512) rm ∧ GI 0 1 (163 + 512) rm := by
  obtain ⟨k, rm, e, ⟨h1, h2, h3, h5, h6⟩, h4⟩ := law_loop (xs := xs) (P := fun k m e => k ≤ 512 ∧ RLm m e ∧ PIv k e ∧ GI 1 0 (3216562 + k) m ∧ GI 0 1 (163 + k) m) h (fun k f m e hP hk => by
    obtain ⟨p1, p2, p3, p4, p5⟩ := hP
    obtain ⟨m', e', ⟨g1, g4⟩, g2, g3⟩ := sg_all (f := f) (y := 7 * (k : Int)) (fun _ => hSB k m e _ (by omega) p2 p3) p2 p3 (by omega) h ⟨by omega, hk⟩
    exact ⟨m', e', g1, by omega, g2, g3, (g4 1 0 _ (by decide) (by decide) p4).mono (by omega), (g4 0 1 _ (by decide) (by decide) p5).mono (by omega)⟩) 512 BIG 0 mm0 e00 ⟨by omega, ⟨ow00, ad00, ce00, rx00, p00⟩, pi00, (gi00 (al := 1) (be := 0) (by decide) (by decide)).mono (by omega), (gi00 (al := 0) (be := 1) (by decide) (by decide)).mono (by omega)⟩ (by omega) (BIG_g (by decide)) (by decide)
  exact ⟨k, rm, e, h4, h1, h2, h3, h5.mono (by omega), h6.mono (by omega)⟩
/-- what is left: addRun's new row; and the sum of what is there -/
theorem left_gi (hSB : ∀ (k : Nat) (m : MM) (e : ES) (p : Int), k ≤ 511 → RLm m e → PIv k e → SBh p m) (hr : ∀ (k : Nat) (rm : MM) (e : ES), k ≤ 512 → RLm rm e → PIv k e → GI 1 0 (3216562 + 512) rm → GI 0 1 (163 + 512) rm → sm (wt 1 0 rm) (rm 0 0).toNat ≤ 4243970 ∧ sm (wt 0 1 rm) (rm 0 0).toNat ≤ 544349) (h : xs.length ≤ 3584) : Left xs := by
  obtain ⟨k, rm, e, h1, h2, h3, h4, h5, h6⟩ := law_gi hSB h
  obtain ⟨u1, u2⟩ := hr k rm e h2 h3 h4 h5 h6
  have v1 := h5.2
  have v2 := h6.2
  exact ⟨rm, h1, by omega, by omega⟩
end LALG
