/-! WHAT IS LEFT. -/
theorem left (xs : List Int32) (h : xs.length ≤ 3584) : LeftR xs := left_all h
theorem law_run2 {xs : List Int32} (h : LeftR xs) : ∃ (N n : Nat) (Sf : QS), q_run (q_pc qT (some xs) N 200) qM_L_law (some xs) n 0 [(0, .ref 0)] [] ([], 0, 0) = some (.inl (some (.int 1)), Sf) ∧ Sf.2.1 ≤ 570785 ∧ Sf.2.2 ≤ 7383750 := by
  obtain ⟨rm, h1, h2, h3⟩ := h
  have hg : Go xs 200 qM_L_law 0 [(0, .ref 0)] [] ([], 0, 0) (fun o S' => o = .inl (some (.int 1)) ∧ S'.2.1 ≤ 570785 ∧ S'.2.2 ≤ 7383750) := by
    refine q_to_go ?_ 60 0 _ _ _ law_mid
    refine ol_L_law_23 (mb := mm0) (by decide) (fun _ o S1 hR ho => ?_) BIG (Ext.rf _) h1 mm0_rp (v0 := .ref 0) (v1 := .ref 4) (v2 := .ref 68) (v3 := .ref 162) (v4 := .int 0) rfl rfl rfl (Or.inr ⟨4, rfl, rfl, by decide⟩) rfl (Or.inr ⟨68, rfl, rfl, by decide⟩) rfl (Or.inr ⟨162, rfl, rfl, by decide⟩) rfl ⟨0, rfl, rfl⟩
    obtain ⟨v, rfl, x, rfl, hx⟩ := (show ∃ v, o = .inl (some v) ∧ q_is 0 v 1 from ho)
    have hx1 : x = 1 := Int32.toInt_inj.mp hx
    subst hx1
    obtain ⟨g1, g2, g3, -⟩ := hR.1
    exact ⟨rfl, by omega, by omega⟩
  obtain ⟨n, k, o, S', g1, rfl, g2, g3⟩ := hg
  exact ⟨n, k, S', g1, g2, g3⟩
theorem law_every {xs : List Int32} (h : xs.length ≤ 3584) : ∃ (N n : Nat) (Sf : QS), q_run (q_pc qT (some xs) N 200) qM_L_law (some xs) n 0 [(0, .ref 0)] [] ([], 0, 0) = some (.inl (some (.int 1)), Sf) ∧ Sf.2.1 ≤ 570785 ∧ Sf.2.2 ≤ 7383750 := law_run2 (left xs h)
