/-! THE TELLING, plain: how much is new at most, all of it. -/
section NWC
variable {x : CX} {s s' s0 s1 s2 S : TS} {B : Int} {a b c d e i j v k h l w p r t o q u kd lim m N ω κ γ δ : Int} {F T Z : Prop} {E : Int → Ev}
/-- one arrival's news, where there were none -/
theorem nw_first (hC : CXX x) (hP : BP x s B) (hj : JJ x False False s) (hg : goes s = true) (i0 : sg s 0 11 ≤ i) (i1 : i < x.1 0) (hi7 : ek (x.2.1 i) ≤ 7) (h30 : sg (sTake x i s) 0 30 = 0) (hn : sn s = []) (he : EnL (sn (sTake x i s))) : nl (sTake x i s) ≤ 87 := by
  have h1 := (pz_take (Z := True) (pc11 (x := x)) trivial pd11 hC hP hj hg i0 i1 hi7 h30).1
  have h2 := (up_take hC hP i0 i1 hi7).2.1
  have h3 := mono12 hC hP i0 i1 hi7
  have hk : nK f11 1 (fun _ => 0) 1 s (ek (x.2.1 i)) (ex (x.2.1 i)) ≤ 13 := by
    unfold nK
    split
    · show (1 : Int) - 1 ≤ 13; decide
    · split
      · decide
      · split
        · decide
        · split
          · decide
          · show (0 : Int) ≤ 13; decide
  have h4 := iE_mn (g := g11) (E := x.2.1) (fun r k a b => (g11_nn (r := r) (k := k) (a := a) (b := b)).1) ((sg (sTake x i s) 0 12).toNat - (sg s 0 12).toNat) (sg s 0 12).toNat
  rw [show (sg s 0 12).toNat + ((sg (sTake x i s) 0 12).toNat - (sg s 0 12).toNat) = (sg (sTake x i s) 0 12).toNat by omega] at h4
  have h5 := (pF_b01 (s := sTake x i s) (f := f11) (fun _ _ _ => by show (0 : Int) ≤ 1 ∧ (1 : Int) ≤ 1; decide) 12 0).1
  have h6 := (pF_b01 (s := s) (f := f11) (fun _ _ _ => by show (0 : Int) ≤ 1 ∧ (1 : Int) ≤ 1; decide) 12 0).2
  have h7 := iL_11 (sn (sTake x i s)) (x.1 0) he
  have h8 : iL g11 (x.1 0) (sn s) = 0 := by rw [hn]; rfl
  unfold PZ pI at h1
  rw [h8, Int.zero_mul, Int.zero_mul, Int.one_mul, Int.one_mul] at h1
  show ((sn (sTake x i s)).length : Int) ≤ 87
  omega
theorem en_take (hC : CXX x) (hP : BP x s B) (hg : goes s = true) (i0 : sg s 0 11 ≤ i) (i1 : i < x.1 0) (hi7 : ek (x.2.1 i) ≤ 7) (hp : EnL (sn s) ∧ (sg s 0 9 = 0 → NEn (sn s))) : EnL (sn (sTake x i s)) ∧ (sg (sTake x i s) 0 9 = 0 → NEn (sn (sTake x i s))) := by
  have h := fi_taken (fi_en hC.2.2.2.2.1) hC hP i0 i1 hi7 ((fi_en (x := x) hC.2.2.2.2.1).2.2.2.2 s hg hp)
  rw [take_d, (pass_n _ _ _).1, (pass_n _ _ _).2]
  have e9 : ∀ v : Int, sg (st (sTaken x i s) 0 10 v) 0 9 = sg (sTaken x i s) 0 9 := fun v => by rw [st_g, if_neg (by omega)]
  rw [e9]
  exact h
theorem nb_step (hC : CXX x) (hx : HLn x) (hP : BP x s B) (hg : goes s = true) (i0 : sg s 0 11 ≤ i) (i1 : i < x.1 0) (hi7 : ek (x.2.1 i) ≤ 7) (hi : i = na x (sg s 0 11)) (h30 : sg (sTake x i s) 0 30 = 0) (hp : NBx x s) : NBx x (sTake x i s) := by
  obtain ⟨p1, p2, p3, p4⟩ := hp
  have q1 := ln_step hC hx hP hg i0 i1 hi7 hi h30 p1
  have hf : first s < 0 := p1.1.2.resolve_right (fun h => h hg)
  have h11 := hP.2.2.2.2.1
  have hm12 := mono12 hC hP i0 i1 hi7
  have e11 := take_11 hC hP i0 i1 hi7 h30
  have s10 := p1.2.2.2.1.2.2
  have s10' := q1.2.2.2.1.2.2
  have hmn := cA_mn (E := x.2.1) ((i + 1).toNat - (sg s 0 11).toNat) (sg s 0 11).toNat
  rw [show (sg s 0 11).toNat + ((i + 1).toNat - (sg s 0 11).toNat) = (i + 1).toNat by omega] at hmn
  rw [e11] at s10'
  have hn' : sg s 0 10 < x.1 1 → sn (sTake x i s) = [] := fun h => nil_take hC hP i0 i1 hi7 (p3 h) h
  have q2 := en_take hC hP hg i0 i1 hi7 p2
  have hh := (BP.take hC hP i0 i1 hi7).1.1.2.2.2.2.2.2.2.1
  refine ⟨q1, q2, fun h => hn' (by omega), ?_⟩
  by_cases hfr : far1 x s
  · rcases p4 with p4 | ⟨s1, a1, a2, a3, a4⟩
    · exact absurd hfr p4
    · exact Or.inr ⟨s1, a1, ⟨a2.1, by omega⟩, a3, sg2_step hC hx hP hg i0 i1 hi7 hi h30 ⟨p1.1.1.1, fun _ => hfr.1, fun h => h.elim, p1.1.1.2.2.2⟩ hf a4⟩
  · by_cases hfs : far1 x (sTake x i s)
    · have hsn : sn s = [] ∨ sg s 0 10 < x.1 1 := by
        by_cases c : sg s 0 10 < x.1 1
        · exact Or.inr c
        · refine Or.inl (Classical.byContradiction fun hh => hfr ⟨p1.1.1.1 hh, by omega⟩)
      have hs0 : sn s = [] := hsn.elim id p3
      refine Or.inr ⟨sTake x i s, ⟨hfs, by rw [e11, ← s10']; exact hfs.2⟩, ⟨nw_first hC hP p1.1.1 hg i0 i1 hi7 h30 hs0 q2.1, Int.le_refl _⟩, hh, sg2_rf (by rw [e11]; omega)⟩
    · exact Or.inl hfs
theorem nb00 (hC : CXX x) (hx : HLn x) (h2 : x.1 2 ≤ x.1 1) : NBx x s00 := by
  refine ⟨ln00 hC hx h2, ⟨Or.inl (fun z hz => absurd hz (by simp [sn, s00])), fun _ z hz => absurd hz (by simp [sn, s00])⟩, fun _ => rfl, ?_⟩
  by_cases c : far1 x s00
  · exact Or.inr ⟨s00, ⟨c, c.2⟩, ⟨by show ((0 : Nat) : Int) ≤ 87; decide, Int.le_refl _⟩, ⟨Int.le_refl _, by show (0 : Int) ≤ 12; decide⟩, sg2_rf (Int.le_refl _)⟩
  · exact Or.inl c
/-- HOW MUCH IS NEW: from a place on, behind which all that the history counts lies, so much a signal -/
theorem told_new (hC : CXX x) (hx : HLn x) (h2 : x.1 2 ≤ x.1 1) (h30 : sg (told x lim) 0 30 = 0) : sn (told x lim) = [] ∨ ∃ q : Int, (0 ≤ q ∧ q ≤ sg (told x lim) 0 11) ∧ x.1 1 ≤ cA x.2.1 q.toNat ∧ nl (told x lim) ≤ 60 * (csg x.2.1 (sg (told x lim) 0 11).toNat - csg x.2.1 q.toNat) + 73 * (ccn x.2.1 (sg (told x lim) 0 11).toNat - ccn x.2.1 q.toNat) + 1000 ∧ iL g33 (x.1 0) (sn (told x lim)) ≤ 60 * (csg x.2.1 (sg (told x lim) 0 11).toNat - csg x.2.1 q.toNat) + 73 * (ccn x.2.1 (sg (told x lim) 0 11).toNat - ccn x.2.1 q.toNat) + 1000 := by
  obtain ⟨S, B', v, ⟨p1, p2, p3, p4⟩, hP, he⟩ := told_ind hC (fun s B i hP hp hg _ i0 i1 i7 hi h3 => nb_step hC hx hP hg i0 i1 i7 hi h3 hp) (nb00 hC hx h2) h30
  rw [he]
  have en : sn (st S 0 28 v) = sn S := rfl
  have enl : nl (st S 0 28 v) = nl S := rfl
  have e11 : sg (st S 0 28 v) 0 11 = sg S 0 11 := by rw [st_g, if_neg (by omega)]
  rw [en, enl, e11]
  rcases p4 with p4 | ⟨s1, a1, a2, a3, a4⟩
  · refine Or.inl ?_
    by_cases c : sg S 0 10 < x.1 1
    · exact p3 c
    · exact Classical.byContradiction fun hh => p4 ⟨p1.1.1.1 hh, by omega⟩
  · obtain ⟨⟨b1, b2⟩, b, b0, bw, g2, g2', g3⟩ := a4
    have w1 := Wc_b (x := x) a3
    have w2 := Wc_b (x := x) hP.1.2.2.2.2.2.2.2.1
    have z1 := g3 f11 g11 0 1 0 1 pc11 pd11 (Int.le_refl _)
    have z2 := g3 f33 g33 0 1 1 1 pc33 pd33 (by decide)
    have i1 := iE_mn (g := g11) (E := x.2.1) (fun r k a b => (g11_nn (r := r) (k := k) (a := a) (b := b)).1) ((sg S 0 12).toNat - (sg s1 0 12).toNat) (sg s1 0 12).toNat
    have i2 := iE_mn (g := g33) (E := x.2.1) g33_nn ((sg S 0 12).toNat - (sg s1 0 12).toNat) (sg s1 0 12).toNat
    rw [show (sg s1 0 12).toNat + ((sg S 0 12).toNat - (sg s1 0 12).toNat) = (sg S 0 12).toNat by omega] at i1 i2
    have hb1 : ∀ w n l : Int, 0 ≤ f11 w n l ∧ f11 w n l ≤ 1 := fun _ _ _ => by show (0 : Int) ≤ 1 ∧ (1 : Int) ≤ 1; decide
    have hb2 : ∀ w n l : Int, 0 ≤ f33 w n l ∧ f33 w n l ≤ 1 := fun _ _ _ => f33_b
    have u1 := (pF_b01 (s := S) hb1 12 0).1
    have u2 := (pF_b01 (s := s1) hb1 12 0).2
    have u3 := (pF_b01 (s := S) hb2 12 0).1
    have u4 := (pF_b01 (s := s1) hb2 12 0).2
    have j1 := iL_le (g := g11) (c := 1) (fun r k a b => (g11_nn (r := r) (k := k) (a := a) (b := b)).2) (sn s1) (x.1 0)
    have j2 := iL_le (g := g33) (c := 2) (fun r k a b => by unfold g33; split <;> decide) (sn s1) (x.1 0)
    have j3 := iL_11 (sn S) (x.1 0) p2.1
    have hl : ((sn s1).length : Int) ≤ 87 := a2.1
    have k1 : ∀ z : Int, z ≤ 0 → (if sg s1 0 11 = 0 ∧ 0 < sg S 0 11 then z else 0) ≤ 0 := fun z hz => by split <;> omega
    have k2 := k1 (f11 0 0 0 - 1) (by decide)
    have k3 := k1 (f33 0 0 0 - 1) (by decide)
    have k4 : (if sg s1 0 11 = 0 ∧ 0 < sg S 0 11 then (61 : Int) else 0) ≤ 61 := by split <;> omega
    unfold PZ pI at z1 z2
    rw [Int.zero_mul, Int.zero_mul, Int.zero_mul, Int.one_mul, Int.one_mul] at z1
    rw [Int.zero_mul, Int.zero_mul, Int.one_mul, Int.one_mul, Int.one_mul] at z2
    refine Or.inr ⟨sg s1 0 11, ⟨b1, b2⟩, a1.2, ?_, ?_⟩
    · show ((sn S).length : Int) ≤ _
      omega
    · omega
end NWC
