/-! THE LAW: the beginning, the class's side. -/
section LWC
variable {a j k r c i o t : Int}
/-- whose the places are at the beginning -/
def ow00 (a : Int) : Int := if a = 14 ∨ a = 15 then 14 else if a = 46 ∨ a = 47 then 5 else if 16 ≤ a ∧ a ≤ 47 then 16 else if a = 50 ∨ a = 51 then 48000 else if a = 54 ∨ a = 55 then 52000 else if a = 58 ∨ a = 59 then 56000 else if a = 62 ∨ a = 63 then 60000 else if 68 ≤ a ∧ a ≤ 161 then 68 else a
def ad00 (c i : Int) : Int := if c = 0 then 14 else c + 2
theorem e00_z (h4 : a ≠ 4) (h6 : ¬ (64 ≤ a ∧ a ≤ 67)) (h8 : a ≠ 68) (h16 : a ≠ 16) (h3 : a ≠ 3) : e00.1 a j = 0 := by
  show (if _ then _ else _) = (0 : Int)
  rw [if_neg h4, if_neg h6, if_neg (by omega), if_neg (by omega), if_neg h3]
def rows00 : List Int := [14, 21, 35, 37, 39, 41, 44, 46, 50, 54, 58, 62]
theorem mm0_rows : ∀ r ∈ rows00, mof sy_S0 r (-1) = 6 ∧ mof sy_S0 r 0 = r + 1 ∧ mof sy_S0 r 1 = 0 ∧ mof sy_S0 r 2 = 0 ∧ mof sy_S0 (r + 1) (-1) = 108 ∧ mof sy_S0 (r + 1) (-2) = 1 ∧ mof sy_S0 (r + 1) 0 = 0 := by decide +kernel
theorem mm0_len : mm0 0 0 = 163 := by
  show mof sy_S0 0 0 = 163
  decide +kernel
theorem row00 (h : r ∈ rows00) (r4 : 4 ≤ r) (r1 : r < 162) : RowIs mm0 r [] ∧ mm0 r 1 = 0 ∧ ∀ a, Fp mm0 r a → a = r ∨ a = r + 1 := by
  obtain ⟨k1, k2, k3, k4, k5, k6, k7⟩ := mm0_rows r h
  have k1 : mm0 r (-1) = 6 := k1
  have k2 : mm0 r 0 = r + 1 := k2
  have k3 : mm0 r 1 = 0 := k3
  have k4 : mm0 r 2 = 0 := k4
  have k5 : mm0 (r + 1) (-1) = 108 := k5
  have k6 : mm0 (r + 1) (-2) = 1 := k6
  have k7 : mm0 (r + 1) 0 = 0 := k7
  have hl := mm0_len
  refine ⟨⟨⟨⟨r4, by omega, k1⟩, by rw [k2]; exact ⟨by omega, by omega, k5⟩, by rw [k2, k6]; decide, by rw [k2, k6]; decide, by rw [k3]; decide, by rw [k2, k3, k6]; decide, by rw [k3, k4]; decide, by rw [k2, k4, k6]; decide, fun i i0 i1 => ?_⟩, fun i j i0 i1 j0 j1 _ _ => ?_, k4, fun i v hv => absurd hv (by simp)⟩, k3, fun a ha => ?_⟩
  · rw [k2, k6] at i1
    rw [k2, show i = 0 by omega, k7, k4]
    exact Or.inl ⟨rfl, by decide⟩
  · rw [k2, k6] at i1 j1
    omega
  · rcases ha with ha | ha | ⟨i, i0, i1, h1, h2⟩
    · exact Or.inl ha
    · rw [k2] at ha; exact Or.inr ha
    · rw [k2, k6] at i1
      rw [k2, show i = 0 by omega] at h1
      exact absurd k7 h1
theorem mm0_nul (h : r ∈ rows00) : ∀ i : Int, 0 ≤ i → mm0 (r + 1) i = 0 := fun i i0 => by
  have key : ∀ r ∈ rows00, (sy_S0.1[(r - 3).toNat]?).map (fun c => c.2.2.isEmpty) = some true := by decide +kernel
  have h4 : ∀ r ∈ rows00, 4 ≤ r := by decide
  obtain ⟨c, hc, hc2⟩ := Option.map_eq_some_iff.mp (key r h)
  have := mof_at hc i
  rw [show (((r - 3).toNat : Nat) : Int) + 4 = r + 1 by have := h4 r h; omega, if_neg (by omega), if_neg (by omega), if_pos i0] at this
  show mof sy_S0 (r + 1) i = 0
  rw [this]
  have he : c.2.2 = [] := List.isEmpty_iff.mp hc2
  unfold q_rd
  rw [he]
  exact vInt_dv _ _
/-- a row at the beginning has no parts -/
theorem fr00 (h : r ∈ rows00) : FR mm0 r := by
  obtain ⟨k1, k2, k3, k4, k5, k6, k7⟩ := mm0_rows r h
  have k2 : mm0 r 0 = r + 1 := k2
  have k6 : mm0 (r + 1) (-2) = 1 := k6
  have k8 := mm0_nul h
  unfold FR
  rw [k2]
  exact ⟨k6, fun i i0 => k8 i i0⟩
theorem mm0_f : (∀ j : Fin 14, 3 < j.val → mof sy_S0 17 (j.val : Int) = 0) ∧ (mof sy_S0 16 7 = 0 ∧ mof sy_S0 16 8 = 0 ∧ mof sy_S0 16 9 = 0 ∧ mof sy_S0 16 10 = 0 ∧ mof sy_S0 16 11 = -1) ∧ (∀ j : Fin 6, mof sy_S0 18 (j.val : Int) = 0) ∧ (∀ k : Fin 12, mof sy_S0 19 (k.val : Int) = 23 + (k.val : Int)) ∧ mof sy_S0 43 1 = 0 ∧ (mof sy_S0 4 11 = 0 ∧ mof sy_S0 4 12 = 0 ∧ mof sy_S0 4 13 = 3 ∧ mof sy_S0 4 14 = 0 ∧ mof sy_S0 4 15 = 0 ∧ mof sy_S0 4 16 = 0 ∧ mof sy_S0 4 17 = 1) ∧ (∀ (a j : Fin 3), mof sy_S0 (11 + (a.val : Int)) (j.val : Int) = 0) ∧ (∀ (a : Fin 4) (j : Fin 5), mof sy_S0 (64 + (a.val : Int)) (j.val : Int) = if j.val = 0 then 3 else if j.val = 1 then 2 else 0) ∧ (∀ a : Fin 4, mof sy_S0 (48 + 4 * (a.val : Int)) 1 = 50 + 4 * (a.val : Int) ∧ mof sy_S0 (48 + 4 * (a.val : Int)) 2 = 0 ∧ mof sy_S0 (49 + 4 * (a.val : Int)) 1 = 1 ∧ mof sy_S0 (49 + 4 * (a.val : Int)) 2 = 0 ∧ mof sy_S0 (7 + (a.val : Int)) 1 = 1 ∧ mof sy_S0 (7 + (a.val : Int)) 2 = 0) := by decide +kernel
theorem mrow00 (h : Mrow r) : r ∈ rows00 ∧ 4 ≤ r ∧ r < 162 := by
  unfold rows00
  rcases h with rfl | rfl | rfl | rfl | rfl | rfl <;> exact ⟨by decide, by decide, by decide⟩
theorem cr00 : CR mm0 mm0 s00 0 := by
  obtain ⟨f1, ⟨f2, f3, f4, f5, f6⟩, f7, f8, f9, -⟩ := mm0_f
  have e19 : ∀ k : Int, 0 ≤ k → k < 12 → mm0 19 k = 23 + k := fun k k0 k1 => by
    have := f8 ⟨k.toNat, by omega⟩
    rw [show (((⟨k.toNat, by omega⟩ : Fin 12).val : Nat) : Int) = k by show ((k.toNat : Nat) : Int) = k; omega] at this
    exact this
  refine ⟨mm0_rp.2, FrM.rf, ⟨fun j j0 j1 => ?_, fun j j0 j1 => ?_, fun j j0 j1 => ?_⟩, ⟨⟨Int.le_refl _, by show (0 : Int) ≤ 12; decide⟩, fun k k0 k1 => by rw [e19 k k0 k1]; omega, fun k k' k0 k1 k2 k3 h => by rw [e19 k k0 k1, e19 k' k2 k3] at h; omega, fun k j k0 k1 _ _ => by have : k < 0 := k1; omega⟩, fun _ => [], fun r hr => ?_, ⟨fun r _ => Int.le_refl _, fun n _ _ => rfl, ?_, fun k k0 k1 => by have : k < 0 := k1; omega, f9, rfl, fun i k a b h => absurd h (by show ¬ ([] : List (Int × Int × Int))[i]? = _; simp)⟩, ⟨CpS.rf, Int.le_refl _⟩, CpS.rf, fun q hq => ⟨CpS.rf, Int.le_refl _⟩⟩
  · have := f1 ⟨j.toNat, by omega⟩ (by show 3 < j.toNat; omega)
    rw [show (((⟨j.toNat, by omega⟩ : Fin 14).val : Nat) : Int) = j by show ((j.toNat : Nat) : Int) = j; omega] at this
    show mof sy_S0 17 j = if (0 : Int) = 0 ∧ j = 31 then -1 else 0
    rw [this, if_neg (by omega)]
  · show mof sy_S0 16 j = if (0 : Int) = 0 ∧ 20 + j = 31 then -1 else 0
    by_cases c : j = 11
    · rw [c, f6]; rfl
    · rw [if_neg (by omega)]
      have : j = 8 ∨ j = 9 ∨ j = 10 := by omega
      rcases this with rfl | rfl | rfl
      · exact f3
      · exact f4
      · exact f5
  · have := f7 ⟨j.toNat, by omega⟩
    rw [show (((⟨j.toNat, by omega⟩ : Fin 6).val : Nat) : Int) = j by show ((j.toNat : Nat) : Int) = j; omega] at this
    show mof sy_S0 18 j = if (1 : Int) = 0 ∧ j = 31 then -1 else 0
    rw [this, if_neg (by omega)]
  · obtain ⟨h1, h2, h3⟩ := mrow00 hr
    obtain ⟨g1, g2, g3⟩ := row00 h1 h2 h3
    refine ⟨g1, g2, fun a ha => Or.inl (Or.inr ⟨r, hr, ha⟩), fun r' hr' hne a ha hb => ?_⟩
    obtain ⟨h1', h2', h3'⟩ := mrow00 hr'
    have q1 := g3 a ha
    have q2 := (row00 h1' h2' h3').2.2 a hb
    unfold Mrow at hr hr'
    omega
  · show mof sy_S0 17 4 = 0
    exact f1 ⟨4, by decide⟩ (by decide)
end LWC
