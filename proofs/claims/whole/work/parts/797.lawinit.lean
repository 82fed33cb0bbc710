/-! THE LAW: the beginning, the reference's side. -/
section LWZ
variable {m m' : MM} {a j k r : Int}
/-- the plain state at the beginning -/
def e00 : ES := (fun a j => if a = 4 then (if j = 13 then 3 else if j = 17 then 1 else 0) else if 64 ≤ a ∧ a ≤ 67 then (if j = 0 then 3 else if j = 1 then 2 else 0) else if a = 68 ∧ j = 30 then -1 else if a = 16 ∧ j = 7 then -1 else if a = 3 then (if j = 0 then 400000 else if j = 1 then 1000 else 0) else 0, fun _ _ => (0, 0, 0, 0), fun _ => [], s00, 0)
theorem mm0_0 (h : (69 ≤ a ∧ a ≤ 161) ∧ a ≠ 74 ∧ a ≠ 75 ∧ a ≠ 134 ∧ a ≠ 138) (j0 : 0 ≤ j) : mm0 a j = 0 := by
  have key : ∀ i : Fin 93, i.val ≠ 5 → i.val ≠ 6 → i.val ≠ 65 → i.val ≠ 69 → (sy_S0.1[65 + i.val]?).map (fun c => c.2.2.isEmpty) = some true := by decide +kernel
  have hk := key ⟨(a - 69).toNat, by omega⟩ (by show (a - 69).toNat ≠ 5; omega) (by show (a - 69).toNat ≠ 6; omega) (by show (a - 69).toNat ≠ 65; omega) (by show (a - 69).toNat ≠ 69; omega)
  have ek' : (65 + (a - 69).toNat : Nat) = (a - 4).toNat := by omega
  have hk : (sy_S0.1[65 + (a - 69).toNat]?).map (fun c => c.2.2.isEmpty) = some true := hk
  rw [ek'] at hk
  obtain ⟨c, hc, hc2⟩ := Option.map_eq_some_iff.mp hk
  have := mof_at hc j
  rw [show (((a - 4).toNat : Nat) : Int) + 4 = a by omega, if_neg (by omega), if_neg (by omega), if_pos j0] at this
  show mof sy_S0 a j = 0
  rw [this]
  have he : c.2.2 = [] := List.isEmpty_iff.mp hc2
  unfold q_rd
  rw [he]
  exact vInt_dv _ _
theorem mm0_k : (∀ i : Fin 4, mof sy_S0 74 (i.val : Int) = 3) ∧ (∀ i : Fin 4, mof sy_S0 75 (i.val : Int) = 2) ∧ (∀ i : Fin 4, mof sy_S0 134 (i.val : Int) = -1) ∧ ∀ i : Fin 30, mof sy_S0 138 (i.val : Int) = -1 := by decide +kernel
theorem mm0_s : mof sy_S0 68 0 = 0 ∧ mof sy_S0 68 12 = 0 ∧ mof sy_S0 68 29 = 0 ∧ mof sy_S0 68 30 = -1 ∧ mof sy_S0 68 34 = 0 ∧ mof sy_S0 68 50 = 3 ∧ mof sy_S0 68 51 = 0 ∧ mof sy_S0 68 68 = 0 ∧ mof sy_S0 68 69 = 0 ∧ mof sy_S0 68 79 = 0 ∧ mof sy_S0 68 80 = 0 ∧ mof sy_S0 68 32 = 0 ∧ mof sy_S0 68 46 = 0 ∧ mof sy_S0 68 83 = 0 ∧ mof sy_S0 68 84 = 0 ∧ 0 ≤ mof sy_S0 68 113 ∧ mof sy_S0 68 113 ≤ 60 := by decide +kernel
theorem sm_0 : ∀ n : Nat, sm (fun _ => 0) n = 0 := by
  intro n
  induction n with
  | zero => rfl
  | succ n ih =>
    show sm (fun _ => 0) n + 0 = 0
    rw [ih]
    rfl
theorem rx00 : RXE mm0 e00 := by
  obtain ⟨s1, s2, s3, s4, s5, s6, s7, s8, s9, s10, s11, s12, s13, s14, s15, -⟩ := mm0_s
  obtain ⟨k1, k2, k3, k4⟩ := mm0_k
  have z : ∀ a j : Int, (69 ≤ a ∧ a ≤ 161) ∧ a ≠ 74 ∧ a ≠ 75 ∧ a ≠ 134 ∧ a ≠ 138 → 0 ≤ j → mm0 a j = 0 := fun a j h j0 => mm0_0 h j0
  refine ⟨⟨s1, s2, s3, s4, s5, s6, s7, s8, s9, s10, s11⟩, fun k k0 k1 => ?_, fun k k0 k1' j j0 j1 => ?_, ⟨fun r r0 r1 => ?_, fun r r0 r1 => ?_⟩, fun p p0 p1 => ?_, ⟨?_, ?_⟩, ⟨fun p p0 p1 => ?_, fun p p0 p1 => z _ _ (by decide) (by have : (0 : Int) ≤ p := p0; exact this), fun w w0 w1 => ⟨z _ _ (by decide) w0, z _ _ (by decide) w0, z _ _ (by decide) w0⟩⟩, fun w w0 w1 => ⟨fun r r0 r1 => ?_, fun r r0 r1 => z _ _ (by decide) (by have : (0 : Int) ≤ r := r0; omega)⟩, ⟨fun p p0 p1 => ?_, fun p p0 p1 => ?_⟩, fun i v hv => ?_, fun r r0 r1 => ?_, ?_, ⟨s14, s15, fun i q hq => ?_⟩⟩
  · have e48 : e00.1 (48 + 4 * k) 2 = 0 := by
      show (if _ then _ else _) = (0 : Int)
      rw [if_neg (by omega), if_neg (by omega), if_neg (by omega), if_neg (by omega), if_neg (by omega)]
    have e49 : e00.1 (49 + 4 * k) 2 = 0 := by
      show (if _ then _ else _) = (0 : Int)
      rw [if_neg (by omega), if_neg (by omega), if_neg (by omega), if_neg (by omega), if_neg (by omega)]
    rw [e48, e49]
    refine ⟨z _ _ (by decide) k0, z _ _ (by decide) k0, ⟨?_, by show 0 ≤ 24; decide, fun i v hv => absurd hv (by show ¬ ([] : List Int)[i]? = some v; simp)⟩, fun v v0 v1 => by omega⟩
    show mm0 70 (5 * k + 4) = 0
    exact z _ _ (by decide) (by omega)
  · have ej : e00.1 (64 + k) j = if j = 0 then 3 else if j = 1 then 2 else 0 := by
      show (if _ then _ else _) = _
      rw [if_neg (by omega), if_pos (by omega)]
    rw [ej]
    have hk4 : k.toNat < 4 := by omega
    by_cases c0 : j = 0
    · subst c0
      have := k1 ⟨k.toNat, hk4⟩
      rw [show (((⟨k.toNat, hk4⟩ : Fin 4).val : Nat) : Int) = k by show ((k.toNat : Nat) : Int) = k; omega] at this
      exact this
    · by_cases c1 : j = 1
      · subst c1
        have := k2 ⟨k.toNat, hk4⟩
        rw [show (((⟨k.toNat, hk4⟩ : Fin 4).val : Nat) : Int) = k by show ((k.toNat : Nat) : Int) = k; omega] at this
        exact this
      · rw [if_neg c0, if_neg c1]
        exact z _ _ (by omega) k0
  · have : r < 0 := r1
    omega
  · have r0' : (0 : Int) ≤ r := r0
    refine ⟨z _ _ (by decide) r0', z _ _ (by decide) r0', z _ _ (by decide) r0', z _ _ (by decide) r0', z _ _ (by decide) r0', z _ _ (by decide) r0', ?_⟩
    have hr : r.toNat < 30 := by omega
    have := k4 ⟨r.toNat, hr⟩
    rw [show (((⟨r.toNat, hr⟩ : Fin 30).val : Nat) : Int) = r by show ((r.toNat : Nat) : Int) = r; omega] at this
    exact this
  · have : p < 0 := p1
    omega
  · show 0 ≤ mof sy_S0 68 46 ∧ mof sy_S0 68 46 ≤ 512
    rw [s13]
    decide
  · have : xT mm0 = [] := by
      unfold xT
      rw [show mm0 68 46 = 0 from s13]
      rfl
    rw [this]
    exact List.Perm.nil
  · have : p < 0 := p1
    omega
  · have : r < 0 := r1
    omega
  · have : p < 0 := p1
    omega
  · have p0' : (0 : Int) ≤ p := p0
    refine ⟨z _ _ (by decide) p0', ?_, z _ _ (by decide) p0', z _ _ (by decide) p0'⟩
    have hr : p.toNat < 4 := by omega
    have := k3 ⟨p.toNat, hr⟩
    rw [show (((⟨p.toNat, hr⟩ : Fin 4).val : Nat) : Int) = p by show ((p.toNat : Nat) : Int) = p; omega] at this
    exact this
  · exact absurd hv (by show ¬ ([] : List Int)[i]? = some v; simp)
  · have : r < 0 := r1
    omega
  · refine ⟨fun _ => 0, ⟨fun r r0 r1 => ⟨Int.le_refl 0, show (0 : Int) ≤ 524288 by decide, fun _ => rfl⟩, ⟨by decide, fun r r0 r1 => ?_, fun r r0 r1 => ?_⟩, ?_⟩, fun r k r0 r1 k0 k1 => ⟨fun h => by have h : 256 * k < (0 : Int) := h; omega, fun _ => z _ _ (by decide) (by omega)⟩, fun s t s0 s1 s2 h => absurd (z _ _ (by decide) s0) h, fun r r0 r1 => ?_, fun r r0 r1 => ?_, fun r r0 r1 => ?_⟩
    · have e0 : e00.1 68 (3000 + r) = 0 := by
        unfold e00
        dsimp only
        rw [if_neg (by decide), if_neg (by decide), if_neg (by omega), if_neg (by omega), if_neg (by decide)]
      rw [e0]
      exact Int.le_refl _
    · have : r < 0 := r1
      omega
    · show mof sy_S0 68 32 = sm (fun _ => (0 + 255) / 256) 30
      rw [s12]
      exact (sm_0 30).symm
    · have : r < 0 := r1
      omega
    · have : r < 0 := r1
      omega
    · have : r < 0 := r1
      omega
  · exact absurd hq (by show ¬ ([] : List (Int × Int))[i]? = some q; simp)
theorem p00 : P113 mm0 := ⟨mm0_rp.2, mm0_s.2.2.2.2.2.2.2.2.2.2.2.2.2.2.2.1, mm0_s.2.2.2.2.2.2.2.2.2.2.2.2.2.2.2.2⟩
end LWZ
