/-! THE ROOM, without any plain state: at the beginning. -/
section GIZ
variable {al be : Int}
theorem gi0_k : (∀ i : Fin 159, mof sy_S0 (4 + (i.val : Int)) (-1) = 6 → mof sy_S0 (4 + (i.val : Int)) 0 = 5 + (i.val : Int) ∧ (5 + (i.val : Int) < 163 ∧ mof sy_S0 (5 + (i.val : Int)) (-1) = 108 ∧ 1 ≤ mof sy_S0 (5 + (i.val : Int)) (-2)) ∧ mof sy_S0 (4 + (i.val : Int)) 1 = 0) ∧ (∀ i : Fin 159, mof sy_S0 (4 + (i.val : Int)) (-1) = 0 → mof sy_S0 (4 + (i.val : Int)) 1 = 1) ∧ (∀ i : Fin 159, 0 ≤ mof sy_S0 (4 + (i.val : Int)) (-2) ∧ mof sy_S0 (4 + (i.val : Int)) (-2) < 2147483648) ∧ mof sy_S0 0 0 = 163 ∧ mof sy_S0 0 1 = 3216562 := by decide +kernel
theorem gi00 (al0 : 0 ≤ al) (be0 : 0 ≤ be) : GI al be (al * 3216562 + be * 163) mm0 := by
  obtain ⟨k1, k2, k3, k4, k5⟩ := gi0_k
  have hP := pz al0 be0
  have q1 : ∀ a : Int, 4 ≤ a → a < 163 → mm0 a (-1) = 6 → mm0 a 0 = a + 1 ∧ (a + 1 < 163 ∧ mm0 (a + 1) (-1) = 108 ∧ 1 ≤ mm0 (a + 1) (-2)) ∧ mm0 a 1 = 0 := fun a a0 a1 h => by
    have := k1 ⟨(a - 4).toNat, by omega⟩
    have e : (4 : Int) + (((⟨(a - 4).toNat, by omega⟩ : Fin 159).val : Nat) : Int) = a := by show 4 + (((a - 4).toNat : Nat) : Int) = a; omega
    have e5 : (5 : Int) + (((⟨(a - 4).toNat, by omega⟩ : Fin 159).val : Nat) : Int) = a + 1 := by show 5 + (((a - 4).toNat : Nat) : Int) = a + 1; omega
    rw [e, e5] at this
    exact this h
  have q2 : ∀ a : Int, 4 ≤ a → a < 163 → mm0 a (-1) = 0 → mm0 a 1 = 1 := fun a a0 a1 h => by
    have := k2 ⟨(a - 4).toNat, by omega⟩
    have e : (4 : Int) + (((⟨(a - 4).toNat, by omega⟩ : Fin 159).val : Nat) : Int) = a := by show 4 + (((a - 4).toNat : Nat) : Int) = a; omega
    rw [e] at this
    exact this h
  have q3 : ∀ a : Int, 4 ≤ a → a < 163 → 0 ≤ mm0 a (-2) ∧ mm0 a (-2) < 2147483648 := fun a a0 a1 => by
    have := k3 ⟨(a - 4).toNat, by omega⟩
    have e : (4 : Int) + (((⟨(a - 4).toNat, by omega⟩ : Fin 159).val : Nat) : Int) = a := by show 4 + (((a - 4).toNat : Nat) : Int) = a; omega
    rw [e] at this
    exact this
  have e0 : mm0 0 0 = 163 := k4
  have e1 : mm0 0 1 = 3216562 := k5
  refine ⟨⟨fun r g1 g2 g3 => ?_, fun r q g1 g2 g3 g4 g5 g6 g7 g8 => ?_, fun a g1 g2 g3 => ?_, fun a g1 g2 => ?_⟩, ?_⟩
  · rw [e0] at g2
    obtain ⟨u1, u2, u3⟩ := q1 r g1 g2 g3
    rw [u1]
    exact Or.inr ⟨⟨by omega, by rw [e0]; exact u2.1, u2.2.1⟩, u2.2.2⟩
  · rw [e0] at g2 g5
    rw [(q1 r g1 g2 g3).1, (q1 q g4 g5 g6).1]
    omega
  · rw [e0] at g2 ⊢
    rw [q2 a g1 g2 g3]
    exact ⟨by decide, fun hh => by omega⟩
  · rw [e0] at g2
    exact q3 a g1 g2
  · rw [e0, e1]
    have hz : 0 ≤ sm (wt al be mm0) (163 : Int).toNat := by
      rw [← sm_z (f := fun _ => 0) (fun _ _ => rfl) (163 : Int).toNat]
      refine sm_le fun i i0 i1 => ?_
      have i2 : i < 163 := by have : ((163 : Int).toNat : Int) = 163 := rfl; omega
      show 0 ≤ wt al be mm0 i
      unfold wt
      by_cases c4 : i < 4
      · rw [if_pos c4]
        exact Int.le_refl _
      · rw [if_neg c4]
        have eo : own al be mm0 i = 0 := if_pos i2
        rw [eo, Int.add_zero]
        by_cases c6 : mm0 i (-1) = 6
        · rw [if_pos c6]
          obtain ⟨u1, u2, u3⟩ := q1 i (by omega) i2 c6
          unfold rpt
          rw [u1, u3, if_neg (by omega), Int.sub_zero]
          have n0 : 0 ≤ nnz mm0 (i + 1) := by
            unfold nnz
            exact Int.le_trans (Int.le_of_eq (sm_z (f := fun _ => 0) (fun _ _ => rfl) (mm0 (i + 1) (-2)).toNat).symm) (sm_le fun j _ _ => by
              show (0 : Int) ≤ if mm0 (i + 1) j = 0 then 0 else 1
              split <;> decide)
          exact Int.add_nonneg (Int.mul_nonneg hP n0) (Int.mul_nonneg (by omega) (by omega))
        · rw [if_neg c6]
          by_cases c0 : mm0 i (-1) = 0
          · rw [if_pos c0]
            unfold lpt
            rw [q2 i (by omega) i2 c0, if_pos (by decide)]
            exact Int.le_refl _
          · rw [if_neg c0]
            exact Int.le_refl _
    omega
end GIZ
