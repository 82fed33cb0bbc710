/-! AT THE BEGINNING all that stands between the calls stands. -/
section HHZ
theorem cn00 : CN e00 := ⟨by decide, by decide, by decide, by decide, fun t ht => by
  have : e00.1 (t + 1) 2 = 0 := e00_z (by unfold isT at ht; omega) (by unfold isT at ht; omega) (by unfold isT at ht; omega) (by unfold isT at ht; omega) (by unfold isT at ht; omega)
  omega⟩
theorem tot00 : tot e00 = 0 := by
  have h7 : e00.1 7 2 = 0 := by decide
  have key : ∀ n : Nat, sm (totF e00) n = 0 := by
    intro n
    induction n with
    | zero => rfl
    | succ n ih =>
      have : totF e00 (n : Int) = 0 := by
        unfold totF
        rw [if_neg (by omega)]
      show sm (totF e00) n + totF e00 (n : Int) = 0
      omega
  exact key 30
theorem hh00 : HH 0 0 0 e00 := by
  have h7 : e00.1 7 2 = 0 := by decide
  have h8 : e00.1 8 2 = 0 := by decide
  have h9 : e00.1 9 2 = 0 := by decide
  have ht := tot00
  have hLk : ∀ k q v w : Int, ¬ Lk noX e00 k q v w := fun k q v w g => by
    rcases g with g | g | g | g
    · exact g.2
    · have := g.2.1; omega
    · have := g.2.2.1; omega
    · have := g.2.1.1; omega
  refine ⟨⟨⟨⟨⟨cn00, by decide, fun i i0 i1 => by omega⟩, by omega, by omega⟩, fun r r0 r1 => by omega, ⟨fun r j hw => hw.elim, fun r j r0 r1 => by omega, fun r i j hw => hw.elim⟩, fun k q v w g => absurd g (hLk k q v w), fun k q v w w' g => absurd g (hLk k q v w)⟩, fun r r0 r1 => by omega⟩, ⟨fun r r0 r1 => by omega, fun r r0 r1 => by omega, fun p p0 p1 => by omega, fun r r0 r1 => by omega, ?_⟩, ⟨by decide, fun r p ha => ?_, fun i j p q _ _ _ hp => ?_, fun h0 => ?_, fun r r0 r1 => by omega⟩, fun r r0 r1 => by omega, fun r r0 r1 => by omega, ⟨fun k k0 k1 => by omega, fun k k0 k1 => by omega⟩, fun r r0 r1 => by omega⟩
  · refine ⟨by decide, by decide, fun v hv => absurd hv List.not_mem_nil⟩
  · have := ha.1
    omega
  · have := hp.1
    omega
  · have : e00.1 68 30 = -1 := by decide
    omega
end HHZ
