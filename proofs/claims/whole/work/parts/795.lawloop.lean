/-! THE LAW: the loop, over what holds after each step. -/
section LWQ
variable {m m' : MM} {e e' : ES} {xs : List Int32} {P : Nat → MM → ES → Prop}
theorem law_loop (hlen : xs.length ≤ 3584) (hs : ∀ (k f : Nat) (m : MM) (e : ES), P k m e → 7 * (k : Int) + 7 ≤ (xs.length : Int) → ∃ m' e', fl_L_law_23 xs (f + 1) (7 * (k : Int)) m = fl_L_law_23 xs f (7 * (k : Int) + 7) m' ∧ P (k + 1) m' e') : ∀ (d f k : Nat) (m : MM) (e : ES), P k m e → (xs.length : Int) < 7 * (k : Int) + 7 * (d : Int) + 7 → d < f → 7 * (k : Int) ≤ 3584 → ∃ k' m' e', P k' m' e' ∧ fl_L_law_23 xs f (7 * (k : Int)) m = some (1, m') := by
  have stop : ∀ (f k : Nat) (m : MM), (xs.length : Int) < 7 * (k : Int) + 7 → fl_L_law_23 xs (f + 1) (7 * (k : Int)) m = some (1, m) := fun f k m h => by
    have hl : sln xs = (xs.length : Int) := by
      unfold sln
      rw [Int32.toInt_ofNat_of_lt (by omega)]
    have hw : w32 ((sln xs) - 7) = (xs.length : Int) - 7 := by
      rw [hl]
      exact w32_id (by omega) (by omega)
    rw [fl_L_law_23, hw, if_pos (by omega)]
  intro d
  induction d with
  | zero =>
    intro f k m e h hl hf hk
    obtain ⟨f, rfl⟩ : ∃ g, f = g + 1 := ⟨f - 1, by omega⟩
    exact ⟨k, m, e, h, stop f k m (by omega)⟩
  | succ d ih =>
    intro f k m e h hl hf hk
    obtain ⟨f, rfl⟩ : ∃ g, f = g + 1 := ⟨f - 1, by omega⟩
    by_cases c : (xs.length : Int) < 7 * (k : Int) + 7
    · exact ⟨k, m, e, h, stop f k m c⟩
    · obtain ⟨m1, e1, g1, g2⟩ := hs k f m e h (by omega)
      obtain ⟨k', m', e', u1, u2⟩ := ih f (k + 1) m1 e1 g2 (by omega) (by omega) (by omega)
      refine ⟨k', m', e', u1, ?_⟩
      rw [g1, show 7 * (k : Int) + 7 = 7 * ((k + 1 : Nat) : Int) by omega]
      exact u2
end LWQ
