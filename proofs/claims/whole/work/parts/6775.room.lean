/-! A row whose own places nothing writes keeps its parts. -/
section ROM5
variable {m m' : MM} {r : Int} {l : List Int}
theorem SmT.op (hr : RowIs m r l) (hx : Ext m m') (hf : ∀ a j : Int, Op m r a → 0 ≤ j → m' a j = m a j) : SmT m m' r := SmT.of hr hx (fun j j0 => hf r j (Or.inl rfl) j0) fun j j0 => hf _ j (Or.inr (Or.inl rfl)) j0
end ROM5
