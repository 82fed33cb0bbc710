/-! THE ENGINE: the class's lists of objects (ArrayList): reading. -/
section ALI
variable {m m' M : MM} {r a i v n : Int} {l : List Int}
/-- the list at r holds l: at first it has the empty array, then one of its own -/
def LI (m : MM) (r : Int) (l : List Int) : Prop := (4 ≤ r ∧ r < m 0 0) ∧ m r 2 = (l.length : Int) ∧ (l.length : Int) < 60000000 ∧ (∀ v ∈ l, okob m v) ∧ ((m r 1 = 1 ∧ l = []) ∨ (okc m (m r 1) 107 ∧ m r 1 ≠ r ∧ ((l.length : Int) ≤ m (m r 1) (-2) ∧ 1 ≤ m (m r 1) (-2)) ∧ m (m r 1) (-2) < 60000000 ∧ ∀ (i : Nat) (v : Int), l[i]? = some v → m (m r 1) (i : Int) = v))
theorem li_size (h : LI m r l) : fm_Jx4a65c_size_8abf5 r m = some (l.length : Int) := by
  unfold fm_Jx4a65c_size_8abf5
  rw [lx_p, h.2.1]
theorem li_empty (h : LI m r l) : fm_Jx4a65c_isEmpty_aae02 r m = some (if l = [] then 1 else 0) := by
  unfold fm_Jx4a65c_isEmpty_aae02
  rw [lx_p, h.2.1]
  cases l with
  | nil => rfl
  | cons v t =>
    rw [if_neg (by simp only [List.length_cons]; omega), if_neg (List.cons_ne_nil _ _)]
theorem li_get {i : Nat} (h : LI m r l) (hv : l[i]? = some v) : fm_Jx4a65c_get_915e3 r (i : Int) m = some v := by
  obtain ⟨h1, h2, h3, h4, h5⟩ := h
  have hi := (List.getElem?_eq_some_iff.mp hv).1
  rcases h5 with ⟨-, g⟩ | ⟨g1, g2, g3, g4, g5⟩
  · subst g
    exact absurd hi (Nat.not_lt_zero _)
  · have e1 : fm_J15_checkIndex_7cf53 (i : Int) (m r 2) m = some (i : Int) := by
      unfold fm_J15_checkIndex_7cf53 fm_J3_checkIndex_8e157
      rw [if_neg (by omega), if_pos (by omega)]
      rfl
    have e2 : fm_Jx4a65c_elementData_915e3 r (i : Int) m = some v := by
      unfold fm_Jx4a65c_elementData_915e3
      rw [lx_p, gd_t g1, gd_t ⟨by omega, by omega⟩, lx_p, g5 i v hv]
    unfold fm_Jx4a65c_get_915e3
    rw [lx_p, bp_t e1, bp_t e2]
end ALI
