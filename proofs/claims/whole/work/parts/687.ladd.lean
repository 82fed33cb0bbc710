/-! THE ENGINE: the class's lists of objects: one more. -/
section LAD
variable {m m' M : MM} {r a i v n : Int} {l : List Int}
theorem add11 {y c : Int} (hy : okc m y 107) (h0 : 0 ≤ c) (h1 : c < m y (-2)) (h2 : c < 60000000) (hv : okob m v) (hyr : y ≠ r) : fj_Jx4a65c_add_72be8_11 r v y c m = some (0, mset (mset m y c v) r 2 (c + 1)) := by
  unfold fj_Jx4a65c_add_72be8_11
  rw [gd_t hy, gd_t ⟨h0, h1⟩, gd_t hv, up_t, up_t, w32_id (by omega) (by omega)]
/-- one more, where there is room for it -/
theorem li_room (h : LI m r l) (ho : okc m (m r 1) 107) (hc : (l.length : Int) < m (m r 1) (-2)) (hv : okob m v) : ∃ m', fm_Jx4a65c_add_9ea2d r v m = some (1, m') ∧ LI m' r (l ++ [v]) ∧ Ext m m' ∧ (∀ a j : Int, a ≠ r → a ≠ m r 1 → m' a j = m a j) ∧ m' r 1 = m r 1 := by
  obtain ⟨⟨h1, h1'⟩, h2, h3, h4, h5⟩ := h
  obtain ⟨g1, g2, g3, g4, g5⟩ := h5.resolve_left (fun g => by have := ho.1; omega)
  have x0 : Ext m (mset m r 0 (w32 (m r 0 + 1))) := mset_ext h1 (by decide)
  have e1 : mset m r 0 (w32 (m r 0 + 1)) r 1 = m r 1 := ms_j (by decide)
  have e2 : mset m r 0 (w32 (m r 0 + 1)) r 2 = m r 2 := ms_j (by decide)
  have eY : ∀ j, mset m r 0 (w32 (m r 0 + 1)) (m r 1) j = m (m r 1) j := fun j => ms_a g2
  have hv0 : ∀ w, okob m w → okob (mset m r 0 (w32 (m r 0 + 1))) w := fun w hw => ⟨hw.1, Int.lt_of_lt_of_le hw.2.1 x0.1, by rw [(x0.2 w hw.1 hw.2.1).1]; exact hw.2.2⟩
  have hl0 : (0 : Int) ≤ l.length := Int.natCast_nonneg _
  have ea := add11 (m := mset m r 0 (w32 (m r 0 + 1))) (r := r) (v := v) (y := m r 1) (c := l.length) (x0.ok g1) hl0 (by rw [eY]; exact hc) h3 (hv0 v hv) g2
  generalize hM : mset m r 0 (w32 (m r 0 + 1)) = M at x0 e1 e2 eY hv0 ea
  have x1 : Ext M (mset M (m r 1) l.length v) := mset_ext g1.1 hl0
  have x2 : Ext (mset M (m r 1) l.length v) (mset (mset M (m r 1) l.length v) r 2 (l.length + 1)) := mset_ext h1 (by decide)
  have x12 := x0.tr (x1.tr x2)
  have f1 : mset (mset M (m r 1) l.length v) r 2 (l.length + 1) r 1 = m r 1 := by rw [ms_j (by decide), ms_a (Ne.symm g2)]; exact e1
  have fY : ∀ j, mset (mset M (m r 1) l.length v) r 2 (l.length + 1) (m r 1) j = if j = l.length then v else m (m r 1) j := fun j => by
    rw [ms_a g2]
    by_cases c : j = l.length
    · rw [if_pos c, c, ms_e]
    · rw [if_neg c, ms_j c, eY]
  have fO : ∀ a j : Int, a ≠ r → a ≠ m r 1 → mset (mset M (m r 1) l.length v) r 2 (l.length + 1) a j = m a j := fun a j b1 b2 => by rw [ms_a b1, ms_a b2, ← hM, ms_a b1]
  refine ⟨_, ?_, ⟨⟨h1, Int.lt_of_lt_of_le h1' x12.1⟩, ?_, ?_, fun w hw => ?_, Or.inr ⟨by rw [f1]; exact x12.ok g1, by rw [f1]; exact g2, ?_, ?_, fun i w hi => ?_⟩⟩, x12, fO, f1⟩
  · unfold fm_Jx4a65c_add_9ea2d
    rw [lx_p, up_t, hM, lx_p, lx_p, e1, e2]
    unfold fm_Jx4a65c_add_72be8
    rw [gd_t (okl_of (x0.ok g1) (by decide)), eY, w32_id (by omega) (by omega), if_neg (by omega), h2, bd_t ea]
  · rw [ms_e, List.length_append]
    rfl
  · rw [List.length_append]
    simp only [List.length_cons, List.length_nil]
    omega
  · have : okob m w := by
      rcases List.mem_append.mp hw with g | g
      · exact h4 w g
      · rw [List.mem_singleton.mp g]; exact hv
    exact ⟨this.1, Int.lt_of_lt_of_le this.2.1 x12.1, by rw [(x12.2 w this.1 this.2.1).1]; exact this.2.2⟩
  · rw [f1, fY, if_neg (by omega), List.length_append]
    simp only [List.length_cons, List.length_nil]
    omega
  · rw [f1, fY, if_neg (by omega)]; exact g4
  · rw [f1, fY]
    by_cases c : i < l.length
    · rw [List.getElem?_append_left c] at hi
      rw [if_neg (by omega)]
      exact g5 i w hi
    · have c2 : i = l.length := by
        have := (List.getElem?_eq_some_iff.mp hi).1
        rw [List.length_append] at this
        simp only [List.length_cons, List.length_nil] at this
        omega
      subst c2
      rw [List.getElem?_append_right (Nat.le_refl _), Nat.sub_self] at hi
      simp only [List.getElem?_cons_zero, Option.some.injEq] at hi
      rw [if_pos rfl, hi]
end LAD
