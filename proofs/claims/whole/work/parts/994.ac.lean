/-! Words of arrays. -/
theorem qAC : Cond.arrayClass .int ∈ wsL_law ∧ Cond.arrayClass .long ∈ wsL_law ∧ Cond.arrayClass .boolean ∈ wsL_law := ⟨(q_up_r2 0 rfl), (q_up_r1 6 rfl), (q_up_r9 19 rfl)⟩
