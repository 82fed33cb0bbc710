/-! THE TABLE, II: the code lists are what the bytes decode to. -/
def q_dokb (b : ByteArray) (l : List (Nat × Instr)) : Bool := l.all (fun q => match decode b q.1 with
  | .ok (i, n) => decide (i = q.2) && (decide (n = q_len i) || q_isSw i)
  | _ => false)
theorem q_dok_of {b : ByteArray} {l : List (Nat × Instr)} (h : q_dokb b l = true) : ∀ q ∈ l, ∃ n : Nat, decode b q.1 = .ok (q.2, n) ∧ (n = q_len q.2 ∨ q_isSw q.2 = true) := by
  intro q hq
  have h1 := List.all_eq_true.mp h q hq
  split at h1
  · rename_i i n hd
    simp only [Bool.and_eq_true, Bool.or_eq_true, decide_eq_true_eq] at h1
    obtain ⟨h2, h3⟩ := h1
    subst h2
    exact ⟨n, hd, h3⟩
  · cases h1

theorem qD_X5_init_0 : q_dokb cX5_init qC_X5_init_0 = true := by decide +kernel
theorem qD_X5_wide_0 : q_dokb cX5_wide qC_X5_wide_0 = true := by decide +kernel
theorem qD_X5_at_0 : q_dokb cX5_at qC_X5_at_0 = true := by decide +kernel
theorem qD_X5_add_0 : q_dokb cX5_add qC_X5_add_0 = true := by decide +kernel
theorem qD_X5_add_1 : q_dokb cX5_add qC_X5_add_1 = true := by decide +kernel
theorem qD_X5_removeAt_0 : q_dokb cX5_removeAt qC_X5_removeAt_0 = true := by decide +kernel
theorem qD_X5_put_0 : q_dokb cX5_put qC_X5_put_0 = true := by decide +kernel
theorem qD_X5_cut_0 : q_dokb cX5_cut qC_X5_cut_0 = true := by decide +kernel
theorem qD_X5_cut_1 : q_dokb cX5_cut qC_X5_cut_1 = true := by decide +kernel
theorem qD_X5_becomeFirst_0 : q_dokb cX5_becomeFirst qC_X5_becomeFirst_0 = true := by decide +kernel
theorem qD_X12_init_0 : q_dokb cX12_init qC_X12_init_0 = true := by decide +kernel
theorem qD_X12_init_1 : q_dokb cX12_init qC_X12_init_1 = true := by decide +kernel
theorem qD_X12_init_2 : q_dokb cX12_init qC_X12_init_2 = true := by decide +kernel
theorem qD_X12_init_3 : q_dokb cX12_init qC_X12_init_3 = true := by decide +kernel
theorem qD_X12_init_4 : q_dokb cX12_init qC_X12_init_4 = true := by decide +kernel
theorem qD_X12_init_5 : q_dokb cX12_init qC_X12_init_5 = true := by decide +kernel
theorem qD_X12_init_6 : q_dokb cX12_init qC_X12_init_6 = true := by decide +kernel
theorem qD_X12_line_0 : q_dokb cX12_line qC_X12_line_0 = true := by decide +kernel
theorem qD_X12_line_1 : q_dokb cX12_line qC_X12_line_1 = true := by decide +kernel
