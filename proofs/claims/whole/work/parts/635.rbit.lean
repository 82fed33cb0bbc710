/-! THE TELLING in the reference: PATCH's bits. -/
section RF16
variable {u p : Int}
theorem and1_b (X : Int32) : (X &&& Int32.ofInt 1).toInt = if X.toBitVec.getLsbD 0 = true then 1 else 0 := by
  rw [← Int32.toInt_toBitVec, Int32.toBitVec_and]
  show (X.toBitVec &&& 1#32).toInt = _
  rw [BitVec.and_one_eq_setWidth_ofBool_getLsbD]
  cases X.toBitVec.getLsbD 0 <;> rfl
theorem iAnd1 : iAnd u 1 = 0 ∨ iAnd u 1 = 1 := by
  unfold iAnd
  rw [and1_b]
  split
  · exact Or.inr rfl
  · exact Or.inl rfl
theorem bit_set (h0 : 0 ≤ p) (h9 : p ≤ 9) : iAnd (iShr (iOr u (iShl 1 p)) p) 1 = 1 := by
  have hp : p = 0 ∨ p = 1 ∨ p = 2 ∨ p = 3 ∨ p = 4 ∨ p = 5 ∨ p = 6 ∨ p = 7 ∨ p = 8 ∨ p = 9 := by omega
  unfold iAnd iShr iOr iShl
  simp only [Int32.ofInt_toInt]
  generalize Int32.ofInt u = U
  rw [and1_b]
  refine if_pos ?_
  rw [Int32.toBitVec_shiftRight, Int32.toBitVec_or, BitVec.sshiftRight_eq', BitVec.getLsbD_sshiftRight, BitVec.getLsbD_or]
  have e2 : ((Int32.ofInt p &&& 31).toBitVec.smod 32).toNat + 0 < 32 := by
    rcases hp with rfl | rfl | rfl | rfl | rfl | rfl | rfl | rfl | rfl | rfl <;> decide
  have e1 : (Int32.ofInt 1 <<< (Int32.ofInt p &&& 31)).toBitVec.getLsbD (((Int32.ofInt p &&& 31).toBitVec.smod 32).toNat + 0) = true := by
    rcases hp with rfl | rfl | rfl | rfl | rfl | rfl | rfl | rfl | rfl | rfl <;> decide
  rw [if_pos e2, e1, Bool.or_true]
  rfl
end RF16
