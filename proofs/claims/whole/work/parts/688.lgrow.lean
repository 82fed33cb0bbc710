/-! THE ENGINE: the class's lists of objects: room is made. -/
section LGR
variable {m m' M : MM} {r a b i j v n T c : Int} {l : List Int}
theorem iShr_1 {a : Int} (h0 : 0 ≤ a) (h1 : a < 2147483648) : iShr a 1 = a / 2 := by
  have e : (Int32.ofInt a >>> (Int32.ofInt 1 &&& 31)).toBitVec.toNat = a.toNat / 2 := by
    rw [Int32.toBitVec_shiftRight, show (Int32.ofInt 1 &&& 31).toBitVec.smod 32 = BitVec.ofNat 32 1 by decide]
    have hn := i32_toNat (x := a) h0 (by omega)
    have hm : (Int32.ofInt a).toBitVec.msb = false := by
      rw [BitVec.msb_eq_false_iff_two_mul_lt, hn]
      omega
    rw [BitVec.sshiftRight_eq', BitVec.sshiftRight_eq_of_msb_false hm, BitVec.toNat_ushiftRight, hn, Nat.shiftRight_eq_div_pow]
    rfl
  have := i32_back e (by omega)
  unfold iShr
  rw [this]
  omega
theorem mcp_o (h1 : b ≠ m 0 0) (h2 : b ≠ 0) : mcp m a n b j = m b j := by
  unfold mcp
  rw [if_neg h1, if_neg h2]
theorem mcp_x (h0 : 4 ≤ m 0 0) : Ext m (mcp m a n) := by
  refine ⟨?_, fun b h1 h2 => ⟨mcp_o (by omega) (by omega), mcp_o (by omega) (by omega)⟩⟩
  unfold mcp
  rw [if_neg (by omega), if_pos rfl, if_pos rfl]
  omega
theorem mcp_n (h0 : 4 ≤ m 0 0) (h1 : 0 ≤ j) (h2 : j < n) (h3 : j < m a (-2)) : mcp m a n (m 0 0) j = m a j := by
  unfold mcp
  rw [if_pos rfl, if_neg (by omega), if_neg (by omega), if_pos ⟨h1, h2, h3⟩]
theorem mcp_l : mcp m a n (m 0 0) (-2) = n := by
  unfold mcp
  rw [if_pos rfl, if_neg (by decide), if_pos rfl]
theorem mcp_k (h0 : 4 ≤ m 0 0) : okc (mcp m a n) (m 0 0) 107 := by
  refine ⟨h0, ?_, ?_⟩
  · unfold mcp
    rw [if_neg (show ¬ (0 : Int) = m 0 0 by omega), if_pos rfl, if_pos rfl]
    omega
  · unfold mcp
    rw [if_pos rfl, if_pos rfl]
    rfl
/-- the elements are copied to where there is more room -/
theorem grow20 (hm : 4 ≤ M 0 0) (hT : M r 1 = T) (hk : okc M T 107) (h0 : 1 ≤ c) (h1 : c < 30000000) (hc : M T (-2) = c) (he : ∀ j : Int, 0 ≤ j → j < c → okob M (M T j)) : fj_Jx4a65c_grow_92f84_20 r (c + 1) c M = some (M 0 0, mset (mcp M T (c + (if 1 < c / 2 then c / 2 else 1))) r 1 (M 0 0)) := by
  have hmax : fm_J9_max_7cf53 1 (c / 2) M = some (if 1 < c / 2 then c / 2 else 1) := by
    unfold fm_J9_max_7cf53
    by_cases q : 1 < c / 2
    · rw [if_pos q, if_pos q]
    · rw [if_neg q, if_neg q]
  obtain ⟨g, hg⟩ : ∃ g, g = (if 1 < c / 2 then c / 2 else 1) := ⟨_, rfl⟩
  rw [← hg] at hmax ⊢
  have hgb : 1 ≤ g ∧ g ≤ c := by
    rw [hg]
    split <;> omega
  have hnl : fm_J8_newLength_cabcc c (w32 (c + 1 - c)) (iShr c 1) M = some (c + g) := by
    unfold fm_J8_newLength_cabcc
    rw [show c + 1 - c = 1 by omega, show w32 1 = 1 from w32_id (by decide) (by decide), iShr_1 (by omega) (by omega), bp_t hmax, lx_p, w32_id (by omega) (by omega), if_pos (by omega), if_neg (by omega)]
  have hcp : fm_J7_copyOf_1904c T (c + g) M = some (M 0 0, mcp M T (c + g)) := by
    unfold fm_J7_copyOf_1904c
    have hk2 : cpk M T (c + g) := ⟨hk, by omega, by omega, by omega, fun j j0 _ j2 => Or.inr (he j j0 (by omega))⟩
    unfold gd
    rw [if_pos hk2]
  unfold fj_Jx4a65c_grow_92f84_20
  rw [bp_t hnl, lx_p, hT, bd_t hcp, up_t]
end LGR
