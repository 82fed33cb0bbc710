/-! LAYER 2, base: arithmetic, memory, how functions are run. -/
section L2
theorem w32_id {z : Int} (h1 : -2147483648 ≤ z) (h2 : z < 2147483648) : w32 z = z := by
  unfold w32
  rw [Int.bmod_def]
  split <;> omega
theorem w64_id {z : Int} (h1 : -9223372036854775808 ≤ z) (h2 : z < 9223372036854775808) : w64 z = z := by
  unfold w64
  rw [Int.bmod_def]
  split <;> omega
theorem ms_e {m : MM} {a j v : Int} : mset m a j v a j = v := if_pos ⟨rfl, rfl⟩
theorem ms_a {m : MM} {a j v b i : Int} (h : b ≠ a) : mset m a j v b i = m b i := if_neg fun hh => h hh.1
theorem ms_j {m : MM} {a j v i : Int} (h : i ≠ j) : mset m a j v a i = m a i := if_neg fun hh => h hh.2
theorem ms_i {m : MM} {a j v i : Int} : mset m a j v a i = if i = j then v else m a i := by
  unfold mset
  by_cases h : i = j
  · rw [if_pos ⟨rfl, h⟩, if_pos h]
  · rw [if_neg (fun hh => h hh.2), if_neg h]
section RUN
variable {β : Type}
theorem gd_t {c : Prop} [Decidable c] {k : Option β} (h : c) : gd c k = k := if_pos h
theorem lx_t {z : Int} {k : Int → Option β} : lx z k = k z := rfl
theorem up_t {m : MM} {a j v : Int} {k : MM → Option β} : up m a j v k = k (mset m a j v) := rfl
theorem nw_t {m : MM} {kd ln : Int} {k : Int → MM → Option β} : nw m kd ln k = k (m 0 0) (mnew m kd ln) := rfl
theorem cl_t {m : MM} {a : Int} {k : Int → MM → Option β} : cl m a k = k (m 0 0) (mcl m a) := rfl
theorem bp_t {o : Option Int} {k : Int → Option β} {z : Int} (h : o = some z) : bp o k = k z := by rw [h]; rfl
theorem bd_t {o : Option (Int × MM)} {k : Int → MM → Option β} {z : Int} {m : MM} (h : o = some (z, m)) : bd o k = k z m := by rw [h]; rfl
theorem bx_l {o : Option ((Int ⊕ Nat) × MM)} {x : Nat → MM → Option β} {k : Int → MM → Option β} {z : Int} {m : MM} (h : o = some (.inl z, m)) : bx o x k = k z m := by rw [h]; rfl
theorem bx_r {o : Option ((Int ⊕ Nat) × MM)} {x : Nat → MM → Option β} {k : Int → MM → Option β} {e : Nat} {m : MM} (h : o = some (.inr e, m)) : bx o x k = x e m := by rw [h]; rfl
end RUN
theorem tdiv_e {a b : Int} (h : 0 ≤ a) : Int.tdiv a b = a / b := Int.tdiv_eq_ediv_of_nonneg h
theorem tmod_e {a b : Int} (h : 0 ≤ a) : Int.tmod a b = a % b := Int.tmod_eq_emod_of_nonneg h
/-- a mask of k bits, a shift by k: of numbers that are not negative -/
theorem i32_toNat {x : Int} (h0 : 0 ≤ x) (h1 : x < 4294967296) : (Int32.ofInt x).toBitVec.toNat = x.toNat := by
  rw [Int32.toBitVec_ofInt, BitVec.toNat_ofInt]
  congr 1
  exact Int.emod_eq_of_lt h0 h1
theorem i64_toNat {x : Int} (h0 : 0 ≤ x) (h1 : x < 18446744073709551616) : (Int64.ofInt x).toBitVec.toNat = x.toNat := by
  rw [Int64.toBitVec_ofInt, BitVec.toNat_ofInt]
  congr 1
  exact Int.emod_eq_of_lt h0 h1
theorem i32_back {x : Int32} {n : Nat} (h : x.toBitVec.toNat = n) (hn : n < 2147483648) : x.toInt = (n : Int) := by
  show x.toBitVec.toInt = _
  rw [BitVec.toInt_eq_toNat_of_lt (by rw [h]; omega), h]
theorem i64_back {x : Int64} {n : Nat} (h : x.toBitVec.toNat = n) (hn : n < 9223372036854775808) : x.toInt = (n : Int) := by
  show x.toBitVec.toInt = _
  rw [BitVec.toInt_eq_toNat_of_lt (by rw [h]; omega), h]
theorem iAnd_n {a b : Int} (ha : 0 ≤ a) (ha1 : a < 2147483648) (hb : 0 ≤ b) (hb1 : b < 2147483648) : iAnd a b = ((a.toNat &&& b.toNat : Nat) : Int) := by
  unfold iAnd
  refine i32_back ?_ (Nat.lt_of_le_of_lt Nat.and_le_left (by omega))
  rw [Int32.toBitVec_and, BitVec.toNat_and, i32_toNat ha (by omega), i32_toNat hb (by omega)]
theorem and_mask (n k : Nat) : n &&& (2 ^ k - 1) = n % 2 ^ k := Nat.and_two_pow_sub_one_eq_mod n k
theorem iAnd_mask {a : Int} (k : Nat) {b : Int} (hb : b = 2 ^ k - 1) (hk : k ≤ 30) (ha : 0 ≤ a) (ha1 : a < 2147483648) : iAnd a b = a % 2 ^ k := by
  have h1 : (2 : Int) ^ k ≤ 2 ^ 30 := by
    have := Nat.pow_le_pow_right (n := 2) (by decide) hk
    exact_mod_cast this
  have h2 : (1 : Int) ≤ 2 ^ k := by
    have := Nat.one_le_two_pow (n := k)
    exact_mod_cast this
  rw [iAnd_n ha ha1 (by omega) (by omega)]
  have h3 : b.toNat = 2 ^ k - 1 := by
    have : ((2 ^ k : Nat) : Int) = 2 ^ k := by push_cast; rfl
    omega
  rw [h3, and_mask]
  push_cast
  rw [Int.toNat_of_nonneg ha]
end L2
