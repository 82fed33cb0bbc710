/-! LAYER 2: bits of longs: a number as its 64 bits. -/
section PKB
def PK (z : Int) (N : Nat) : Prop := (Int64.ofInt z).toBitVec.toNat = N
theorem PK.of {x : Int64} {N : Nat} (h : x.toBitVec.toNat = N) : PK x.toInt N := by
  unfold PK
  rw [Int64.ofInt_toInt]
  exact h
theorem PK.n {z : Int} (h0 : 0 ≤ z) (h1 : z < 18446744073709551616) : PK z z.toNat := i64_toNat h0 h1
theorem PK.lt {z : Int} {N : Nat} (h : PK z N) : N < 18446744073709551616 := by
  unfold PK at h
  rw [← h]
  exact BitVec.isLt _
theorem PK.or {a b : Int} {N M : Nat} (ha : PK a N) (hb : PK b M) : PK (lOr a b) (N ||| M) := by
  unfold lOr
  refine PK.of ?_
  rw [Int64.toBitVec_or, BitVec.toNat_or]
  unfold PK at ha hb
  rw [ha, hb]
theorem PK.and {a b : Int} {N M : Nat} (ha : PK a N) (hb : PK b M) : PK (lAnd a b) (N &&& M) := by
  unfold lAnd
  refine PK.of ?_
  rw [Int64.toBitVec_and, BitVec.toNat_and]
  unfold PK at ha hb
  rw [ha, hb]
theorem PK.shl {a k : Int} {N n : Nat} (ha : PK a N) (hs : ((Int32.ofInt k).toInt64 &&& 63).toBitVec.smod 64 = BitVec.ofNat 64 n) (hn : n < 64) (h : N * 2 ^ n < 18446744073709551616) : PK (lShl a k) (N * 2 ^ n) := by
  unfold lShl
  refine PK.of ?_
  rw [Int64.toBitVec_shiftLeft, hs, BitVec.shiftLeft_eq', BitVec.toNat_shiftLeft, BitVec.toNat_ofNat]
  unfold PK at ha
  rw [ha, Nat.mod_eq_of_lt (show n < 2 ^ 64 by omega), Nat.shiftLeft_eq]
  exact Nat.mod_eq_of_lt h
theorem PK.ushr {a k : Int} {N n : Nat} (ha : PK a N) (hs : ((Int32.ofInt k).toInt64.toUInt64 &&& Int64.toUInt64 63) = UInt64.ofNat n) (hn : n < 64) : PK (lUshr a k) (N / 2 ^ n) := by
  unfold lUshr
  refine PK.of ?_
  rw [hs]
  show ((Int64.ofInt a).toUInt64 >>> UInt64.ofNat n).toBitVec.toNat = _
  rw [UInt64.toBitVec_shiftRight, BitVec.ushiftRight_eq', BitVec.toNat_ushiftRight, BitVec.toNat_umod]
  have h1 : (UInt64.ofNat n).toBitVec.toNat = n := by
    show (BitVec.ofNat 64 n).toNat = n
    rw [BitVec.toNat_ofNat]
    exact Nat.mod_eq_of_lt (by omega)
  have h2 : (64 : BitVec 64).toNat = 64 := rfl
  rw [h1, h2, Nat.mod_eq_of_lt hn, Nat.shiftRight_eq_div_pow]
  unfold PK at ha
  rw [show ((Int64.ofInt a).toUInt64).toBitVec.toNat = (Int64.ofInt a).toBitVec.toNat from rfl, ha]
theorem PK.shr {a k : Int} {N n : Nat} (ha : PK a N) (h63 : N < 9223372036854775808) (hs : ((Int32.ofInt k).toInt64 &&& 63).toBitVec.smod 64 = BitVec.ofNat 64 n) (hn : n < 64) : PK (lShr a k) (N / 2 ^ n) := by
  unfold lShr
  refine PK.of ?_
  rw [Int64.toBitVec_shiftRight, hs]
  unfold PK at ha
  have hm : (Int64.ofInt a).toBitVec.msb = false := by
    rw [BitVec.msb_eq_false_iff_two_mul_lt, ha]
    omega
  rw [BitVec.sshiftRight_eq', BitVec.sshiftRight_eq_of_msb_false hm, BitVec.toNat_ushiftRight, BitVec.toNat_ofNat, ha, Nat.mod_eq_of_lt (show n < 2 ^ 64 by omega), Nat.shiftRight_eq_div_pow]
theorem PK.val {z : Int} {N : Nat} (h : PK z N) (hz0 : -9223372036854775808 ≤ z) (hz1 : z < 9223372036854775808) (hN : N < 9223372036854775808) : z = (N : Int) := by
  unfold PK at h
  have h1 := i64_back h hN
  rw [Int64.toInt_ofInt] at h1
  have e0 : z.bmod Int64.size = z.bmod 18446744073709551616 := rfl
  rw [← h1, e0, Int.bmod_def]
  split <;> omega
/-- a long that comes out of a Java operation -/
def jl (z : Int) : Prop := -9223372036854775808 ≤ z ∧ z < 9223372036854775808
theorem jl_i (x : Int64) : jl x.toInt := ⟨Int64.le_toInt x, Int64.toInt_lt x⟩
theorem PK.vOr {a b : Int} {N : Nat} (h : PK (lOr a b) N) (hN : N < 9223372036854775808) : lOr a b = (N : Int) := h.val (jl_i _).1 (jl_i _).2 hN
theorem PK.vAnd {a b : Int} {N : Nat} (h : PK (lAnd a b) N) (hN : N < 9223372036854775808) : lAnd a b = (N : Int) := h.val (jl_i _).1 (jl_i _).2 hN
theorem PK.vUshr {a b : Int} {N : Nat} (h : PK (lUshr a b) N) (hN : N < 9223372036854775808) : lUshr a b = (N : Int) := h.val (jl_i _).1 (jl_i _).2 hN
theorem PK.vShr {a b : Int} {N : Nat} (h : PK (lShr a b) N) (hN : N < 9223372036854775808) : lShr a b = (N : Int) := h.val (jl_i _).1 (jl_i _).2 hN
/-- the low 32 bits -/
theorem PK.low {z : Int} {N : Nat} (h : PK z N) : (Int32.ofInt (w32 z)).toBitVec.toNat = N % 4294967296 := by
  unfold PK at h
  rw [Int64.toBitVec_ofInt, BitVec.toNat_ofInt] at h
  rw [Int32.toBitVec_ofInt, BitVec.toNat_ofInt]
  unfold w32
  rw [← h, Int.bmod_def]
  show ((if z % (4294967296 : Nat) < ((4294967296 : Nat) + 1) / 2 then z % (4294967296 : Nat) else z % (4294967296 : Nat) - (4294967296 : Nat)) % ((2 ^ 32 : Nat) : Int)).toNat = (z % ((2 ^ 64 : Nat) : Int)).toNat % 4294967296
  have e1 : ((2 ^ 32 : Nat) : Int) = 4294967296 := rfl
  have e2 : ((2 ^ 64 : Nat) : Int) = 18446744073709551616 := rfl
  rw [e1, e2]
  split <;> omega
theorem iAnd_low {z b : Int} {N k : Nat} (h : PK z N) (hb : b = 2 ^ k - 1) (hk : k ≤ 30) : iAnd (w32 z) b = ((N % 2 ^ k : Nat) : Int) := by
  have h1 : (2 : Nat) ^ k ≤ 2 ^ 30 := Nat.pow_le_pow_right (by decide) hk
  have h2 : 1 ≤ (2 : Nat) ^ k := Nat.one_le_two_pow
  have h3 : ((2 ^ k : Nat) : Int) = 2 ^ k := by push_cast; rfl
  have hbn : b.toNat = 2 ^ k - 1 := by omega
  unfold iAnd
  refine i32_back ?_ (Nat.lt_of_lt_of_le (Nat.mod_lt _ h2) (by omega))
  rw [Int32.toBitVec_and, BitVec.toNat_and, h.low, i32_toNat (by omega) (by omega), hbn, and_mask, Nat.mod_mod_of_dvd]
  have h4 : (4294967296 : Nat) = 2 ^ 32 := rfl
  rw [h4]
  exact Nat.pow_dvd_pow 2 (by omega)
/-- parts that don't touch: an or is a sum -/
theorem or_add {a b k : Nat} (h : b < 2 ^ k) : a * 2 ^ k ||| b = a * 2 ^ k + b := by
  have := Nat.shiftLeft_add_eq_or_of_lt h a
  rw [Nat.shiftLeft_eq] at this
  exact this.symm
end PKB
