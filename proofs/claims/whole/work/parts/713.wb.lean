/-! THE ENGINE: the bounds of all numbers in it. -/
section WBS
variable {m m' M2 : MM} {ow ow' : Int → Int} {ad ad' : Int → Int → Int} {e e' : ES} {D : Int → Prop} {a b c i j k o r v n h N B t x y z p q p1 p2 p3 p4 p5 p6 kd ln : Int} {l : List Int} {E : Int → Ev} {s : TS} {f : Int → Int}
def WRun (e : ES) (i : Int) : Prop := (0 ≤ e.1 (7000 + i) 1 ∧ e.1 (7000 + i) 1 < 4) ∧ (0 ≤ e.1 (7000 + i) 2 ∧ e.1 (7000 + i) 2 < 3) ∧ (0 ≤ e.1 (7000 + i) 3 ∧ e.1 (7000 + i) 3 < e.1 (48 + 4 * e.1 (7000 + i) 1 + 1) 2) ∧ (-1 ≤ e.1 (7000 + i) 4 ∧ e.1 (7000 + i) 4 < e.1 7 2) ∧ (0 ≤ e.1 (7000 + i) 5 ∧ e.1 (7000 + i) 5 < 524288) ∧ (0 ≤ e.1 (7000 + i) 6 ∧ e.1 (7000 + i) 6 ≤ 6) ∧ (0 ≤ e.1 (7000 + i) 8 ∧ e.1 (7000 + i) 8 ≤ hN e i) ∧ (-1 ≤ e.1 (7000 + i) 10 ∧ e.1 (7000 + i) 10 < e.1 9 2) ∧ ((eL e (73000 + i)).length = (eL e (74000 + i)).length ∧ (∀ v ∈ eL e (73000 + i), 0 ≤ v ∧ v < 524288) ∧ ∀ v ∈ eL e (74000 + i), 0 ≤ v ∧ v < 2000000000) ∧ ∀ v ∈ eL e (75000 + i), 0 ≤ v ∧ v < 4000
def WAct (e : ES) (i : Int) : Prop := (0 ≤ e.1 (8000 + i) 1 ∧ e.1 (8000 + i) 1 < 524288) ∧ (0 ≤ e.1 (8000 + i) 2 ∧ e.1 (8000 + i) 2 < 4) ∧ (0 ≤ e.1 (8000 + i) 3 ∧ e.1 (8000 + i) 3 ≤ 999) ∧ (0 ≤ e.1 (8000 + i) 4 ∧ e.1 (8000 + i) 4 < 1000000) ∧ (0 ≤ e.1 (8000 + i) 5 ∧ e.1 (8000 + i) 5 ≤ 2) ∧ (0 ≤ e.1 (8000 + i) 6 ∧ e.1 (8000 + i) 6 < 1000000) ∧ (0 ≤ e.1 (8000 + i) 7 ∧ e.1 (8000 + i) 7 < 2000000) ∧ (0 ≤ e.1 (8000 + i) 8 ∧ e.1 (8000 + i) 8 < 1000000) ∧ (0 ≤ e.1 (8000 + i) 9 ∧ e.1 (8000 + i) 9 < 1000000) ∧ 0 ≤ e.1 (8000 + i) 10 ∧ e.1 (8000 + i) 10 ≤ 999
def WTsk (e : ES) (i : Int) : Prop := (0 ≤ e.1 (9000 + i) 0 ∧ e.1 (9000 + i) 0 < 3) ∧ (0 ≤ e.1 (9000 + i) 2 ∧ e.1 (9000 + i) 2 < 1000000) ∧ (0 ≤ e.1 (9000 + i) 3 ∧ e.1 (9000 + i) 3 ≤ 524288) ∧ (e.1 (9000 + i) 5 = 0 ∨ e.1 (9000 + i) 5 = 1)
def WSch (e : ES) (i : Int) : Prop := (0 ≤ e.1 (10000 + i) 0 ∧ e.1 (10000 + i) 0 < 4 ∧ 0 < e.1 (48 + 4 * e.1 (10000 + i) 0 + 1) 2) ∧ (0 ≤ e.1 (10000 + i) 1 ∧ e.1 (10000 + i) 1 < 3) ∧ (1 ≤ e.1 (10000 + i) 2 ∧ e.1 (10000 + i) 2 ≤ 50) ∧ (0 ≤ e.1 (10000 + i) 3 ∧ e.1 (10000 + i) 3 ≤ 3) ∧ (-20000 ≤ e.1 (10000 + i) 4 ∧ e.1 (10000 + i) 4 < 2000000) ∧ (e.1 (10000 + i) 5 = 0 ∨ e.1 (10000 + i) 5 = 1) ∧ (-1 ≤ e.1 (10000 + i) 6 ∧ e.1 (10000 + i) 6 < e.1 7 2) ∧ (e.1 (10000 + i) 7 = 0 ∨ e.1 (10000 + i) 7 = 1) ∧ 0 ≤ e.1 (10000 + i) 8 ∧ e.1 (10000 + i) 8 ≤ 999
/-- the lines of a row of code -/
def WCod (l : List Int) : Prop := l.length ≤ 24 ∧ ∀ v ∈ l, ∃ c a b : Int, v = 1000000 * c + 1000 * a + b ∧ LineOk c a b
def WGlo (e : ES) : Prop := (-20000 ≤ e.1 4 15 ∧ e.1 4 15 ≤ 20000) ∧ (1 ≤ e.1 4 13 ∧ e.1 4 13 ≤ 10) ∧ (0 ≤ e.1 4 12 ∧ e.1 4 12 ≤ e.1 4 11 ∧ e.1 4 11 < 1000000000) ∧ (e.1 4 17 = 0 ∨ e.1 4 17 = 1) ∧ (∀ k : Int, 0 ≤ k → k < 3 → (0 ≤ e.1 11 k ∧ e.1 11 k < 1000000) ∧ (0 ≤ e.1 12 k ∧ e.1 12 k < 1000000) ∧ (0 ≤ e.1 13 k ∧ e.1 13 k < 1000000)) ∧ (∀ k : Int, 0 ≤ k → k < 4 → (1 ≤ e.1 (64 + k) 0 ∧ e.1 (64 + k) 0 ≤ 4) ∧ (0 ≤ e.1 (64 + k) 1 ∧ e.1 (64 + k) 1 ≤ 20) ∧ (0 ≤ e.1 (64 + k) 2 ∧ e.1 (64 + k) 2 ≤ 50) ∧ (0 ≤ e.1 (64 + k) 3 ∧ e.1 (64 + k) 3 ≤ 50) ∧ (0 ≤ e.1 (64 + k) 4 ∧ e.1 (64 + k) 4 ≤ 50)) ∧ (∀ t, isT t → (0 ≤ e.1 t 2 ∧ e.1 t 2 ≤ 2) ∧ ∀ v : Int, 0 ≤ v → v ≤ e.1 (t + 1) 2 → WCod (eL e (1000 * t + v))) ∧ (eL e 14).length ≤ 51200 ∧ ∀ v ∈ eL e 14, 0 ≤ v ∧ v < 30000
/-- what is due is due for runs that are not closed -/
def WLv (e : ES) : Prop := (∀ i : Int, 0 ≤ i → i < e.1 8 2 → e.1 (8000 + i) 5 ≠ 2 → ¬ Dead e (e.1 (8000 + i) 0)) ∧ ∀ i : Int, 0 ≤ i → i < e.1 7 2 → Dead e i → eL e (73000 + i) = []
def WX (e : ES) : Prop := WGlo e ∧ (∀ i : Int, 0 ≤ i → i < e.1 7 2 → WRun e i) ∧ (∀ i : Int, 0 ≤ i → i < e.1 8 2 → WAct e i) ∧ (∀ i : Int, 0 ≤ i → i < e.1 9 2 → WTsk e i) ∧ (∀ i : Int, 0 ≤ i → i < e.1 10 2 → WSch e i) ∧ WLv e
def WB (e : ES) : Prop := BD e ∧ WX e
theorem WX.glo (h : WX e) : WGlo e := h.1
theorem WX.run (h : WX e) (i0 : 0 ≤ i) (i1 : i < e.1 7 2) : WRun e i := h.2.1 i i0 i1
theorem WX.act (h : WX e) (i0 : 0 ≤ i) (i1 : i < e.1 8 2) : WAct e i := h.2.2.1 i i0 i1
theorem WX.tsk (h : WX e) (i0 : 0 ≤ i) (i1 : i < e.1 9 2) : WTsk e i := h.2.2.2.1 i i0 i1
theorem WX.sch (h : WX e) (i0 : 0 ≤ i) (i1 : i < e.1 10 2) : WSch e i := h.2.2.2.2.1 i i0 i1
theorem WX.lv (h : WX e) : WLv e := h.2.2.2.2.2
theorem WB.bd (h : WB e) : BD e := h.1
theorem WB.glo (h : WB e) : WGlo e := h.2.glo
theorem WB.run (h : WB e) (i0 : 0 ≤ i) (i1 : i < e.1 7 2) : WRun e i := h.2.run i0 i1
theorem WB.act (h : WB e) (i0 : 0 ≤ i) (i1 : i < e.1 8 2) : WAct e i := h.2.act i0 i1
theorem WB.tsk (h : WB e) (i0 : 0 ≤ i) (i1 : i < e.1 9 2) : WTsk e i := h.2.tsk i0 i1
theorem WB.sch (h : WB e) (i0 : 0 ≤ i) (i1 : i < e.1 10 2) : WSch e i := h.2.sch i0 i1
theorem WB.lv (h : WB e) : WLv e := h.2.lv
theorem xor_neg {a b : Int} (a0 : -2147483648 ≤ a) (a1 : a < 2147483648) (b0 : 0 ≤ b) (b1 : b < 2147483648) : iXor a b < 0 ↔ a < 0 := by
  have m32 : ∀ z : Int, -2147483648 ≤ z → z < 2147483648 → ((Int32.ofInt z).toBitVec.msb = true ↔ z < 0) := fun z z0 z1 => by
    rw [BitVec.msb_eq_toInt]
    have : (Int32.ofInt z).toBitVec.toInt = z := by
      show (Int32.ofInt z).toInt = z
      rw [Int32.toInt_ofInt]
      show z.bmod 4294967296 = z
      rw [Int.bmod_def]
      split <;> omega
    rw [this]
    exact decide_eq_true_iff
  have hx : iXor a b < 0 ↔ ((Int32.ofInt a).toBitVec ^^^ (Int32.ofInt b).toBitVec).msb = true := by
    unfold iXor
    rw [BitVec.msb_eq_toInt]
    show (Int32.ofInt a ^^^ Int32.ofInt b).toBitVec.toInt < 0 ↔ _
    rw [Int32.toBitVec_xor]
    exact decide_eq_true_iff.symm
  rw [hx, BitVec.msb_xor]
  have ha := m32 a a0 a1
  have hb := m32 b (by omega) b1
  have hb2 : (Int32.ofInt b).toBitVec.msb = false := by
    cases hh : (Int32.ofInt b).toBitVec.msb with
    | false => rfl
    | true => have := hb.mp hh; omega
  rw [hb2, Bool.xor_false]
  exact ha
theorem fmod_e (hp0 : -2147483648 ≤ p) (hp1 : p < 2147483648) (hq0 : 0 < q) (hq1 : q < 1073741824) : fm_J9_floorMod_7cf53 p q m = some (p % q) := by
  have hx := xor_neg (a := p) (b := q) hp0 hp1 (by omega) (by omega)
  unfold fm_J9_floorMod_7cf53
  rw [gd_t (show q ≠ 0 by omega), lx_p]
  by_cases c : p < 0
  · rw [if_pos (hx.mpr c)]
    have e1 : Int.tmod p q = -((-p) % q) := by
      have := Int.neg_tmod (-p) q
      rw [Int.neg_neg] at this
      rw [this, Int.tmod_eq_emod_of_nonneg (by omega)]
    have h1 := Int.emod_nonneg (-p) (show q ≠ 0 by omega)
    have h2 := Int.emod_lt_of_pos (-p) hq0
    have h3 := Int.emod_add_mul_ediv (-p) q
    by_cases c2 : (-p) % q = 0
    · rw [if_pos (by rw [e1, c2]; rfl), e1, c2]
      rw [c2] at h3
      have : p = q * (-((-p) / q)) := by rw [Int.mul_neg]; omega
      congr 1
      conv => rhs; rw [this]
      rw [Int.mul_emod_right]
      rfl
    · rw [if_neg (by omega), w32_id (by omega) (by omega), e1]
      congr 1
      have h4 : p = (q - (-p) % q) + q * (-((-p) / q) - 1) := by
        rw [Int.mul_sub, Int.mul_neg, Int.mul_one]
        omega
      conv => rhs; rw [h4]
      rw [Int.add_mul_emod_self_left, show (q - (-p) % q) % q = q - (-p) % q from Int.emod_eq_of_lt (by omega) (by omega)]
      omega
  · rw [if_neg (fun h => c (hx.mp h)), Int.tmod_eq_emod_of_nonneg (by omega)]
theorem min_e : fm_J9_min_7cf53 p q m = some (if q < p then q else p) := by
  unfold fm_J9_min_7cf53
  split <;> rfl
theorem max_e : fm_J9_max_7cf53 p q m = some (if p < q then q else p) := by
  unfold fm_J9_max_7cf53
  split <;> rfl
end WBS
