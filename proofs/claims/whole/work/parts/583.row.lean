/-! LAYER 2: the class's rows (of numbers, in parts of 64). -/
section ROW
theorem iShr_6 {a : Int} (h0 : 0 ≤ a) (h1 : a < 2147483648) : iShr a 6 = a / 64 := by
  have e : (Int32.ofInt a >>> (Int32.ofInt 6 &&& 31)).toBitVec.toNat = a.toNat / 64 := by
    rw [Int32.toBitVec_shiftRight, show (Int32.ofInt 6 &&& 31).toBitVec.smod 32 = BitVec.ofNat 32 6 by decide]
    have hn := i32_toNat (x := a) h0 (by omega)
    have hm : (Int32.ofInt a).toBitVec.msb = false := by
      rw [BitVec.msb_eq_false_iff_two_mul_lt, hn]
      omega
    rw [BitVec.sshiftRight_eq', BitVec.sshiftRight_eq_of_msb_false hm, BitVec.toNat_ushiftRight, hn, Nat.shiftRight_eq_div_pow]
    rfl
  have := i32_back e (by omega)
  unfold iShr
  rw [this]
  omega
theorem iAnd_63 {a : Int} (h0 : 0 ≤ a) (h1 : a < 2147483648) : iAnd a 63 = a % 64 := by
  rw [iAnd_mask 6 (by decide) (by decide) h0 h1]
  rfl
theorem iShl_6 {a : Int} (h0 : 0 ≤ a) (h1 : a < 16777216) : iShl a 6 = 64 * a := by
  have e : (Int32.ofInt a <<< (Int32.ofInt 6 &&& 31)).toBitVec.toNat = a.toNat * 64 := by
    rw [Int32.toBitVec_shiftLeft, show (Int32.ofInt 6 &&& 31).toBitVec.smod 32 = BitVec.ofNat 32 6 by decide, BitVec.shiftLeft_eq', BitVec.toNat_shiftLeft, i32_toNat h0 (by omega)]
    show a.toNat <<< 6 % 2 ^ 32 = _
    rw [Nat.shiftLeft_eq]
    omega
  have := i32_back e (by omega)
  unfold iShl
  rw [this]
  omega
/-- a part: an array of 64 longs, or none yet -/
def PtOk (m : MM) (q : Int) : Prop := okc m q 101 ∧ 163 ≤ q ∧ m q (-2) = 64
def RowOk (m : MM) (r : Int) : Prop := okc m r 6 ∧ okc m (m r 0) 108 ∧ 1 ≤ m (m r 0) (-2) ∧ m (m r 0) (-2) < 8388608 ∧ 0 ≤ m r 1 ∧ m r 1 ≤ m (m r 0) (-2) ∧ 64 * m r 1 ≤ m r 2 ∧ m r 2 ≤ 64 * m (m r 0) (-2) ∧
  ∀ i : Int, 0 ≤ i → i < m (m r 0) (-2) → (m (m r 0) i = 0 ∧ m r 2 ≤ 64 * i) ∨ (m (m r 0) i ≠ 0 ∧ PtOk m (m (m r 0) i))
/-- the number at a place -/
def rv (m : MM) (r i : Int) : Int := m (m (m r 0) (i / 64)) (i % 64)
variable {m : MM} {r v i : Int}
theorem RowOk.sz (h : RowOk m r) : 0 ≤ m r 2 ∧ m r 2 < 536870912 := by
  obtain ⟨-, -, h1, h2, h3, h4, h5, h6, -⟩ := h
  omega
theorem RowOk.pt (h : RowOk m r) (h0 : 0 ≤ i) (h1 : i < m r 2) : 0 ≤ i / 64 ∧ i / 64 < m (m r 0) (-2) ∧ m (m r 0) (i / 64) ≠ 0 ∧ PtOk m (m (m r 0) (i / 64)) := by
  obtain ⟨-, -, g1, g2, g3, g4, g5, g6, g7⟩ := h
  have e : i / 64 < m (m r 0) (-2) := by omega
  rcases g7 (i / 64) (by omega) e with ⟨g8, g9⟩ | g8
  · omega
  · exact ⟨by omega, e, g8.1, g8.2⟩
theorem wide_in (h : RowOk m r) (h0 : 0 ≤ i) (h1 : i < m r 2) : fm_X5_wide r i m = some (rv m r i) := by
  obtain ⟨p1, p2, p3, p4, p5, p6⟩ := h.pt h0 h1
  have hs := h.sz
  have hl := h.2.2.2.1
  unfold fm_X5_wide
  simp only [lx_t]
  rw [iShr_6 h0 (by omega), iAnd_63 h0 (by omega), if_neg (by omega), if_pos h1, gd_t h.2.1, w32_id (by omega) (by omega), if_pos p2, gd_t ⟨p1, p2⟩, if_neg p3, gd_t p4, w32_id (by omega) (by omega), if_pos (by omega), gd_t ⟨by omega, by omega⟩]
  rfl
theorem wide_out (h : RowOk m r) (h1 : i < 0 ∨ m r 2 ≤ i) : fm_X5_wide r i m = some 0 := by
  unfold fm_X5_wide
  simp only [lx_t]
  rcases h1 with h1 | h1
  · rw [if_pos h1]
  · have := h.sz
    rw [if_neg (by omega), if_neg (by omega)]
/-- what add makes of the memory: the part is there; the part is made; more room for parts is made -/
def cpR (m : MM) (z p i n : Int) : MM := fun b j => if b = z ∧ i ≤ j ∧ j < n then m p j else m b j
def addA (m : MM) (r v q : Int) : MM := mset (mset m q (m r 2 % 64) v) r 2 (m r 2 + 1)
def addB (m : MM) (r v : Int) : MM := addA (mset (mnew m 101 64) (m r 0) (m r 2 / 64) (m 0 0)) r v (m 0 0)
def addG (m : MM) (r : Int) : MM := mset (cpR (mnew m 108 (2 * m (m r 0) (-2))) (m 0 0) (m r 0) 0 (m (m r 0) (-2))) r 0 (m 0 0)
def addM (m : MM) (r v : Int) : MM := if m r 2 / 64 < m (m r 0) (-2) then (if m (m r 0) (m r 2 / 64) = 0 then addB m r v else addA m r v (m (m r 0) (m r 2 / 64))) else addB (addG m r) r v
theorem add_112 {p q pt wt : Int} (hp : m r 0 = p) (hq : m p pt = q) (okp : okc m p 108) (hpt : 0 ≤ pt ∧ pt < m p (-2)) (hP : PtOk m q) (hwt : 0 ≤ wt ∧ wt < 64) (hrq : q ≠ r) (hs : 0 ≤ m r 2 ∧ m r 2 < 536870912) : fj_X5_add_112 r v pt wt m = some (0, mset (mset m q wt v) r 2 (m r 2 + 1)) := by
  obtain ⟨p4, p5, p6⟩ := hP
  unfold fj_X5_add_112
  simp only [lx_t, up_t]
  rw [hp, gd_t okp, gd_t hpt, hq, gd_t p4, w32_id (by omega) (by omega), if_pos (by omega), gd_t ⟨hwt.1, by omega⟩, gd_t p5]
  rw [ms_a (Ne.symm hrq), w32_id (by omega) (by omega)]
theorem add_41 {z p : Int} {k : MM → Option (Int × MM)} {y1 y3 y4 : Int} (hz : z ≠ p) : ∀ (n : Nat) (i : Int) (m : MM), m r 0 = p → z ≠ r → okc m p 108 → okc m z 108 → 0 ≤ i → i ≤ m p (-2) → m p (-2) ≤ m z (-2) → m z (-2) < 1073741824 → (∀ j, 0 ≤ j → j < m p (-2) → m p j = 0 ∨ okc m (m p j) 101) → m p (-2) - i < n → fl_X5_add_41 r y1 y3 y4 z k n i m = k (cpR m z p i (m p (-2))) := by
  intro n
  induction n with
  | zero => intro i m h1 h2 h3 h4 h5 h6 h7 h8 h9 h10; omega
  | succ n ih =>
    intro i m h1 h2 h3 h4 h5 h6 h7 h8 h9 h10
    unfold fl_X5_add_41
    simp only [lx_t, up_t]
    rw [h1, gd_t h3, w32_id (by omega) (by omega)]
    by_cases hi : i < m p (-2)
    · rw [if_pos hi, gd_t h4, w32_id (by omega) (by omega), if_pos (by omega), gd_t ⟨h5, hi⟩, gd_t ⟨h5, by omega⟩, gd_t (h9 i h5 hi), w32_id (by omega) (by omega)]
      have hx : Ext m (mset m z i (m p i)) := mset_ext h4.1 h5
      have e1 : mset m z i (m p i) p (-2) = m p (-2) := ms_a (Ne.symm hz)
      have e2 : mset m z i (m p i) z (-2) = m z (-2) := ms_j (by omega)
      have e3 : ∀ j, mset m z i (m p i) p j = m p j := fun j => ms_a (Ne.symm hz)
      rw [ih (i + 1) (mset m z i (m p i)) (by rw [ms_a (Ne.symm h2)]; exact h1) h2 (hx.ok h3) (hx.ok h4) (by omega) (by rw [e1]; omega) (by rw [e1, e2]; exact h7) (by rw [e2]; exact h8) (fun j g1 g2 => by
        rw [e3]
        rw [e1] at g2
        exact (h9 j g1 g2).imp id fun h => hx.ok h) (by rw [e1]; omega), e1]
      congr 1
      funext b j
      unfold cpR
      by_cases hb : b = z
      · subst hb
        by_cases hj : i ≤ j ∧ j < m p (-2)
        · rw [if_pos (show b = b ∧ i ≤ j ∧ j < m p (-2) from ⟨rfl, hj⟩)]
          by_cases hj2 : j = i
          · rw [if_neg (show ¬ (b = b ∧ i + 1 ≤ j ∧ j < m p (-2)) by omega), hj2, ms_e]
          · rw [if_pos (show b = b ∧ i + 1 ≤ j ∧ j < m p (-2) from ⟨rfl, by omega, hj.2⟩), e3]
        · rw [if_neg (show ¬ (b = b ∧ i + 1 ≤ j ∧ j < m p (-2)) by omega), if_neg (show ¬ (b = b ∧ i ≤ j ∧ j < m p (-2)) by omega), ms_j (by omega)]
      · rw [if_neg (fun h => hb h.1), if_neg (fun h => hb h.1), ms_a hb]
    · rw [if_neg hi]
      congr 1
      funext b j
      unfold cpR
      rw [if_neg (by omega)]
theorem okc_ap {a b : Int} {c d : Nat} (h1 : okc m a c) (h2 : okc m b d) (hcd : c ≠ d) : a ≠ b := by
  intro h
  subst h
  have e := h1.2.2.symm.trans h2.2.2
  omega
theorem mn_o {kd ln a j : Int} (h1 : a ≠ m 0 0) (h2 : a ≠ 0) : mnew m kd ln a j = m a j := by
  unfold mnew
  rw [if_neg h1, if_neg h2]
theorem mn_n {kd ln j : Int} (h1 : j ≠ -1) (h2 : j ≠ -2) : mnew m kd ln (m 0 0) j = 0 := by
  unfold mnew
  rw [if_pos rfl, if_neg h1, if_neg h2]
theorem mn_l {kd ln : Int} : mnew m kd ln (m 0 0) (-2) = ln := by
  unfold mnew
  rw [if_pos rfl, if_neg (by decide), if_pos rfl]
theorem mn_c {kd ln : Int} (h : m 0 0 ≠ 0) : mnew m kd ln 0 0 = m 0 0 + 1 ∧ mnew m kd ln 0 1 = m 0 1 + ln := by
  unfold mnew
  rw [if_neg (Ne.symm h), if_pos rfl, if_pos rfl, if_neg (Ne.symm h), if_pos rfl, if_neg (by decide), if_pos rfl]
  exact ⟨rfl, rfl⟩
theorem add_83 {p pt wt : Int} (h0 : 163 ≤ m 0 0) (okr : okc m r 6) (hp : m r 0 = p) (okp : okc m p 108) (hpt : 0 ≤ pt ∧ pt < m p (-2)) (hl : m p (-2) < 1073741824) (hq : m p pt = 0 ∨ (m p pt ≠ 0 ∧ PtOk m (m p pt))) (hwt : wt = m r 2 % 64) (hpts : pt = m r 2 / 64) (hs : 0 ≤ m r 2 ∧ m r 2 < 536870912) : fj_X5_add_83 r v pt wt m = some (0, if m p pt = 0 then addB m r v else addA m r v (m p pt)) := by
  have hrp : r ≠ p := okc_ap okr okp (by decide)
  unfold fj_X5_add_83
  simp only [lx_t]
  rw [hp, gd_t okp, w32_id (by omega) (by omega), if_pos hpt.2, gd_t hpt]
  by_cases hz : m p pt = 0
  · rw [if_pos hz, if_pos hz, nw_t, up_t]
    have hz0 : m 0 0 ≠ p := by have := okp.2.1; omega
    have hzr : m 0 0 ≠ r := by have := okr.2.1; omega
    have hx : Ext m (mset (mnew m 101 64) p pt (m 0 0)) := (mnew_ext (by omega)).tr (mset_ext okp.1 hpt.1)
    have e1 : mset (mnew m 101 64) p pt (m 0 0) r 0 = p := by rw [ms_a hrp, mn_o (Ne.symm hzr) (by have := okr.1; omega)]; exact hp
    have e2 : mset (mnew m 101 64) p pt (m 0 0) r 2 = m r 2 := by rw [ms_a hrp, mn_o (Ne.symm hzr) (by have := okr.1; omega)]
    have e3 : mset (mnew m 101 64) p pt (m 0 0) 0 0 = m 0 0 + 1 := by rw [ms_a (by have := okp.1; omega)]; exact (mn_c (by omega)).1
    have hP : PtOk (mset (mnew m 101 64) p pt (m 0 0)) (m 0 0) := by
      refine ⟨⟨by omega, by rw [e3]; omega, ?_⟩, by omega, by rw [ms_a hz0]; exact mn_l⟩
      rw [ms_a hz0]
      unfold mnew
      rw [if_pos rfl, if_pos rfl]
      rfl
    rw [add_112 e1 ms_e (hx.ok okp) ⟨hpt.1, by rw [(hx.2 p okp.1 okp.2.1).2]; exact hpt.2⟩ hP (by omega) hzr (by rw [e2]; exact hs), e2]
    unfold addB addA
    rw [hp, hwt, ← hpts, e2]
  · rw [if_neg hz, if_neg hz]
    have hP := (hq.resolve_left hz).2
    rw [add_112 hp rfl okp hpt hP (by omega) (okc_ap hP.1 okr (by decide)) hs]
    unfold addA
    rw [hwt]
theorem add_eq (h0 : 163 ≤ m 0 0) (h : RowOk m r) : fm_X5_add r v m = some (0, addM m r v) := by
  have hs := h.sz
  obtain ⟨okr, okp, g1, g2, g3, g4, g5, g6, g7⟩ := h
  unfold fm_X5_add addM
  simp only [lx_t]
  rw [iShr_6 hs.1 (by omega), iAnd_63 hs.1 (by omega), gd_t okp, w32_id (by omega) (by omega)]
  by_cases hpt : m r 2 / 64 < m (m r 0) (-2)
  · rw [if_pos hpt, if_pos hpt]
    exact add_83 h0 okr rfl okp ⟨by omega, hpt⟩ (by omega) ((g7 _ (by omega) hpt).imp (·.1) id) rfl rfl hs
  · rw [if_neg hpt, if_neg hpt, w32_id (by omega) (by omega), gd_t ⟨by omega, by omega⟩, nw_t]
    have hrp : r ≠ m r 0 := okc_ap okr okp (by decide)
    have hz0 : m 0 0 ≠ m r 0 := by have := okp.2.1; omega
    have hzr : m 0 0 ≠ r := by have := okr.2.1; omega
    have hx : Ext m (mnew m 108 (2 * m (m r 0) (-2))) := mnew_ext (by omega)
    have o1 : ∀ j, mnew m 108 (2 * m (m r 0) (-2)) r j = m r j := fun j => mn_o (Ne.symm hzr) (by have := okr.1; omega)
    have o2 : ∀ j, mnew m 108 (2 * m (m r 0) (-2)) (m r 0) j = m (m r 0) j := fun j => mn_o (Ne.symm hz0) (by have := okp.1; omega)
    have oz : okc (mnew m 108 (2 * m (m r 0) (-2))) (m 0 0) 108 := okc_new (c := 108) (by omega)
    rw [add_41 (p := m r 0) hz0 BIG 0 _ (o1 0) hzr (hx.ok okp) oz (by omega) (by rw [o2]; omega) (by rw [o2, mn_l]; omega) (by rw [mn_l]; omega) (fun j j1 j2 => by
      rw [o2] at j2 ⊢
      exact (g7 j j1 j2).imp (·.1) fun hh => hx.ok hh.2.1) (by rw [o2]; unfold BIG; omega), o2, up_t]
    have eG : mset (cpR (mnew m 108 (2 * m (m r 0) (-2))) (m 0 0) (m r 0) 0 (m (m r 0) (-2))) r 0 (m 0 0) = addG m r := rfl
    rw [eG]
    have a1 : ∀ b j, b ≠ m 0 0 → b ≠ 0 → (b ≠ r ∨ j ≠ 0) → addG m r b j = m b j := by
      intro b j b1 b2 b3
      unfold addG
      have : mset (cpR (mnew m 108 (2 * m (m r 0) (-2))) (m 0 0) (m r 0) 0 (m (m r 0) (-2))) r 0 (m 0 0) b j = cpR (mnew m 108 (2 * m (m r 0) (-2))) (m 0 0) (m r 0) 0 (m (m r 0) (-2)) b j := if_neg (by omega)
      rw [this]
      unfold cpR
      rw [if_neg (fun hh => b1 hh.1), mn_o b1 b2]
    have a2 : addG m r r 0 = m 0 0 := ms_e
    have a3 : ∀ j, j < 0 ∨ m (m r 0) (-2) ≤ j → addG m r (m 0 0) j = mnew m 108 (2 * m (m r 0) (-2)) (m 0 0) j := by
      intro j hj
      unfold addG
      rw [ms_a hzr]
      unfold cpR
      rw [if_neg (by omega)]
    have a4 : addG m r 0 0 = m 0 0 + 1 := by
      unfold addG
      rw [ms_a (by have := okr.1; omega)]
      unfold cpR
      rw [if_neg (by omega)]
      exact (mn_c (by omega)).1
    have e2 : addG m r r 2 = m r 2 := a1 r 2 (Ne.symm hzr) (by have := okr.1; omega) (Or.inr (by decide))
    have ok1 : okc (addG m r) r 6 := ⟨okr.1, by rw [a4]; have := okr.2.1; omega, by rw [a1 r (-1) (Ne.symm hzr) (by have := okr.1; omega) (Or.inr (by decide))]; exact okr.2.2⟩
    have ok2 : okc (addG m r) (m 0 0) 108 := ⟨by omega, by rw [a4]; omega, by rw [a3 _ (Or.inl (by decide))]; exact oz.2.2⟩
    have el : addG m r (m 0 0) (-2) = 2 * m (m r 0) (-2) := by rw [a3 _ (Or.inl (by decide))]; exact mn_l
    have eq0 : addG m r (m 0 0) (m r 2 / 64) = 0 := by rw [a3 _ (Or.inr (by omega))]; exact mn_n (by omega) (by omega)
    rw [add_83 (p := m 0 0) (by rw [a4]; omega) ok1 a2 ok2 ⟨by omega, by rw [el]; omega⟩ (by rw [el]; omega) (Or.inl eq0) (by rw [e2]) (by rw [e2]) (by rw [e2]; exact hs), if_pos eq0]
end ROW
