/-! LAYER 2: events as numbers, in the reference and in the class. -/
section EVB
/-- an event of the reference: kind, x, y, when -/
def rpk (k x y w : Nat) : Nat := (1000 * k + y) * 2 ^ 48 + (x * 2 ^ 29 + w)
theorem r_pack {k x y w : Nat} (hk : k ≤ 17) (hy : y ≤ 999) (hx : x < 524288) (hw : w < 536870912) : lOr (lOr (lShl (w32 ((w32 (1000 * (k : Int))) + (y : Int))) 48) (lShl (x : Int) 29)) (w : Int) = (rpk k x y w : Int) := by
  have e1 : w32 ((w32 (1000 * (k : Int))) + (y : Int)) = ((1000 * k + y : Nat) : Int) := by
    rw [w32_id (z := 1000 * (k : Int)) (by omega) (by omega), w32_id (by omega) (by omega)]
    omega
  have p1 : PK ((1000 * k + y : Nat) : Int) (1000 * k + y) := PK.n (Int.natCast_nonneg _) (by omega)
  have p2 : PK (x : Int) x := PK.n (Int.natCast_nonneg _) (by omega)
  have p3 : PK (w : Int) w := PK.n (Int.natCast_nonneg _) (by omega)
  have q1 := p1.shl (k := 48) (n := 48) (by decide) (by decide) (by omega)
  have q2 := p2.shl (k := 29) (n := 29) (by decide) (by decide) (by omega)
  have q := (q1.or q2).or p3
  rw [e1]
  have en : ((1000 * k + y) * 2 ^ 48 ||| x * 2 ^ 29) ||| w = rpk k x y w := by
    rw [Nat.or_assoc, or_add (show w < 2 ^ 29 by omega), or_add (show x * 2 ^ 29 + w < 2 ^ 48 by omega)]
    rfl
  rw [en] at q
  exact q.vOr (by unfold rpk; omega)
theorem rpk_lt {k x y w : Nat} (hk : k ≤ 17) (hy : y ≤ 999) (hx : x < 524288) (hw : w < 536870912) : rpk k x y w < 9223372036854775808 := by unfold rpk; omega
theorem rpk_K {k x y w : Nat} (hk : k ≤ 17) (hy : y ≤ 999) (hx : x < 524288) (hw : w < 536870912) : PK (rpk k x y w : Int) (rpk k x y w) := PK.n (Int.natCast_nonneg _) (by have := rpk_lt hk hy hx hw; omega)
theorem r_hi {k x y w : Nat} (hk : k ≤ 17) (hy : y ≤ 999) (hx : x < 524288) (hw : w < 536870912) : w32 (lShr (rpk k x y w : Int) 48) = ((1000 * k + y : Nat) : Int) := by
  have p := (rpk_K hk hy hx hw).shr (k := 48) (n := 48) (rpk_lt hk hy hx hw) (by decide) (by decide)
  have e : rpk k x y w / 2 ^ 48 = 1000 * k + y := by unfold rpk; omega
  rw [e] at p
  rw [p.vShr (by omega)]
  exact w32_id (by omega) (by omega)
theorem r_kind {k x y w : Nat} (hk : k ≤ 17) (hy : y ≤ 999) (hx : x < 524288) (hw : w < 536870912) : w32 (Int.tdiv (w32 (lShr (rpk k x y w : Int) 48)) 1000) = (k : Int) := by
  rw [r_hi hk hy hx hw, tdiv_e (Int.natCast_nonneg _)]
  have : ((1000 * k + y : Nat) : Int) / 1000 = k := by omega
  rw [this]
  exact w32_id (by omega) (by omega)
theorem r_y {k x y w : Nat} (hk : k ≤ 17) (hy : y ≤ 999) (hx : x < 524288) (hw : w < 536870912) : Int.tmod (w32 (lShr (rpk k x y w : Int) 48)) 1000 = (y : Int) := by
  rw [r_hi hk hy hx hw, tmod_e (Int.natCast_nonneg _)]
  omega
theorem r_x {k x y w : Nat} (hk : k ≤ 17) (hy : y ≤ 999) (hx : x < 524288) (hw : w < 536870912) : w32 (lAnd (lShr (rpk k x y w : Int) 29) 524287) = (x : Int) := by
  have p := (rpk_K hk hy hx hw).shr (k := 29) (n := 29) (rpk_lt hk hy hx hw) (by decide) (by decide)
  have p2 : PK 524287 524287 := PK.n (by decide) (by decide)
  have q := p.and p2
  have e : rpk k x y w / 2 ^ 29 &&& 524287 = x := by
    rw [show (524287 : Nat) = 2 ^ 19 - 1 from rfl, and_mask]
    unfold rpk
    omega
  rw [e] at q
  rw [q.vAnd (by omega)]
  exact w32_id (by omega) (by omega)
theorem r_w {k x y w : Nat} (hk : k ≤ 17) (hy : y ≤ 999) (hx : x < 524288) (hw : w < 536870912) : w32 (lAnd (rpk k x y w : Int) 536870911) = (w : Int) := by
  have p2 : PK 536870911 536870911 := PK.n (by decide) (by decide)
  have q := (rpk_K hk hy hx hw).and p2
  have e : rpk k x y w &&& 536870911 = w := by
    rw [show (536870911 : Nat) = 2 ^ 29 - 1 from rfl, and_mask]
    unfold rpk
    omega
  rw [e] at q
  rw [q.vAnd (by omega)]
  exact w32_id (by omega) (by omega)
/-- an event of the class: kind, x, y, time or order and clock -/
def kpk (k x y w : Nat) : Nat := k * 2 ^ 59 + (x * 2 ^ 40 + (y * 2 ^ 30 + w))
theorem c_pack {k x y w : Nat} (hk : k ≤ 17) (hx : x < 524288) (hy : y < 1024) (hw : w < 1073741824) : PK (lOr (lOr (lOr (lShl (k : Int) 59) (lShl (iAnd (x : Int) 524287) 40)) (lShl (iAnd (y : Int) 1023) 30)) (iAnd (w : Int) 1073741823)) (kpk k x y w) := by
  have e1 : iAnd (x : Int) 524287 = (x : Int) := by
    rw [iAnd_mask 19 (by decide) (by decide) (Int.natCast_nonneg _) (by omega)]
    omega
  have e2 : iAnd (y : Int) 1023 = (y : Int) := by
    rw [iAnd_mask 10 (by decide) (by decide) (Int.natCast_nonneg _) (by omega)]
    omega
  have e3 : iAnd (w : Int) 1073741823 = (w : Int) := by
    rw [iAnd_mask 30 (by decide) (by decide) (Int.natCast_nonneg _) (by omega)]
    omega
  rw [e1, e2, e3]
  have p0 : PK (k : Int) k := PK.n (Int.natCast_nonneg _) (by omega)
  have p1 : PK (x : Int) x := PK.n (Int.natCast_nonneg _) (by omega)
  have p2 : PK (y : Int) y := PK.n (Int.natCast_nonneg _) (by omega)
  have p3 : PK (w : Int) w := PK.n (Int.natCast_nonneg _) (by omega)
  have q0 := p0.shl (k := 59) (n := 59) (by decide) (by decide) (by omega)
  have q1 := p1.shl (k := 40) (n := 40) (by decide) (by decide) (by omega)
  have q2 := p2.shl (k := 30) (n := 30) (by decide) (by decide) (by omega)
  have q := ((q0.or q1).or q2).or p3
  have en : ((k * 2 ^ 59 ||| x * 2 ^ 40) ||| y * 2 ^ 30) ||| w = kpk k x y w := by
    rw [Nat.or_assoc, Nat.or_assoc, or_add (show w < 2 ^ 30 by omega), or_add (show y * 2 ^ 30 + w < 2 ^ 40 by omega), or_add (show x * 2 ^ 40 + (y * 2 ^ 30 + w) < 2 ^ 59 by omega)]
    rfl
  rw [en] at q
  exact q
variable {h : Int} {k x y w : Nat}
theorem c_up (p : PK h (kpk k x y w)) (hk : k ≤ 17) (hx : x < 524288) (hy : y < 1024) (hw : w < 1073741824) : lUshr h 59 = (k : Int) := by
  have q := p.ushr (k := 59) (n := 59) (by decide) (by decide)
  have e : kpk k x y w / 2 ^ 59 = k := by unfold kpk; omega
  rw [e] at q
  exact q.vUshr (by omega)
theorem c_kind (p : PK h (kpk k x y w)) (hk : k ≤ 17) (hx : x < 524288) (hy : y < 1024) (hw : w < 1073741824) : w32 (lUshr h 59) = (k : Int) := by
  rw [c_up p hk hx hy hw]
  exact w32_id (by omega) (by omega)
theorem c_x (p : PK h (kpk k x y w)) (hk : k ≤ 17) (hx : x < 524288) (hy : y < 1024) (hw : w < 1073741824) : iAnd (w32 (lUshr h 40)) 524287 = (x : Int) := by
  have q := p.ushr (k := 40) (n := 40) (by decide) (by decide)
  rw [iAnd_low (k := 19) q (by decide) (by decide)]
  have e : kpk k x y w / 2 ^ 40 % 2 ^ 19 = x := by unfold kpk; omega
  rw [e]
theorem c_y (p : PK h (kpk k x y w)) (hk : k ≤ 17) (hx : x < 524288) (hy : y < 1024) (hw : w < 1073741824) : iAnd (w32 (lUshr h 30)) 1023 = (y : Int) := by
  have q := p.ushr (k := 30) (n := 30) (by decide) (by decide)
  rw [iAnd_low (k := 10) q (by decide) (by decide)]
  have e : kpk k x y w / 2 ^ 30 % 2 ^ 10 = y := by unfold kpk; omega
  rw [e]
theorem c_time (p : PK h (kpk k x y w)) (hk : k ≤ 17) (hx : x < 524288) (hy : y < 1024) (hw : w < 1073741824) : iAnd (w32 h) 1073741823 = (w : Int) := by
  rw [iAnd_low (k := 30) p (by decide) (by decide)]
  have e : kpk k x y w % 2 ^ 30 = w := by unfold kpk; omega
  rw [e]
theorem c_clock (p : PK h (kpk k x y w)) (hk : k ≤ 17) (hx : x < 524288) (hy : y < 1024) (hw : w < 1073741824) : iAnd (w32 h) 1023 = ((w % 1024 : Nat) : Int) := by
  rw [iAnd_low (k := 10) p (by decide) (by decide)]
  have e : kpk k x y w % 2 ^ 10 = w % 1024 := by unfold kpk; omega
  rw [e]
theorem c_order (p : PK h (kpk k x y w)) (hk : k ≤ 17) (hx : x < 524288) (hy : y < 1024) (hw : w < 1073741824) : iAnd (w32 (lUshr h 10)) 1048575 = ((w / 1024 : Nat) : Int) := by
  have q := p.ushr (k := 10) (n := 10) (by decide) (by decide)
  rw [iAnd_low (k := 20) q (by decide) (by decide)]
  have e : kpk k x y w / 2 ^ 10 % 2 ^ 20 = w / 1024 := by unfold kpk; omega
  rw [e]
end EVB
