/-! THE LEDGER: what it comes to, and how it begins. -/
section LGB
variable {e e' : ES} {S D T A B P V S' D' T' a b c i j p k30 k31 v w ℓ : Int} {W : Int} {Y : Int → Int → Prop} {X : Int → Int → Int → Prop} {f : Int → Int}
theorem sm_z (h : ∀ i : Int, 0 ≤ i → f i = 0) : ∀ n : Nat, sm f n = 0 := by
  intro n
  induction n with
  | zero => rfl
  | succ n ih =>
    show sm f n + f (n : Int) = 0
    rw [ih, h (n : Int) (by omega)]
    rfl
theorem QLk_n : 0 ≤ QLk e := by
  have h1 : 0 ≤ sm (qTm e) 30 := sm_nn (fun i _ => by unfold qTm; split <;> omega) 30
  have h2 : 0 ≤ sm (qAc e) 60 := sm_nn (fun i _ => by unfold qAc; split <;> omega) 60
  unfold QLk
  omega
theorem QV_n (h : HK S D T Y X e) : 0 ≤ QV e := by
  have h1 : 0 ≤ sm (qAl e) 30 := sm_nn (fun i _ => by unfold qAl; split <;> omega) 30
  have h2 : 0 ≤ sm (qNc e) 30 := sm_nn (fun i i0 => by
    by_cases ci : i < e.1 7 2
    · have w1 : qNc e i = 1 - ccr e i := if_pos ci
      have := ccr_01 (h.2.1 i i0 ci).1.2
      omega
    · have w1 : qNc e i = 0 := if_neg ci
      omega) 30
  unfold QV
  omega
theorem sm_cst (h : ∀ i : Int, 0 ≤ i → f i ≤ c) : ∀ n : Nat, sm f n ≤ c * n := by
  intro n
  induction n with
  | zero => show (0 : Int) ≤ c * 0; rw [Int.mul_zero]; exact Int.le_refl _
  | succ n ih =>
    have := h (n : Int) (by omega)
    show sm f n + f (n : Int) ≤ c * ((n + 1 : Nat) : Int)
    rw [show ((n + 1 : Nat) : Int) = (n : Int) + 1 by omega, Int.mul_add, Int.mul_one]
    omega
theorem QV_le : QV e ≤ 60 := by
  have h1 := sm_cst (f := qAl e) (c := 1) (fun i _ => by unfold qAl; split <;> omega) 30
  have h2 := sm_cst (f := qNc e) (c := 1) (fun i _ => by
    have := ccn_n (E := eH e i) (hN e i).toNat
    unfold qNc ccr
    split <;> omega) 30
  unfold QV
  omega
theorem QLk_le (h : HK S D T nWt X e) (hF : FBi nZ e) : QLk e ≤ 420 := by
  have n7 := h.cn.1
  have h1 := sm_cst (f := qTm e) (c := 12) (fun q q0 => by
    by_cases ci : q < e.1 7 2
    · have w1 : qTm e q = ((eL e (73000 + q)).length : Int) := if_pos ci
      have : (eL e (73000 + q)).length ≤ 12 := by
        refine tm12 (p := hN e q) h (hF.2.1 q q0 ci).2.1 q0 ci (h.len q0 ci).1 (Int.le_refl _) (fun j j0 j1 hw => hw.elim) fun v hv => ?_
        exact (h.2.2.2.1 9 q v 0 (Or.inr (Or.inr (Or.inl ⟨rfl, rfl, ⟨q0, ci⟩, hv⟩)))).2.1.2.1
      omega
    · have w1 : qTm e q = 0 := if_neg ci
      omega) 30
  have h2 := sm_cst (f := qAc e) (c := 1) (fun i _ => by unfold qAc; split <;> omega) 60
  unfold QLk
  omega
theorem mul_top (h0 : 0 ≤ p) (h1 : p ≤ 273) : p * (546 - 2 * p) ≤ 37264 := by
  have key : ∀ n : Fin 274, ((n.val : Nat) : Int) * (546 - 2 * ((n.val : Nat) : Int)) ≤ 37264 := by decide +kernel
  have := key ⟨p.toNat, by omega⟩
  rw [show (((⟨p.toNat, by omega⟩ : Fin 274).val : Nat) : Int) = p by show ((p.toNat : Nat) : Int) = p; omega] at this
  exact this
/-- what V and W come to, by products -/
theorem LG.vw (h : LG k30 k31 ℓ S D T A B P W V e) (h7 : e.1 7 2 ≤ 30) : 2 * V ≤ S * (1 + B + T + D) ∧ W ≤ S * (B + T + D) ∧ V ≤ S * (31 + T) ∧ W ≤ S * (30 + T) := by
  obtain ⟨⟨⟨b0, a0, b1⟩, s0, d0, t0⟩, ⟨v0, ⟨p0, p1⟩, v1⟩, ⟨w0, w1⟩, h4, -⟩ := h
  have hU : 0 ≤ sm (qU e) 30 := sm_nn (fun i _ => (qu_cs i).1) 30
  have hL : 0 ≤ LO e := LO_n
  have m1 : S * (1 + B + T + D) = S + S * (B + T) + S * D := by
    rw [show 1 + B + T + D = 1 + (B + T) + D by omega, Int.mul_add, Int.mul_add, Int.mul_one]
  have m2 : S * (B + T + D) = S * (B + T) + S * D := Int.mul_add _ _ _
  have m3 : S * (31 + T) = S + S * (30 + T) := by rw [show 31 + T = 1 + (30 + T) by omega, Int.mul_add, Int.mul_one]
  have m4 : S * (B + T + A) = S * (B + T) + S * A := Int.mul_add _ _ _
  have m5 : S * (B + T + A) ≤ S * (30 + T) := Int.mul_le_mul_of_nonneg_left (by omega) s0
  exact ⟨by omega, by omega, by omega, by omega⟩
theorem LG.num (h : LG k30 k31 ℓ S D T A B P W V e) (hh : HK S' D' T' Y X e) (hk : S + 2 * D + 2 * T + B ≤ 513) : V ≤ 18632 ∧ W ≤ 37264 ∧ e.1 4 16 ≤ 897000 ∧ e.1 3 0 ≤ k30 + 2420000 ∧ e.1 3 1 ≤ k31 + 890000 ∧ e.1 68 29 ≤ 320000 := by
  have n7 := hh.cn.1
  obtain ⟨g1, g2, -, -⟩ := h.vw n7.2
  obtain ⟨⟨⟨b0, a0, b1⟩, s0, d0, t0⟩, ⟨v0, ⟨p0, p1⟩, v1⟩, ⟨w0, w1⟩, h4, h5, h6, h7, h9, -⟩ := h
  have hL : 0 ≤ LO e := LO_n
  have hK := QLk_n (e := e)
  have hV := QV_n hh
  have c1 := Int.mul_comm S (1 + B + T + D)
  have c2 := mul_up (a := S) (b := 546 - 2 * (1 + B + T + D)) (c := 1 + B + T + D) (by omega) (by omega)
  have c3 := Int.mul_comm (546 - 2 * (1 + B + T + D)) (1 + B + T + D)
  have c4 := mul_top (p := 1 + B + T + D) (by omega) (by omega)
  have c5 : S * (B + T + D) ≤ S * (1 + B + T + D) := Int.mul_le_mul_of_nonneg_left (by omega) s0
  rw [c1] at g1 c5
  rw [c3] at c2
  have hc : S * (1 + B + T + D) = (1 + B + T + D) * S := c1
  rw [hc] at c2
  have hV2 : V ≤ 18632 := by
    generalize (1 + B + T + D) * S = q1 at *
    generalize (1 + B + T + D) * (546 - 2 * (1 + B + T + D)) = q2 at *
    omega
  have hW2 : W ≤ 37264 := by
    generalize (1 + B + T + D) * S = q1 at *
    generalize (1 + B + T + D) * (546 - 2 * (1 + B + T + D)) = q2 at *
    generalize S * (B + T + D) = q3 at *
    omega
  exact ⟨hV2, hW2, by omega, by omega, by omega, by omega⟩
theorem sq_nn (a : Int) : 0 ≤ a * a := by
  by_cases c : 0 ≤ a
  · exact Int.mul_nonneg c c
  · have := Int.mul_nonneg (show 0 ≤ -a by omega) (show 0 ≤ -a by omega)
    rw [Int.neg_mul_neg] at this
    exact this
theorem am1 (a x : Int) : 8 * (a * (x - 2 * a)) ≤ x * x := by
  have h := sq_nn (x - 4 * a)
  rw [Int.sub_mul, Int.mul_sub, Int.mul_sub] at h
  have e1 : x * (4 * a) = 4 * (a * x) := by rw [Int.mul_left_comm, Int.mul_comm x a]
  have e2 : 4 * a * x = 4 * (a * x) := Int.mul_assoc _ _ _
  have e3 : 4 * a * (4 * a) = 16 * (a * a) := by rw [Int.mul_assoc, Int.mul_left_comm a 4 a]; omega
  have e4 : a * (x - 2 * a) = a * x - 2 * (a * a) := by rw [Int.mul_sub, Int.mul_left_comm]
  omega
theorem am2 (a b : Int) : 24 * (a * b) ≤ (2 * a + 3 * b) * (2 * a + 3 * b) := by
  have h := sq_nn (2 * a - 3 * b)
  rw [Int.sub_mul, Int.mul_sub, Int.mul_sub] at h
  rw [Int.add_mul, Int.mul_add, Int.mul_add]
  have e1 : 2 * a * (2 * a) = 4 * (a * a) := by rw [Int.mul_assoc, Int.mul_left_comm a 2 a]; omega
  have e2 : 2 * a * (3 * b) = 6 * (a * b) := by rw [Int.mul_assoc, Int.mul_left_comm a 3 b]; omega
  have e3 : 3 * b * (2 * a) = 6 * (a * b) := by rw [Int.mul_assoc, Int.mul_left_comm b 2 a, Int.mul_comm b a]; omega
  have e4 : 3 * b * (3 * b) = 9 * (b * b) := by rw [Int.mul_assoc, Int.mul_left_comm b 3 b]; omega
  omega
theorem tb1 {L : Int} (h0 : 2 ≤ L) (h1 : L ≤ 24) : (59 * L - 60) * ((545 - L) * (545 - L)) + 16 * (965 * L * 84) < 16 * (L * 1048576) := by
  have key : ∀ n : Fin 25, 2 ≤ n.val → (59 * ((n.val : Nat) : Int) - 60) * ((545 - ((n.val : Nat) : Int)) * (545 - ((n.val : Nat) : Int))) + 16 * (965 * ((n.val : Nat) : Int) * 84) < 16 * (((n.val : Nat) : Int) * 1048576) := by decide +kernel
  have := key ⟨L.toNat, by omega⟩ (by show 2 ≤ L.toNat; omega)
  rw [show (((⟨L.toNat, by omega⟩ : Fin 25).val : Nat) : Int) = L by show ((L.toNat : Nat) : Int) = L; omega] at this
  exact this
theorem tb2 {L : Int} (h0 : 2 ≤ L) (h1 : L ≤ 24) (d0 : 85 ≤ D) (d1 : D ≤ 256) : (59 * L - 60) * ((1665 - 3 * L - 4 * D) * (1665 - 3 * L - 4 * D)) + 96 * (965 * L * D) < 96 * (L * 1048576) := by
  have key : ∀ n : Fin 25, ∀ d : Fin 257, 2 ≤ n.val → 85 ≤ d.val → (59 * ((n.val : Nat) : Int) - 60) * ((1665 - 3 * ((n.val : Nat) : Int) - 4 * ((d.val : Nat) : Int)) * (1665 - 3 * ((n.val : Nat) : Int) - 4 * ((d.val : Nat) : Int))) + 96 * (965 * ((n.val : Nat) : Int) * ((d.val : Nat) : Int)) < 96 * (((n.val : Nat) : Int) * 1048576) := by decide +kernel
  have := key ⟨L.toNat, by omega⟩ ⟨D.toNat, by omega⟩ (by show 2 ≤ L.toNat; omega) (by show 85 ≤ D.toNat; omega)
  rw [show (((⟨L.toNat, by omega⟩ : Fin 25).val : Nat) : Int) = L by show ((L.toNat : Nat) : Int) = L; omega, show (((⟨D.toNat, by omega⟩ : Fin 257).val : Nat) : Int) = D by show ((D.toNat : Nat) : Int) = D; omega] at this
  exact this
theorem tg_end {L t : Int} (h0 : 1 ≤ L) (h : L * t < L * 1048576) : t < 1048576 := by
  by_cases c : t < 1048576
  · exact c
  · have := Int.mul_le_mul_of_nonneg_left (show (1048576 : Int) ≤ t by omega) (show 0 ≤ L by omega)
    omega
/-- HOW MANY TAGS -/
theorem LG.tags (h : LG k30 k31 ℓ S D T A B P W V e) (h7 : e.1 7 2 ≤ 30) (l0 : 0 ≤ ℓ) (l1 : ℓ ≤ 24) (hk : S + 2 * D + 2 * T + B + ℓ ≤ 513) : e.1 4 11 < 1048576 := by
  obtain ⟨g1, -, g3, -⟩ := h.vw h7
  obtain ⟨⟨⟨b0, a0, b1⟩, s0, d0, t0⟩, ⟨v0, -⟩, -, -, -, -, -, -, hT⟩ := h
  by_cases c2 : ℓ < 2
  · have h1 := hT 2 (by decide) (by omega)
    have h2 := hT 1 (by decide) (by omega)
    omega
  · have h1 := hT ℓ (by omega) (Int.le_refl _)
    refine tg_end (L := ℓ) (by omega) ?_
    by_cases cd : D ≤ 84
    · have q1 := am1 (1 + B + T + D) (545 - ℓ)
      have q2 := mul_up (a := S) (b := 545 - ℓ - 2 * (1 + B + T + D)) (c := 1 + B + T + D) (by omega) (by omega)
      rw [Int.mul_comm (545 - ℓ - 2 * (1 + B + T + D))] at q2
      have q3 := Int.mul_le_mul_of_nonneg_left (show 16 * V ≤ (545 - ℓ) * (545 - ℓ) by omega) (show 0 ≤ 59 * ℓ - 60 by omega)
      have q4 := Int.mul_le_mul_of_nonneg_left cd (show 0 ≤ 965 * ℓ by omega)
      have q5 := tb1 (L := ℓ) (by omega) l1
      rw [Int.mul_left_comm] at q3
      omega
    · have q1 := am2 (63 + B + 3 * T + D) (513 - ℓ - 2 * D - 2 * T - B)
      have q2 := mul_up (a := S) (b := 513 - ℓ - 2 * D - 2 * T - B) (c := 63 + B + 3 * T + D) (by omega) (by omega)
      have m1 : S * (63 + B + 3 * T + D) = 2 * (S * (31 + T)) + S * (1 + B + T + D) := by
        rw [show 63 + B + 3 * T + D = 2 * (31 + T) + (1 + B + T + D) by omega, Int.mul_add, Int.mul_left_comm]
      rw [Int.mul_comm (513 - ℓ - 2 * D - 2 * T - B)] at q2
      have q6 : (2 * (63 + B + 3 * T + D) + 3 * (513 - ℓ - 2 * D - 2 * T - B)) * (2 * (63 + B + 3 * T + D) + 3 * (513 - ℓ - 2 * D - 2 * T - B)) ≤ (1665 - 3 * ℓ - 4 * D) * (1665 - 3 * ℓ - 4 * D) := Int.mul_le_mul (by omega) (by omega) (by omega) (by omega)
      have q3 := Int.mul_le_mul_of_nonneg_left (show 96 * V ≤ (1665 - 3 * ℓ - 4 * D) * (1665 - 3 * ℓ - 4 * D) by omega) (show 0 ≤ 59 * ℓ - 60 by omega)
      have q5 := tb2 (L := ℓ) (D := D) (by omega) l1 (by omega) (by omega)
      rw [Int.mul_left_comm] at q3
      omega
theorem tb3 {y : Int} (h0 : 0 ≤ B) (h1 : B ≤ 30) (y0 : 0 ≤ y) (y1 : y ≤ 256) : (513 - 2 * y - B) * (1846 + 15 * B + 16 * y) + 1611 * y ≤ 1299000 := by
  have key : ∀ n : Fin 31, ∀ d : Fin 257, (513 - 2 * ((d.val : Nat) : Int) - ((n.val : Nat) : Int)) * (1846 + 15 * ((n.val : Nat) : Int) + 16 * ((d.val : Nat) : Int)) + 1611 * ((d.val : Nat) : Int) ≤ 1299000 := by decide +kernel
  have := key ⟨B.toNat, by omega⟩ ⟨y.toNat, by omega⟩
  rw [show (((⟨B.toNat, by omega⟩ : Fin 31).val : Nat) : Int) = B by show ((B.toNat : Nat) : Int) = B; omega, show (((⟨y.toNat, by omega⟩ : Fin 257).val : Nat) : Int) = y by show ((y.toNat : Nat) : Int) = y; omega] at this
  exact this
/-- HOW MUCH IS THE RUNS' OWN; Z calls of copy -/
theorem LG.own (h : LG k30 k31 ℓ S D T A B P W V e) (hh : HK S' D' T' Y X e) {Z : Int} (z0 : 0 ≤ Z) (hk : S + 2 * D + 2 * T + B + Z ≤ 513) : 1800 * S + 1074 * D + 100 * Z + e.1 4 16 ≤ 1300000 := by
  have n7 := hh.cn.1
  obtain ⟨g1, -, -, g4⟩ := h.vw n7.2
  obtain ⟨⟨⟨b0, a0, b1⟩, s0, d0, t0⟩, ⟨v0, -⟩, ⟨w0, -⟩, -, h5, -⟩ := h
  have hL : 0 ≤ LO e := LO_n
  have hK := QLk_n (e := e)
  have hV := QV_n hh
  have m1 : S * (1846 + 15 * B + 16 * (T + D)) = 1831 * S + 15 * (S * (1 + B + T + D)) + S * (T + D) := by
    rw [show 1846 + 15 * B + 16 * (T + D) = 1831 + 15 * (1 + B + T + D) + (T + D) by omega, Int.mul_add, Int.mul_add, Int.mul_left_comm, Int.mul_comm S 1831]
  have m2 : S * (30 + T) = 30 * S + S * T := by rw [Int.mul_add, Int.mul_comm S 30]
  have m3 : S * (T + D) = S * T + S * D := Int.mul_add _ _ _
  have m4 : 0 ≤ S * D := Int.mul_nonneg s0 d0
  have m5 := mul_up (a := S + Z) (b := 513 - 2 * (T + D) - B) (c := 1846 + 15 * B + 16 * (T + D)) (by omega) (by omega)
  have m6 : (S + Z) * (1846 + 15 * B + 16 * (T + D)) = S * (1846 + 15 * B + 16 * (T + D)) + Z * (1846 + 15 * B + 16 * (T + D)) := Int.add_mul _ _ _
  have m7 := Int.mul_le_mul_of_nonneg_left (show (100 : Int) ≤ 1846 + 15 * B + 16 * (T + D) by omega) z0
  have m8 := tb3 (B := B) (y := T + D) b0 (by omega) (by omega) (by omega)
  omega
theorem lg_beg (h29 : e.1 68 29 ≤ 0) (h7 : e.1 7 2 = 0) (h8 : e.1 8 2 = 0) (h16 : e.1 4 16 = 0) (h30 : e.1 3 0 ≤ k30) (h31 : e.1 3 1 ≤ k31) (h11 : e.1 4 11 = 0) : LG k30 k31 0 0 0 0 0 0 0 0 0 e := by
  have a1 : sm (qU e) 30 = 0 := sm_z (fun i i0 => if_neg (by omega)) 30
  have a2 : sm (qTm e) 30 = 0 := sm_z (fun i i0 => if_neg (by omega)) 30
  have a3 : sm (qAc e) 60 = 0 := sm_z (fun i i0 => if_neg (fun g => by omega)) 60
  have a4 : sm (qAl e) 30 = 0 := sm_z (fun i i0 => if_neg (fun g => by omega)) 30
  have a5 : sm (qNc e) 30 = 0 := sm_z (fun i i0 => if_neg (by omega)) 30
  have a6 : LO e = 0 := sm_z (fun i i0 => if_neg (by omega)) 30
  unfold LG QLk QV
  exact ⟨⟨⟨by omega, by omega, by omega⟩, by decide, by decide, by decide⟩, ⟨by decide, ⟨by decide, by decide⟩, by decide⟩, ⟨by decide, by decide⟩, by omega, by omega, by omega, by omega, by omega, fun L l1 _ => by rw [h11]; show L * 0 ≤ (59 * L - 60) * 0 + 965 * L * 0; omega⟩
end LGB
