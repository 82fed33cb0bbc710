/-! THE LEDGER: what it comes to, and how it begins. -/
section LGB
variable {e e' : ES} {S D T B V S' D' T' a b c i j p k30 k31 v w : Int} {W : Int} {Y : Int → Int → Prop} {X : Int → Int → Int → Prop} {f : Int → Int}
theorem mul_top2 (h0 : 0 ≤ p) (h1 : p ≤ 286) : p * (572 - 2 * p) ≤ 40898 := by
  have key : ∀ n : Fin 287, ((n.val : Nat) : Int) * (572 - 2 * ((n.val : Nat) : Int)) ≤ 40898 := by decide +kernel
  have := key ⟨p.toNat, by omega⟩
  rw [show (((⟨p.toNat, by omega⟩ : Fin 287).val : Nat) : Int) = p by show ((p.toNat : Nat) : Int) = p; omega] at this
  exact this
theorem sm_z (h : ∀ i : Int, 0 ≤ i → f i = 0) : ∀ n : Nat, sm f n = 0 := by
  intro n
  induction n with
  | zero => rfl
  | succ n ih =>
    show sm f n + f (n : Int) = 0
    rw [ih, h (n : Int) (by omega)]
    rfl
theorem QLk_n : 0 ≤ QLk e := by
  have h1 : 0 ≤ sm (qTm e) 30 := sm_nn (fun i _ => by unfold qTm; split <;> omega) 30
  have h2 : 0 ≤ sm (qAc e) 60 := sm_nn (fun i _ => by unfold qAc; split <;> omega) 60
  unfold QLk
  omega
theorem QV_n (h : HK S D T Y X e) : 0 ≤ QV e := by
  have h1 : 0 ≤ sm (qAl e) 30 := sm_nn (fun i _ => by unfold qAl; split <;> omega) 30
  have h2 : 0 ≤ sm (qNc e) 30 := sm_nn (fun i i0 => by
    by_cases ci : i < e.1 7 2
    · have w1 : qNc e i = 1 - ccr e i := if_pos ci
      have := ccr_01 (h.2.1 i i0 ci).1.2
      omega
    · have w1 : qNc e i = 0 := if_neg ci
      omega) 30
  unfold QV
  omega
theorem sm_cst (h : ∀ i : Int, 0 ≤ i → f i ≤ c) : ∀ n : Nat, sm f n ≤ c * n := by
  intro n
  induction n with
  | zero => show (0 : Int) ≤ c * 0; rw [Int.mul_zero]; exact Int.le_refl _
  | succ n ih =>
    have := h (n : Int) (by omega)
    show sm f n + f (n : Int) ≤ c * ((n + 1 : Nat) : Int)
    rw [show ((n + 1 : Nat) : Int) = (n : Int) + 1 by omega, Int.mul_add, Int.mul_one]
    omega
theorem QV_le : QV e ≤ 60 := by
  have h1 := sm_cst (f := qAl e) (c := 1) (fun i _ => by unfold qAl; split <;> omega) 30
  have h2 := sm_cst (f := qNc e) (c := 1) (fun i _ => by
    have := ccn_n (E := eH e i) (hN e i).toNat
    unfold qNc ccr
    split <;> omega) 30
  unfold QV
  omega
theorem QLk_le (h : HK S D T nWt X e) (hF : FBi nZ e) : QLk e ≤ 420 := by
  have n7 := h.cn.1
  have h1 := sm_cst (f := qTm e) (c := 12) (fun q q0 => by
    by_cases ci : q < e.1 7 2
    · have w1 : qTm e q = ((eL e (73000 + q)).length : Int) := if_pos ci
      have : (eL e (73000 + q)).length ≤ 12 := by
        refine tm12 (p := hN e q) h (hF.2.1 q q0 ci).2.1 q0 ci (h.len q0 ci).1 (Int.le_refl _) (fun j j0 j1 hw => hw.elim) fun v hv => ?_
        exact (h.2.2.2.1 9 q v 0 (Or.inr (Or.inr (Or.inl ⟨rfl, rfl, ⟨q0, ci⟩, hv⟩)))).2.1.2.1
      omega
    · have w1 : qTm e q = 0 := if_neg ci
      omega) 30
  have h2 := sm_cst (f := qAc e) (c := 1) (fun i _ => by unfold qAc; split <;> omega) 60
  unfold QLk
  omega
theorem LG.num (h : LG k30 k31 S D T B W V e) (hh : HK S' D' T' Y X e) (hk : S + 2 * D + 2 * T ≤ 512) : V ≤ 20593 ∧ W ≤ 40898 ∧ e.1 4 16 ≤ 897000 ∧ e.1 3 0 ≤ k30 + 2420000 ∧ e.1 3 1 ≤ k31 + 890000 ∧ e.1 68 29 ≤ 320000 := by
  obtain ⟨⟨⟨b0, b1⟩, s0, d0, t0⟩, ⟨v0, v1⟩, ⟨w0, w1⟩, h4, h5, h6, h7, h9⟩ := h
  have n7 := hh.cn.1
  have hU : 0 ≤ sm (qU e) 30 := sm_nn (fun i _ => (qu_cs i).1) 30
  have hL : 0 ≤ LO e := LO_n
  have hK := QLk_n (e := e)
  have hV := QV_n hh
  have c1 := Int.mul_comm S (B + T)
  have c2 := Int.mul_comm S (30 + T)
  have c3 := Int.mul_comm (572 - 2 * (30 + T)) (30 + T)
  have w2 := mul_up (a := B + T) (b := 30 + T) (c := S) (by omega) s0
  have w3 := mul_up (a := S) (b := 572 - 2 * (30 + T)) (c := 30 + T) (by omega) (by omega)
  have w4 := mul_top2 (p := 30 + T) (by omega) (by omega)
  have hW : W ≤ 40898 := by
    generalize S * (B + T) = q1 at *
    generalize (B + T) * S = q2 at *
    generalize S * (30 + T) = q3 at *
    generalize (30 + T) * S = q4 at *
    generalize (572 - 2 * (30 + T)) * (30 + T) = q5 at *
    generalize (30 + T) * (572 - 2 * (30 + T)) = q6 at *
    omega
  have hV2 : V ≤ 20593 := by
    by_cases cd : D ≤ 31 + T
    · have z1 := mul_up (a := S) (b := 574 - 4 * D) (c := D) (by omega) d0
      have z2 := mul_top (p := D) d0 (by omega)
      have z3 := Int.mul_comm (574 - 4 * D) D
      generalize S * D = q1 at *
      generalize (574 - 4 * D) * D = q2 at *
      generalize D * (574 - 4 * D) = q3 at *
      omega
    · have z1 := mul_up (a := S) (b := 574 - 4 * (31 + T)) (c := 31 + T) (by omega) (by omega)
      have z2 := mul_top (p := 31 + T) (by omega) (by omega)
      have z3 := Int.mul_comm (574 - 4 * (31 + T)) (31 + T)
      have z4 : S * (31 + T) = S * (30 + T) + S := by rw [show 31 + T = 30 + T + 1 by omega, Int.mul_add, Int.mul_one]
      generalize S * (B + T) = q1 at *
      generalize (B + T) * S = q2 at *
      generalize S * (30 + T) = q3 at *
      generalize (30 + T) * S = q4 at *
      generalize S * (31 + T) = q5 at *
      generalize (574 - 4 * (31 + T)) * (31 + T) = q6 at *
      generalize (31 + T) * (574 - 4 * (31 + T)) = q7 at *
      omega
  exact ⟨hV2, hW, by omega, by omega, by omega, by omega⟩
theorem lg_beg (h29 : e.1 68 29 ≤ 0) (h7 : e.1 7 2 = 0) (h8 : e.1 8 2 = 0) (h16 : e.1 4 16 = 0) (h30 : e.1 3 0 ≤ k30) (h31 : e.1 3 1 ≤ k31) : LG k30 k31 0 0 0 0 0 0 e := by
  have a1 : sm (qU e) 30 = 0 := sm_z (fun i i0 => if_neg (by omega)) 30
  have a2 : sm (qTm e) 30 = 0 := sm_z (fun i i0 => if_neg (by omega)) 30
  have a3 : sm (qAc e) 60 = 0 := sm_z (fun i i0 => if_neg (fun g => by omega)) 60
  have a4 : sm (qAl e) 30 = 0 := sm_z (fun i i0 => if_neg (fun g => by omega)) 30
  have a5 : sm (qNc e) 30 = 0 := sm_z (fun i i0 => if_neg (by omega)) 30
  have a6 : LO e = 0 := sm_z (fun i i0 => if_neg (by omega)) 30
  unfold LG QLk QV
  exact ⟨⟨⟨by omega, by omega⟩, by decide, by decide, by decide⟩, ⟨by decide, by decide⟩, ⟨by decide, by decide⟩, by omega, by omega, by omega, by omega, by omega⟩
end LGB
