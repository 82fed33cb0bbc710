/-! THE TELLING, plain: from where all commands of the history are met: twelve at most come back to somebody. -/
section FAR
variable {x : CX} {s s' s0 s1 s2 S : TS} {B : Int} {a b c d e i j v k h l w p r t o q u kd lim m N ω κ γ δ : Int} {F T Z : Prop} {E : Int → Ev} {f : Int → Int → Int → Int} {g : Int → Int → Int → Int → Int}
def fW (N w n l : Int) : Int := if (w = 1 ∨ w = 2) ∧ n < N then 1 else 0
theorem fW_0 (h : ¬ (w = 1 ∨ w = 2)) : fW N w t l = 0 := if_neg fun hh => h hh.1
theorem fW_nn : 0 ≤ fW N w t l ∧ fW N w t l ≤ 1 := by unfold fW; split <;> decide
theorem fW_n (h : N ≤ t) : fW N w t l = 0 := if_neg fun hh => by omega
theorem fW_w (h : w = 1 ∨ w = 2) (ht : t < N) : fW N w t l = 1 := if_pos ⟨h, ht⟩
theorem pcW : PC x (fW (x.1 0)) g00 0 0 True T Z := by
  refine ⟨⟨trivial, Int.le_refl _⟩, fun w n l hw => ⟨by rw [fW_0 hw, fW_0 hw], fW_nn.1⟩, fun r w n l hw _ _ _ _ => fW_nn.1, fun l l' _ _ _ _ => by rw [fW_0 (by omega), fW_0 (by omega)]; decide, fun l _ _ => by rw [fW_0 (by omega), fW_0 (by omega), fW_0 (by omega), fW_0 (by omega)]; exact ⟨by decide, by decide, by decide, by decide⟩, fun l l' _ _ _ _ => by rw [fW_0 (by omega), fW_0 (by omega), fW_0 (by omega)]; decide, fun r l k a b hr _ _ _ _ _ => ⟨fun _ hk => ?_, fun _ hk => ?_, fun hk => ?_⟩, fun r k a b _ _ _ _ k0 k1 => Int.le_refl _⟩
  · rw [fW_n (hr trivial), fW_0 (by omega)]; exact Int.le_refl _
  · rw [fW_n (hr trivial), fW_0 (by omega)]; exact Int.le_refl _
  · rw [fW_0 (by omega), fW_0 (by omega)]; exact Int.le_refl _
def dW (N n : Int) : Int := if n < N then -1 else 0
theorem pdW : PD x (fW (x.1 0)) g00 F T (dW (x.1 0)) 0 := by
  refine ⟨Int.le_refl _, fun w n l l' hw _ _ _ _ => ?_, fun r w n l l' _ _ _ _ => ⟨fun hw _ _ _ _ => ?_, fun hw => ?_⟩⟩
  · rw [fW_0 (by omega)]
    unfold fW dW
    by_cases c : n < x.1 0
    · rw [if_pos ⟨hw, c⟩, if_pos c]; decide
    · rw [if_neg (fun hh => c hh.2), if_neg c]; decide
  · rw [fW_0 (by omega)]
    have := (fW_nn (N := x.1 0) (w := w) (t := n) (l := l)).1
    show (0 : Int) + 0 ≤ _ + 0
    omega
  · rw [fW_0 (by omega), fW_0 hw]; decide
/-- who waits for what the history has -/
def Wc (x : CX) (s : TS) : Int := pF (fW (x.1 0)) s 12 0
theorem Wc_b (h5 : 0 ≤ sg s 0 5 ∧ sg s 0 5 ≤ 12) : 0 ≤ Wc x s ∧ Wc x s ≤ 12 := by
  have : ∀ (n : Nat) (k : Int), 0 ≤ pF (fW (x.1 0)) s n k ∧ pF (fW (x.1 0)) s n k ≤ n := by
    intro n
    induction n with
    | zero => intro k; exact ⟨Int.le_refl _, Int.le_refl _⟩
    | succ n ih =>
      intro k
      have h1 := ih (k + 1)
      have h2 : 0 ≤ pv (fW (x.1 0)) s k ∧ pv (fW (x.1 0)) s k ≤ 1 := by
        unfold pv
        split
        · exact fW_nn
        · decide
      show 0 ≤ pv (fW (x.1 0)) s k + pF (fW (x.1 0)) s n (k + 1) ∧ pv (fW (x.1 0)) s k + pF (fW (x.1 0)) s n (k + 1) ≤ _
      omega
  exact this 12 0
theorem pzW : PZ (fW (x.1 0)) g00 0 0 x s = Wc x s := by
  unfold PZ pI Wc
  rw [iE_0, iL_0, Int.zero_mul, Int.zero_mul]
  omega
/-- from s1 on, where all is met -/
def SG2 (x : CX) (s1 s : TS) : Prop := (0 ≤ sg s1 0 11 ∧ sg s1 0 11 ≤ sg s 0 11) ∧ ∃ b : Int, 0 ≤ b ∧ b + Wc x s ≤ Wc x s1 ∧ sg s 0 40 ≤ sg s1 0 40 + 60 * (cns s - cns s1) + 60 * b + (if sg s1 0 11 = 0 ∧ 0 < sg s 0 11 then 61 else 0) + 60 * (ccn x.2.1 (sg s 0 11).toNat - ccn x.2.1 (sg s1 0 11).toNat) ∧ sg s 0 40 ≤ sg s1 0 40 + 60 * (csg x.2.1 (sg s 0 11).toNat - csg x.2.1 (sg s1 0 11).toNat) + 60 * b + (if sg s1 0 11 = 0 ∧ 0 < sg s 0 11 then 61 else 0) + 60 * (ccn x.2.1 (sg s 0 11).toNat - ccn x.2.1 (sg s1 0 11).toNat) ∧ ∀ (f : Int → Int → Int → Int) (g : Int → Int → Int → Int → Int) (ω κ δ γ : Int), PC x f g ω κ True False True → PD x f g True False (fun _ => δ) γ → 0 ≤ δ → PZ f g ω κ x s ≤ PZ f g ω κ x s1 + δ * b + (if sg s1 0 11 = 0 ∧ 0 < sg s 0 11 then f 0 0 0 - κ else 0) + 13 * γ * (ccn x.2.1 (sg s 0 11).toNat - ccn x.2.1 (sg s1 0 11).toNat)
theorem sg2_rf (h : 0 ≤ sg s 0 11) : SG2 x s s := by
  refine ⟨⟨h, Int.le_refl _⟩, 0, Int.le_refl _, by omega, ?_, ?_, fun f g ω κ δ γ _ _ _ => ?_⟩
  · rw [if_neg (by omega)]; omega
  · rw [if_neg (by omega)]; omega
  · rw [if_neg (by omega), Int.sub_self, Int.mul_zero, Int.mul_zero]; omega
theorem sg2_step (hC : CXX x) (hx : HLn x) (hP : BP x s B) (hg : goes s = true) (i0 : sg s 0 11 ≤ i) (i1 : i < x.1 0) (hi7 : ek (x.2.1 i) ≤ 7) (hi : i = na x (sg s 0 11)) (h30 : sg (sTake x i s) 0 30 = 0) (hj : JJ x True False s) (hf : first s < 0) (hs : SG2 x s1 s) : SG2 x s1 (sTake x i s) := by
  obtain ⟨⟨h1, h2⟩, b, b0, b1, g2, g2', g3⟩ := hs
  have h11 := hP.2.2.2.2.1
  obtain ⟨l1, l2⟩ := ln_take hC hP hj hg hf i0 i1 hi7 h30
  have hcn := cns_take hC hP hj hg i0 i1 hi7 h30
  have e11 := take_11 hC hP i0 i1 hi7 h30
  have hgap : ∀ j : Int, sg s 0 11 ≤ j → j < i → 7 < ek (x.2.1 j) := fun j j0 j1 => na_gap (x := x) (i := sg s 0 11) j0 (by omega)
  have en : (i + 1).toNat = i.toNat + 1 := by omega
  have ei : ((i.toNat : Nat) : Int) = i := by omega
  have hm := ccn_m (E := x.2.1) (i.toNat - (sg s 0 11).toNat) (sg s 0 11).toNat
  have hm1 := ccn_m (E := x.2.1) ((sg s 0 11).toNat - (sg s1 0 11).toNat) (sg s1 0 11).toNat
  have hs0 := csg_m (E := x.2.1) (i.toNat - (sg s 0 11).toNat) (sg s 0 11).toNat
  rw [show (sg s 0 11).toNat + (i.toNat - (sg s 0 11).toNat) = i.toNat by omega] at hm hs0
  rw [show (sg s1 0 11).toNat + ((sg s 0 11).toNat - (sg s1 0 11).toNat) = (sg s 0 11).toNat by omega] at hm1
  have ecc : ccn x.2.1 (i + 1).toNat = ccn x.2.1 i.toNat + if ek (x.2.1 i) = 7 then 1 else 0 := by
    rw [en]
    show ccn x.2.1 i.toNat + (if ek (x.2.1 (i.toNat : Int)) = 7 then 1 else 0) = _
    rw [ei]
  have ecs : csg x.2.1 (i + 1).toNat = csg x.2.1 i.toNat + if ek (x.2.1 i) = 4 then 1 else 0 := by
    rw [en]
    show csg x.2.1 i.toNat + (if ek (x.2.1 (i.toNat : Int)) = 4 then 1 else 0) = _
    rw [ei]
  have hz : ∀ (f : Int → Int → Int → Int) (g : Int → Int → Int → Int → Int) (ω κ δ γ : Int), PC x f g ω κ True False True → PD x f g True False (fun _ => δ) γ → PZ f g ω κ x (sTake x i s) ≤ PZ f g ω κ x s + nK f κ (fun _ => δ) γ s (ek (x.2.1 i)) (ex (x.2.1 i)) := fun f g ω κ δ γ C D => (pz_take C trivial D hC hP hj hg i0 i1 hi7 h30).1
  have hzw := (pz_take (Z := True) (pcW (x := x)) trivial pdW hC hP hj hg i0 i1 hi7 h30).1
  rw [pzW, pzW] at hzw
  have hgm : ∀ γ c1 c2 : Int, 0 ≤ γ → c1 ≤ c2 → 13 * γ * c1 ≤ 13 * γ * c2 := fun γ c1 c2 h0 hc => Int.mul_le_mul_of_nonneg_left hc (by omega)
  have hk0 : 0 ≤ ek (x.2.1 i) := Int.natCast_nonneg _
  have hfst : 0 < sg s 0 11 ∨ ek (x.2.1 i) = 0 := by
    by_cases c : 0 < sg s 0 11
    · exact Or.inl c
    · by_cases ci : i = 0
      · exact Or.inr (by rw [ci]; exact hx.2.2.2.2 (by omega))
      · have g4 := hgap 0 (by omega) (by omega)
        have g5 := hx.2.2.2.2 (by omega)
        omega
  refine ⟨⟨h1, by omega⟩, ?_⟩
  rw [e11, ecc, ecs]
  unfold lnK at l1
  -- the START's share
  have hst : ∀ z : Int, 0 < sg s 0 11 → (if sg s1 0 11 = 0 ∧ 0 < sg s 0 11 then z else 0) = if sg s1 0 11 = 0 ∧ 0 < i + 1 then z else 0 := fun z hp => by
    by_cases c : sg s1 0 11 = 0
    · rw [if_pos ⟨c, hp⟩, if_pos ⟨c, by omega⟩]
    · rw [if_neg (fun hh => c hh.1), if_neg (fun hh => c hh.1)]
  by_cases c0 : ek (x.2.1 i) = 0
  · have hz0 := ((hC.1.2.1 i (by omega) i1 hi7).2.2.1 c0).2
    rw [if_pos c0] at l1
    refine ⟨b, b0, ?_, ?_, ?_, fun f g ω κ δ γ C D d0 => ?_⟩
    · unfold nK at hzw
      rw [if_pos c0, fW_0 (by omega)] at hzw
      omega
    · rw [if_neg (show ¬ (sg s1 0 11 = 0 ∧ 0 < sg s 0 11) by omega)] at g2
      rw [if_neg (show ¬ ek (x.2.1 i) = 7 by omega), if_pos ⟨by omega, by omega⟩]
      omega
    · rw [if_neg (show ¬ (sg s1 0 11 = 0 ∧ 0 < sg s 0 11) by omega)] at g2'
      rw [if_neg (show ¬ ek (x.2.1 i) = 7 by omega), if_neg (show ¬ ek (x.2.1 i) = 4 by omega), if_pos ⟨by omega, by omega⟩]
      omega
    · have z1 := hz f g ω κ δ γ C D
      have z2 := g3 f g ω κ δ γ C D d0
      unfold nK at z1
      rw [if_pos c0] at z1
      rw [if_neg (show ¬ (sg s1 0 11 = 0 ∧ 0 < sg s 0 11) by omega)] at z2
      have z3 := hgm γ (ccn x.2.1 (sg s 0 11).toNat - ccn x.2.1 (sg s1 0 11).toNat) (ccn x.2.1 i.toNat + 0 - ccn x.2.1 (sg s1 0 11).toNat) D.1 (by omega)
      rw [if_neg (show ¬ ek (x.2.1 i) = 7 by omega), if_pos (show sg s1 0 11 = 0 ∧ 0 < i + 1 from ⟨by omega, by omega⟩)]
      omega
  · have hpos : 0 < sg s 0 11 := hfst.resolve_right c0
    rw [if_neg c0] at l1
    rw [← hst 61 hpos]
    by_cases c4 : ek (x.2.1 i) = 4
    · rw [if_pos c4] at l1
      have l4 := (up_take hC hP i0 i1 hi7).2
      have l60 : sg (sTake x i s) 0 40 ≤ sg s 0 40 + 60 := take_60 hC hP i0 i1 hi7 (by omega)
      refine ⟨b, b0, ?_, ?_, ?_, fun f g ω κ δ γ C D d0 => ?_⟩
      · unfold nK at hzw
        rw [if_neg c0, if_pos c4] at hzw
        omega
      · rw [if_neg (show ¬ ek (x.2.1 i) = 7 by omega)]; omega
      · rw [if_neg (show ¬ ek (x.2.1 i) = 7 by omega), if_pos c4]; omega
      · have z1 := hz f g ω κ δ γ C D
        have z2 := g3 f g ω κ δ γ C D d0
        unfold nK at z1
        rw [if_neg c0, if_pos c4] at z1
        have z3 := hgm γ (ccn x.2.1 (sg s 0 11).toNat - ccn x.2.1 (sg s1 0 11).toNat) (ccn x.2.1 i.toNat + 0 - ccn x.2.1 (sg s1 0 11).toNat) D.1 (by omega)
        rw [if_neg (show ¬ ek (x.2.1 i) = 7 by omega), ← hst _ hpos]
        omega
    · rw [if_neg c4] at l1
      by_cases c7 : ek (x.2.1 i) = 7
      · rw [if_pos c7] at l1
        refine ⟨b, b0, ?_, ?_, ?_, fun f g ω κ δ γ C D d0 => ?_⟩
        · unfold nK at hzw
          rw [if_neg c0, if_neg c4, if_pos c7] at hzw
          omega
        · rw [if_pos c7]; omega
        · rw [if_pos c7, if_neg c4]; omega
        · have z1 := hz f g ω κ δ γ C D
          have z2 := g3 f g ω κ δ γ C D d0
          unfold nK at z1
          rw [if_neg c0, if_neg c4, if_pos c7] at z1
          have z3 := hgm γ (ccn x.2.1 (sg s 0 11).toNat - ccn x.2.1 (sg s1 0 11).toNat + 1) (ccn x.2.1 i.toNat + 1 - ccn x.2.1 (sg s1 0 11).toNat) D.1 (by omega)
          rw [Int.mul_add, Int.mul_one] at z3
          rw [if_pos c7, ← hst _ hpos]
          omega
      · rw [if_neg c7] at l1
        rw [if_neg c7, if_neg c4]
        by_cases cw : wtr s (ex (x.2.1 i)) < 0
        · rw [if_pos cw] at l1
          refine ⟨b, b0, ?_, by omega, by omega, fun f g ω κ δ γ C D d0 => ?_⟩
          · unfold nK at hzw
            rw [if_neg c0, if_neg c4, if_neg c7, if_pos cw] at hzw
            omega
          · have z1 := hz f g ω κ δ γ C D
            have z2 := g3 f g ω κ δ γ C D d0
            unfold nK at z1
            rw [if_neg c0, if_neg c4, if_neg c7, if_pos cw] at z1
            have z3 := hgm γ (ccn x.2.1 (sg s 0 11).toNat - ccn x.2.1 (sg s1 0 11).toNat) (ccn x.2.1 i.toNat + 0 - ccn x.2.1 (sg s1 0 11).toNat) D.1 (by omega)
            rw [← hst _ hpos]
            omega
        · rw [if_neg cw] at l1
          have hlt : ex (x.2.1 i) < x.1 0 := by
            have := hx.1.1 i (by omega) i1 (Or.inr (by unfold bkk; omega))
            omega
          refine ⟨b + 1, by omega, ?_, by omega, by omega, fun f g ω κ δ γ C D d0 => ?_⟩
          · unfold nK at hzw
            rw [if_neg c0, if_neg c4, if_neg c7, if_neg cw] at hzw
            unfold dW at hzw
            rw [if_pos hlt] at hzw
            omega
          · have z1 := hz f g ω κ δ γ C D
            have z2 := g3 f g ω κ δ γ C D d0
            unfold nK at z1
            rw [if_neg c0, if_neg c4, if_neg c7, if_neg cw] at z1
            have z1' : PZ f g ω κ x (sTake x i s) ≤ PZ f g ω κ x s + δ := z1
            have z3 := hgm γ (ccn x.2.1 (sg s 0 11).toNat - ccn x.2.1 (sg s1 0 11).toNat) (ccn x.2.1 i.toNat + 0 - ccn x.2.1 (sg s1 0 11).toNat) D.1 (by omega)
            rw [← hst _ hpos, Int.mul_add, Int.mul_one]
            omega
end FAR
