/-! THE TELLING, plain: all that is asked of a kept state. -/
section KPT
variable {x x' : CX} {s s' s1 s2 S t : TS} {B C D T : Int} {a b c d e i j v k h l w p r o q u lim lim' c0 n0 : Int} {E : Int → Ev} {n m : Nat} {Q QB : TS → Prop} {F : List (Int × Int × Int)}
theorem kst_o (h : a ≠ 0 ∨ (j ≠ 12 ∧ j ≠ 13 ∧ j ≠ 28 ∧ j ≠ 29 ∧ j ≠ 30 ∧ j ≠ 31)) : sg (kst S c) a j = sg S a j := by
  unfold kst sKeep
  rw [st_g, if_neg (by omega), st_g, if_neg (by omega), st_g, if_neg (by omega), st_g, if_neg (by omega)]
  show sg (st (st S 0 12 c) 0 13 c) a j = _
  rw [st_g, if_neg (by omega), st_g, if_neg (by omega)]
theorem kst_12 : sg (kst S c) 0 12 = c ∧ sg (kst S c) 0 13 = c ∧ sg (kst S c) 0 29 = 0 ∧ sg (kst S c) 0 30 = 0 := by
  unfold kst sKeep
  refine ⟨?_, ?_, ?_, ?_⟩
  · rw [st_g, if_neg (by omega), st_g, if_neg (by omega), st_g, if_neg (by omega), st_g, if_neg (by omega)]
    show sg (st (st S 0 12 c) 0 13 c) 0 12 = _
    rw [st_g, if_neg (by omega), st_g, if_pos ⟨rfl, rfl⟩]
  · rw [st_g, if_neg (by omega), st_g, if_neg (by omega), st_g, if_neg (by omega), st_g, if_neg (by omega)]
    show sg (st (st S 0 12 c) 0 13 c) 0 13 = _
    rw [st_g, if_pos ⟨rfl, rfl⟩]
  · rw [st_g, if_neg (by omega), st_g, if_neg (by omega), st_g, if_pos ⟨rfl, rfl⟩]
  · rw [st_g, if_neg (by omega), st_g, if_pos ⟨rfl, rfl⟩]
theorem kst_n : sn (kst S c) = [] ∧ (∀ k, sh (kst S c) k = sh S k) ∧ su (kst S c) = su S ∧ ∀ k, sq (kst S c) k = sq S k := ⟨rfl, fun _ => rfl, rfl, fun _ => rfl⟩
/-- a kept state, for the grown history -/
theorem kst_w (h : GRW x x' F lim c0 n0) (hW : SW x S B) (hb : BtW x S) (hF : FNS x S F lim) : SW x' (kst S (x.1 0 + F.length + 1)) B ∧ BtW x' (kst S (x.1 0 + F.length + 1)) := by
  obtain ⟨⟨g1, -⟩, -, -, -, -, -, -, g8, -, -, -, g12⟩ := h
  obtain ⟨h1, h2, h3, h4, h5, h6, h7, h8, h9, h10⟩ := hW
  obtain ⟨b1, b2, b3, b4, b5⟩ := hb
  obtain ⟨k12, k13, k29, k30⟩ := kst_12 (S := S) (c := x.1 0 + F.length + 1)
  obtain ⟨z1, z2, z3, z4⟩ := kst_n (S := S) (c := x.1 0 + F.length + 1)
  have h30 := (goes_p hF.1).1
  have hsn : ((sn S).length : Int) = F.length := by rw [hF.2.2.1]
  refine ⟨⟨by rw [k12]; omega, fun a a0 a1 => by rw [kst_o (by omega)]; exact h2 a a0 a1, fun k k0 k1 => ?_, by rw [z3]; exact h4, fun n n0 n1 => by rw [z4]; exact h5 n n0 n1, by rw [kst_o (by omega)]; exact h6, by rw [k29]; decide, by rw [kst_o (by omega)]; exact h8, Or.inl k30, by rw [kst_o (by omega)]; exact h10⟩, ?_⟩
  · rw [kst_o (by omega)] at k1
    obtain ⟨q1, q2, q3, q4, q5, q6, q7⟩ := h3 k k0 k1
    unfold BrW
    rw [kst_o (a := 2 + k) (j := 0) (by omega), kst_o (a := 0) (j := 6) (by omega), kst_o (a := 2 + k) (j := 4) (by omega), kst_o (a := 2 + k) (j := 7) (by omega), kst_o (a := 2 + k) (j := 8) (by omega), kst_o (a := 2 + k) (j := 5) (by omega), k30, z1, z2, g1]
    refine ⟨q1, q2, q3, q4, fun hw _ => ?_, q6, q7⟩
    have := q5 hw h30
    show 0 ≤ sg S (2 + k) 8 ∧ sg S (2 + k) 8 < x'.1 0 + ((0 : Nat) : Int)
    omega
  · unfold BtW
    rw [k13, kst_o (by omega), kst_o (by omega), kst_o (by omega)]
    exact ⟨by omega, by omega, b3, b4, b5⟩
/-- all that is asked of it -/
theorem kept_all (h : GRW x x' F lim c0 n0) (hC : CXX x) (hC' : CXX x') (hG : GBX x c0 n0 Q QB) (hF : FNS x (told x lim) F lim) (hT : ∀ j : Int, 0 ≤ j → j < x.1 0 → ek (x.2.1 j) = 17 → ex (x.2.1 j) ≤ lim) (l0 : 0 < lim) (h20 : x.1 2 ≤ x.1 1) (hI : HInv x'.2.1 (x'.1 0)) (h2 : x'.1 2 ≤ x'.1 1) (hct : HCt x'.2.1 (x'.1 0) C D T) (hk : C + 2 * D + 2 * T ≤ 540) (hlim : lim < lim') (hA : lim' ≤ cA x'.2.1 (x'.1 0).toNat) :
    (SW x' (kst (told x lim) (x.1 0 + F.length + 1)) (1 + 1001 * lim) ∧ BtW x' (kst (told x lim) (x.1 0 + F.length + 1))) ∧
    (∀ j : Nat, sg (sFollow x' lim' j lim (kst (told x lim) (x.1 0 + F.length + 1))) 0 40 ≤ 200000 ∧ sg (sFollow x' lim' j lim (kst (told x lim) (x.1 0 + F.length + 1))) 0 41 ≤ 2047) ∧
    (∀ n : Nat, lim' - lim < n → ∃ q, Sm (JE x') q (sFollow x' lim' n lim (kst (told x lim) (x.1 0 + F.length + 1))) (told x' lim')) ∧
    x'.1 0 ≤ nc x' (sg (told x' lim') 0 12) := by
  have hk17 := h.hk17
  have hn := hC.2.2.2.2
  have hn' := hC'.2.2.2.2
  have g8 := h.2.2.2.2.2.2.2.1
  have hE := h.2.1
  have hIx : HInv x.2.1 (x.1 0) := (hI.le (by omega)).to fun j j0 j1 => (hE j j0 j1).symm
  obtain ⟨⟨a1, a2, a3⟩, -⟩ := told_sig (lim := lim) hC (hIx.hl rfl rfl) h20 (goes_p hF.1).1
  have hna : na x' (sg (told x lim) 0 11) < x'.1 0 := by
    by_cases c : na x' (sg (told x lim) 0 11) < x'.1 0
    · exact c
    · have h1 := na_cA (x := x') (i := sg (told x lim) 0 11) (by omega) a2 (by omega)
      have h3 := (cc_to (E := x.2.1) (E' := x'.2.1) (sg (told x lim) 0 11).toNat fun i i0 i1 => hE i i0 (by omega)).1
      have h10 := hF.2.1
      omega
  have hb := fol_bp (lim := lim) hC (lim.toNat + 1) 0 s00 1 (bp00 hn.1) rfl (by omega)
  have hb1 : SW x (told x lim) (1 + 1001 * (lim - 0)) ∧ BtW x (told x lim) := hb
  rw [Int.sub_zero] at hb1
  have K3 : ∀ (l2 : Int) (n : Nat), lim < l2 → l2 - lim < n → ∃ q, Sm (JE x') q (sFollow x' l2 n lim (kst (told x lim) (x.1 0 + F.length + 1))) (told x' l2) := fun l2 n hl hn => kept_told h hC hC' hG hF hT l0 rfl hl hna n hn
  have t40 : ∀ l2 : Int, sg (told x' l2) 0 40 ≤ 194582 := fun l2 => told_40 hC' hI h2 hct hk
  have t41 : ∀ l2 : Int, sg (told x' l2) 0 41 ≤ 541 := fun l2 => told_41 hC' hI h2 hct hk
  have key : ∀ w Bd : Int, (w = 40 ∨ w = 41) → (∀ l2 : Int, sg (told x' l2) 0 w ≤ Bd) → ∀ j : Nat, sg (sFollow x' lim' j lim (kst (told x lim) (x.1 0 + F.length + 1))) 0 w ≤ Bd := fun w Bd hw tw j => by
    by_cases c0 : j = 0
    · subst c0
      show sg (kst (told x lim) (x.1 0 + F.length + 1)) 0 w ≤ Bd
      rw [kst_o (by omega)]
      obtain ⟨p, m, B2, e1, e2, -, -⟩ := grow_at h hC hC' hG hF hT l0 (Int.le_refl lim)
      obtain ⟨m', rfl⟩ : ∃ m' : Nat, m = m' + 1 := ⟨m - 1, by omega⟩
      have e3 : sFollow x' lim (m' + 1) lim (ax p (x'.1 0) [] (told x lim)) = ax p (x'.1 0) [] (told x lim) := by
        unfold sFollow
        rw [if_neg (Int.lt_irrefl _)]
      have h4 := tw lim
      rw [e1, e3, ax_o (by omega)] at h4
      exact h4
    · by_cases c1 : lim' - lim < j
      · obtain ⟨q, hq⟩ := K3 lim' j hlim c1
        rw [sm_g hq (by omega)]
        exact tw lim'
      · rw [fol_lim j lim _ (by omega)]
        obtain ⟨q, hq⟩ := K3 (lim + j) (j + 1) (by omega) (by omega)
        rw [sm_g hq (by omega)]
        exact tw (lim + j)
  refine ⟨kst_w h hb1.1 hb1.2 hF, fun j => ⟨?_, ?_⟩, fun n hn => K3 lim' n hlim hn, ?_⟩
  · have := key 40 194582 (Or.inl rfl) t40 j
    omega
  · have := key 41 541 (Or.inr rfl) t41 j
    omega
  · obtain ⟨p, m, B2, e1, e2, e3, e4⟩ := grow_at h hC hC' hG hF hT l0 (Int.le_of_lt hlim)
    rw [e1]
    refine fol_far hk17 hC' m lim _ B2 e4 ?_
    rw [ax_g, if_pos ⟨rfl, rfl⟩, e3]
    exact Int.le_refl _
end KPT
